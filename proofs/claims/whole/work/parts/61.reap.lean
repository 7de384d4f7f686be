/-! both sides: reap -/
def AA (t : Th) (x b : Nat) (ca la sa mg : Nat → Nat) (N : Mm) (LS FL : Nat → List Nat) (hz dz : Nat → Nat) : Prop := WW N LS FL ∧ WM N hz ∧ KK t x b ca la sa N LS FL ∧ KP t ca mg dz N ∧ KM t mg hz N ∧ KZ t ca N ∧ ∀ a, tC t a ≠ 0 → a < tN t
theorem lc_congr {N N' : Mm} {c : Nat} : ∀ n, (∀ u, u < n → ((N' 18 u = 2 ∧ N' 14 (N' 2 (u / 128)).toNat = (c : Int)) ↔ (N 18 u = 2 ∧ N 14 (N 2 (u / 128)).toNat = (c : Int)))) → lc N' c n = lc N c n := by
  intro n
  induction n with
  | zero => intro _; rfl
  | succ n ih =>
    intro h
    unfold lc
    rw [ih (fun u hu => h u (by omega))]
    by_cases e : N 18 n = 2 ∧ N 14 (N 2 (n / 128)).toNat = (c : Int)
    · rw [if_pos e, if_pos ((h n (by omega)).mpr e)]
    · rw [if_neg e, if_neg (fun q => e ((h n (by omega)).mp q))]
section
variable {t : Th} {x b : Nat} {ca la sa mg : Nat → Nat} {N N' : Mm} {LS FL : Nat → List Nat} {hz dz : Nat → Nat} {p i l : Nat}
theorem kp_lv {N' : Mm} (h : ∀ c, Lv N' c = Lv N c) (k : KP t ca mg dz N) : KP t ca mg dz N' := fun c hc => k c (by rw [← h c]; exact hc)
theorem km_lv {N' : Mm} (h : ∀ c, Lv N' c = Lv N c) (h24 : N' 24 = N 24) (h26 : N' 26 = N 26) (k : KM t mg hz N) : KM t mg hz N' := by
  have e : ∀ s, Pr N' hz s = Pr N hz s := fun s => by unfold Pr; rw [h]
  have e2 : ∀ s k, hv N' s k = hv N s k := fun s k => by unfold hv; rw [h24, h26]
  unfold KM at *
  simp only [e, e2]
  exact k
theorem all_free (hP : WP N) (hG : WG N) (hS : WS N FL) (hp : Sl N p) (h0 : N 16 p = 0) : ∀ i, i < fN N (wN N p) → N 18 (U N p i) = 1 := by
  intro i hi
  obtain ⟨a1, a2, a3, a4, a5, a6⟩ := hS p hp
  rcases a6 i hi with ⟨_, z⟩ | ⟨z, _⟩
  · exact z
  · exfalso
    have := nodup_len _ (i :: FL p) (List.nodup_cons.mpr ⟨z, a2⟩) (fun y hy => by
      rcases List.mem_cons.mp hy with rfl | hy
      · exact hi
      · exact a3 y hy)
    rw [List.length_cons] at this
    omega
theorem give_AA (hA : AA t x b ca la sa mg N LS FL hz dz) (hp : Sl N p) (hf : ∀ i, i < fN N (wN N p) → N 18 (U N p i) = 1) : ∃ t' N', t_X5_giveBack t (x : Int) (sa p : Int) = some (((2 ^ oN N (wN N p) : Nat) : Int), t') ∧ g_X6_giveSlab N (p : Int) = some (((2 ^ oN N (wN N p) : Nat) : Int), N') ∧ AA t' x b ca la sa mg N' (lu LS (3 * wN N p + wh N p) ((LS (3 * wN N p + wh N p)).erase p)) FL hz dz ∧ (∀ b, b ≠ 1 → b ≠ 2 → b ≠ 18 → b ≠ 21 → b ≠ 22 → N' b = N b) := by
  obtain ⟨hW, hM, hK, hKP, hKM, hKZ, hT⟩ := hA
  obtain ⟨t', N', r1, r2, r3, r4, r5, r6, r7, r8, r9, r10, r11⟩ := give_pair hW hM hK hp hf
  obtain ⟨hP, hB, hG, hS, hZ, hR⟩ := hW
  have kC := hK.2.2.1
  have hb : ∀ b, b ≠ 1 → b ≠ 2 → b ≠ 18 → b ≠ 21 → b ≠ 22 → N' b = N b := fun b h1 h2 h3 h4 h5 => by
    rw [r6 b h4 h5]
    unfold gsS
    rw [msA_ne h1, msA_ne h2, msA_ne h3]
  have hlv : ∀ c, Lv N' c = Lv N c := fun c => by unfold Lv; rw [hb 3 (by decide) (by decide) (by decide) (by decide) (by decide), hb 4 (by decide) (by decide) (by decide) (by decide) (by decide)]
  refine ⟨t', N', r1, r2, ⟨r3, r4, r5, kp_lv hlv (kp_fe r7 (by decide) (by decide) (by decide) (by decide) kC hKP), km_lv hlv (hb 24 (by decide) (by decide) (by decide) (by decide) (by decide)) (hb 26 (by decide) (by decide) (by decide) (by decide) (by decide)) (km_fe r7 (by decide) (by decide) hKM), fun c hc => ?_, r7.2.2 hT⟩, hb⟩
  rw [hlv] at hc
  rw [kz_fe r7 (by decide) kC hKZ c hc]
  suffices h : lc N' c 32768 = lc N c 32768 by rw [h]
  refine lc_congr 32768 (fun u hu => ?_)
  have e18 : N' 18 = zr (N 18) (U N p) (fun _ => 0) (fN N (wN N p)) := by rw [r6 18 (by decide) (by decide)]; rfl
  have e2 : ∀ q, N' 2 q = if p ≤ q ∧ q < p + 2 ^ oN N (wN N p) then -1 else N 2 q := fun q => by rw [r6 2 (by decide) (by decide)]; rfl
  have e14 : N' 14 = N 14 := hb 14 (by decide) (by decide) (by decide) (by decide) (by decide)
  have hinj : ∀ j k, j < fN N (wN N p) → k < fN N (wN N p) → U N p j = U N p k → j = k := fun j k hj hk q => (u_inj hP hG hp hj hp hk q).2
  by_cases e : ∃ i, i < fN N (wN N p) ∧ u = U N p i
  · obtain ⟨i, h1, h2⟩ := e
    subst h2
    have z1 : N' 18 (U N p i) = 0 := by rw [e18, zr_in _ hinj i h1]
    have z2 := hf i h1
    constructor
    · rintro ⟨q, _⟩; omega
    · rintro ⟨q, _⟩; omega
  · have z1 : N' 18 u = N 18 u := by rw [e18, zr_out _ (fun j hj q => e ⟨j, hj, q⟩)]
    rw [z1, e14]
    by_cases e3 : N 18 u = 2
    · obtain ⟨q, j, y1, y2, y3⟩ := hZ u hu (by omega)
      have hne : q ≠ p := fun z => e ⟨j, by rw [← z]; exact y2, by rw [← z]; exact y3⟩
      have y4 := (u_pg hP hG y1 y2).1
      rw [← y3] at y4
      have : N' 2 (u / 128) = N 2 (u / 128) := by
        rw [e2, if_neg]
        rintro ⟨w1, w2⟩
        have := ((hG.2 p hp).2.2.2.2.2 _ w1 w2).2
        omega
      rw [this]
    · exact ⟨fun z => absurd z.1 e3, fun z => absurd z.1 e3⟩
/-- what the two sides of a run that gives slabs back end in -/
def RR (T : Option (Int × Th)) (G : Option (Int × Mm)) (x b : Nat) (ca la sa mg : Nat → Nat) (FL : Nat → List Nat) (hz dz : Nat → Nat) (N : Mm) (LS : Nat → List Nat) : Prop := ∃ r t' N' LS', T = some (r, t') ∧ G = some (r, N') ∧ AA t' x b ca la sa mg N' LS' FL hz dz ∧ (∀ b, b ≠ 1 → b ≠ 2 → b ≠ 18 → b ≠ 21 → b ≠ 22 → N' b = N b) ∧ ∀ l, l % 3 ≠ 2 → LS' l = LS l
theorem reap_in {c : Nat} {T3 : Nat → Int} {kT : Th → Int → Int → Int → Option (Int × Th)} {kG : Mm → Int → Int → Option (Int × Mm)} (hc : c < 8) : ∀ (n : Nat) (t : Th) (N : Mm) (LS : Nat → List Nat) (a : Int) (m m' : Nat), AA t x b ca la sa mg N LS FL hz dz → (LS (3 * c + 2)).length = n → n < m → n < m' → (Lv N c ∨ LS (3 * c + 2) = []) → N 3 = T3 → (∀ t N LS a, AA t x b ca la sa mg N LS FL hz dz → N 3 = T3 → RR (kT t (x : Int) a ((c + 1 : Nat) : Int)) (kG N a ((c + 1 : Nat) : Int)) x b ca la sa mg FL hz dz N LS) → RR (t_X5_reap_b38 kT m t (x : Int) a (c : Int) (hdA ((LS (3 * c + 2)).map sa))) (g_X6_reapAll_b12 kG m' N a (c : Int)) x b ca la sa mg FL hz dz N LS := by
  intro n
  induction n with
  | zero =>
    intro t N LS a m m' hA hl hm hm' hv h3 hk
    cases m with
    | zero => omega
    | succ m =>
      cases m' with
      | zero => omega
      | succ m' =>
        have e0 : LS (3 * c + 2) = [] := List.length_eq_zero_iff.mp hl
        have h21 := (hA.1.2.2.2.2.2.1 (3 * c + 2) (by omega)).1
        show RR (t_X5_reap_s38 kT _ t (x : Int) a (c : Int) _) (g_X6_reapAll_s12 kG _ N a (c : Int)) _ _ _ _ _ _ _ _ _ _ _
        unfold t_X5_reap_s38 g_X6_reapAll_s12
        have e1 : wr (wr (3 * (c : Int)) + 2) = ((3 * c + 2 : Nat) : Int) := w3 hc (by decide)
        rw [e1, q_mg (show 3 * c + 2 < mlen 21 by show _ < 24; omega), Option.bind_some, h21, e0, if_pos (show hdA (List.map sa []) < 0 from (by decide : (-1 : Int) < 0)), if_pos (show ((([] : List Nat).length : Nat) : Int) ≤ 0 by decide), w1 (by omega)]
        exact hk t N LS a hA h3
  | succ n ih =>
    intro t N LS a m m' hA hl hm hm' hv h3 hk
    cases m with
    | zero => omega
    | succ m =>
      cases m' with
      | zero => omega
      | succ m' =>
        cases hL : LS (3 * c + 2) with
        | nil => rw [hL] at hl; cases hl
        | cons p r =>
          have hW := hA.1
          have hR := hW.2.2.2.2.2
          have hpl : p ∈ LS (3 * c + 2) := by rw [hL]; exact List.mem_cons_self
          obtain ⟨hp, hpw⟩ := ((hR.2 (3 * c + 2) (by omega)).2 p).mp hpl
          have hwl := wh_lt (N := N) (p := p)
          have hwc : wN N p = c := by omega
          have hwh : wh N p = 2 := by omega
          have h16 : N 16 p = 0 := by
            unfold wh at hwh
            split at hwh
            · assumption
            · split at hwh <;> omega
          have hlv : Lv N c := hv.resolve_right (by rw [hL]; exact List.cons_ne_nil _ _)
          have hf := all_free hW.1 hW.2.2.1 hW.2.2.2.1 hp h16
          obtain ⟨t', N', g1, g2, g3, g4⟩ := give_AA hA hp hf
          rw [hwc, hwh] at g3
          obtain ⟨l1, l2, l3⟩ := hR.1 (3 * c + 2) (by omega)
          have h22 := l3 0 (by rw [hL]; exact Nat.succ_pos _)
          simp only [hL, List.getElem_cons_zero, Nat.add_zero] at h22
          have kI := hA.2.2.1.2.2.2.2.2.1
          have kL := hA.2.2.1.2.2.2.2.2.2.2 (3 * c + 2) (by omega) (by rw [show (3 * c + 2) / 3 = c by omega]; exact hlv)
          have hat : tV t (sa p) (gf 3 6) 0 = hdA (r.map sa) := by
            have := kL.2.1
            rw [hL] at this
            exact this.2.1
          have her : (LS (3 * c + 2)).erase p = r := by rw [hL]; exact List.erase_cons_head _ _
          rw [her] at g3
          have hc1 := (kI p hp).1
          have hcx := hA.2.2.1.1.1
          show RR (t_X5_reap_s38 kT _ t (x : Int) a (c : Int) _) (g_X6_reapAll_s12 kG _ N a (c : Int)) _ _ _ _ _ _ _ _ _ _ _
          unfold t_X5_reap_s38 g_X6_reapAll_s12
          have e1 : wr (wr (3 * (c : Int)) + 2) = ((3 * c + 2 : Nat) : Int) := w3 hc (by decide)
          rw [e1, q_mg (show 3 * c + 2 < mlen 21 by show _ < 24; omega), Option.bind_some, l1, hL, w256 (by omega), q_mg (show 256 * (3 * c + 2) < mlen 22 by show _ < 6144; omega), h22]
          rw [if_neg (show ¬ hdA (List.map sa (p :: r)) < 0 by show ¬ (sa p : Int) < 0; omega), if_neg (show ¬ (((p :: r).length : Nat) : Int) ≤ 0 by rw [List.length_cons]; omega), Option.bind_some, g2]
          show RR (Option.bind (tgt t 3 6 (sa p : Int)) fun v8 => Option.bind (tck t 5 (x : Int)) fun u10 => Option.bind (t_X5_giveBack t (x : Int) (sa p : Int)) fun r9 => _) _ _ _ _ _ _ _ _ _ _ _ _
          rw [q_gt 6 hc1, Option.bind_some, hat, q_ck hcx, Option.bind_some, g1, Option.bind_some, Option.bind_some]
          have hlen : r.length = n := by rw [hL, List.length_cons] at hl; omega
          have := ih t' N' (lu LS (3 * c + 2) r) (wr (a + ((2 ^ oN N (wN N p) : Nat) : Int))) m m' g3 (by rw [lu_same]; exact hlen) (by omega) (by omega) (Or.inl (by unfold Lv; rw [g4 3 (by decide) (by decide) (by decide) (by decide) (by decide), g4 4 (by decide) (by decide) (by decide) (by decide) (by decide)]; exact hlv)) ((g4 3 (by decide) (by decide) (by decide) (by decide) (by decide)).trans h3) hk
          rw [lu_same] at this
          obtain ⟨rr, t2, N2, LS2, y1, y2, y3, y4, y5⟩ := this
          exact ⟨rr, t2, N2, LS2, y1, y2, y3, fun b h1 h2 h3 h4 h5 => (y4 b h1 h2 h3 h4 h5).trans (g4 b h1 h2 h3 h4 h5), fun l hl => (y5 l hl).trans (lu_ne (by omega))⟩
theorem reap_skip (kH : KH t x b ca sa N) : ∀ (n c : Nat) (a : Int) (m : Nat), c + n = 8 → (∀ d, c ≤ d → d < 8 → ¬ Lv N d) → n < m → t_X5_reap_b4 m t (x : Int) a (c : Int) = some (a, t) := by
  obtain ⟨a1, a2, a3, a4, a5, a6, a7⟩ := kH
  intro n
  induction n with
  | zero =>
    intro c a m hc hd hm
    cases m with
    | zero => omega
    | succ m =>
      show t_X5_reap_s4 _ t (x : Int) a (c : Int) = _
      unfold t_X5_reap_s4
      rw [if_pos (by omega)]
  | succ n ih =>
    intro c a m hc hd hm
    cases m with
    | zero => omega
    | succ m =>
      show t_X5_reap_s4 _ t (x : Int) a (c : Int) = _
      unfold t_X5_reap_s4 t_X5_reap_j37
      have e := (a7 c (by omega)).2 (hd c (by omega) (by omega))
      rw [if_neg (by omega), q_rf 2 a1, Option.bind_some, q_al a1 a3.1 (by omega), Option.bind_some, e, if_neg (by decide)]
      show t_X5_reap_s38 _ _ t (x : Int) a (c : Int) (-1) = _
      unfold t_X5_reap_s38
      rw [if_pos (by decide), w1 (by omega)]
      exact ih (c + 1) a m (by omega) (fun d h1 h2 => hd d (by omega) h2) (by omega)
theorem reap_out : ∀ (n c : Nat) (t : Th) (N : Mm) (LS : Nat → List Nat) (a : Int) (m m' : Nat), AA t x b ca la sa mg N LS FL hz dz → c + n = 8 → (c : Int) ≤ N 3 0 → n < m → n < m' → RR (t_X5_reap_b4 m t (x : Int) a (c : Int)) (g_X6_reapAll_b4 m' N a (c : Int)) x b ca la sa mg FL hz dz N LS := by
  intro n
  induction n with
  | zero =>
    intro c t N LS a m m' hA hc ht hm hm'
    cases m' with
    | zero => omega
    | succ m' =>
      have h8 := hA.1.1.1
      rw [reap_skip hA.2.2.1.1 0 c a m hc (fun d h1 h2 => by omega) hm]
      show RR _ (g_X6_reapAll_s4 _ N a (c : Int)) _ _ _ _ _ _ _ _ _ _ _
      unfold g_X6_reapAll_s4
      rw [Option.bind_some, if_pos (by omega)]
      exact ⟨a, t, N, LS, rfl, rfl, hA, fun _ _ _ _ _ _ => rfl, fun _ _ => rfl⟩
  | succ n ih =>
    intro c t N LS a m m' hA hc ht hm hm'
    have h8 := hA.1.1.1
    by_cases e : N 3 0 ≤ (c : Int)
    · cases m' with
      | zero => omega
      | succ m' =>
        rw [reap_skip hA.2.2.1.1 (n + 1) c a m hc (fun d h1 h2 => fun hL => by have := hL.1; omega) hm]
        show RR _ (g_X6_reapAll_s4 _ N a (c : Int)) _ _ _ _ _ _ _ _ _ _ _
        unfold g_X6_reapAll_s4
        rw [Option.bind_some, if_pos e]
        exact ⟨a, t, N, LS, rfl, rfl, hA, fun _ _ _ _ _ _ => rfl, fun _ _ => rfl⟩
    · cases m with
      | zero => omega
      | succ m =>
        cases m' with
        | zero => omega
        | succ m' =>
          obtain ⟨a1, a2, a3, a4, a5, a6, a7⟩ := hA.2.2.1.1
          have hlen : (LS (3 * c + 2)).length ≤ 256 := (hA.1.2.2.2.2.2.1 (3 * c + 2) (by omega)).2.1
          have hk : ∀ t N' LS a, AA t x b ca la sa mg N' LS FL hz dz → N' 3 = N 3 → RR (t_X5_reap_b4 m t (x : Int) a ((c + 1 : Nat) : Int)) (g_X6_reapAll_b4 m' N' a ((c + 1 : Nat) : Int)) x b ca la sa mg FL hz dz N' LS := fun t N' LS a h1 h2 => ih (c + 1) t N' LS a m m' h1 (by omega) (by rw [h2]; omega) (by omega) (by omega)
          show RR (t_X5_reap_s4 _ t (x : Int) a (c : Int)) (g_X6_reapAll_s4 _ N a (c : Int)) _ _ _ _ _ _ _ _ _ _ _
          unfold g_X6_reapAll_s4 t_X5_reap_s4 t_X5_reap_j37
          rw [Option.bind_some, if_neg e, if_neg (by omega), q_rf 2 a1, Option.bind_some, q_al a1 a3.1 (by omega), Option.bind_some]
          by_cases hv : Lv N c
          · have kC := hA.2.2.1.2.2.1.1 c hv
            have kL := hA.2.2.1.2.2.2.2.2.2.2 (3 * c + 2) (by omega) (by rw [show (3 * c + 2) / 3 = c by omega]; exact hv)
            rw [(a7 c (by omega)).1 hv, if_pos (by omega), Option.bind_some, q_al a1 a3.1 (by omega), Option.bind_some, (a7 c (by omega)).1 hv, q_rf 12 kC.1, Option.bind_some, show (2 : Int) = ((2 : Nat) : Int) from rfl, q_al kC.1 kC.2.2.1.1.1 (by rw [kC.2.2.1.1.2]; decide), Option.bind_some, (kC.2.2.2 2 (by decide)).1, q_gt 0 (kC.2.2.2 2 (by decide)).2, Option.bind_some, kL.1]
            exact reap_in (by omega) _ t N LS a fuel fuel hA rfl (by show _ < 40000; omega) (by show _ < 40000; omega) (Or.inl hv) rfl hk
          · have hnil : LS (3 * c + 2) = [] := by
              cases hL : LS (3 * c + 2) with
              | nil => rfl
              | cons p r =>
                exfalso
                have hW := hA.1
                obtain ⟨hp, hpw⟩ := ((hW.2.2.2.2.2.2 (3 * c + 2) (by omega)).2 p).mp (by rw [hL]; exact List.mem_cons_self)
                have hwl := wh_lt (N := N) (p := p)
                have := (hW.2.2.1.2 p hp).2.2.1
                rw [show wN N p = c by omega] at this
                exact hv this
            rw [(a7 c (by omega)).2 hv, if_neg (by decide)]
            have := reap_in (kT := t_X5_reap_b4 m) (kG := g_X6_reapAll_b4 m') (by omega) _ t N LS a fuel fuel hA rfl (by show _ < 40000; omega) (by show _ < 40000; omega) (Or.inr hnil) rfl hk
            rw [hnil] at this
            exact this
/-- reap, on both sides -/
theorem reap_pair (hA : AA t x b ca la sa mg N LS FL hz dz) : RR (t_X5_reap t (x : Int)) (g_X6_reapAll N) x b ca la sa mg FL hz dz N LS :=
  reap_out 8 0 t N LS 0 fuel fuel hA rfl hA.1.1.1.1 (by decide) (by decide)
end
