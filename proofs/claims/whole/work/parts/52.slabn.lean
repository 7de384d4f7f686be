/-! the reference: a slab is given back, a slab is made -/
def rg (g : Nat → Int) (p n : Nat) (v : Int) : Nat → Int := fun q => if p ≤ q ∧ q < p + n then v else g q
def zr (g : Nat → Int) (h : Nat → Nat) (v : Nat → Int) : Nat → (Nat → Int)
  | 0 => g
  | n + 1 => fu (zr g h v n) (h n) (v n)
theorem zr_out {g : Nat → Int} {h : Nat → Nat} {v : Nat → Int} {u : Nat} : ∀ n, (∀ j, j < n → u ≠ h j) → zr g h v n u = g u := by
  intro n
  induction n with
  | zero => intro _; rfl
  | succ n ih =>
    intro hn
    unfold zr
    rw [fu_ne (hn n (by omega)), ih (fun j hj => hn j (by omega))]
theorem zr_in {g : Nat → Int} {h : Nat → Nat} {v : Nat → Int} : ∀ n, (∀ j k, j < n → k < n → h j = h k → j = k) → ∀ j, j < n → zr g h v n (h j) = v j := by
  intro n
  induction n with
  | zero => intro _ j hj; omega
  | succ n ih =>
    intro hi j hj
    unfold zr
    by_cases e : j = n
    · subst e; exact fu_same _ _ _
    · rw [fu_ne (fun q => e (hi j n hj (by omega) q)), ih (fun a b ha hb q => hi a b (by omega) (by omega) q) j (by omega)]
/-- all but the pages' row -/
def Es (N N' : Mm) : Prop := N' 3 = N 3 ∧ N' 4 = N 4 ∧ N' 5 = N 5 ∧ N' 6 = N 6 ∧ N' 7 = N 7 ∧ N' 8 = N 8 ∧ N' 9 = N 9 ∧ N' 10 = N 10 ∧ N' 11 = N 11 ∧ N' 14 = N 14 ∧ N' 15 = N 15
section
variable {N N' : Mm}
theorem es_ep (h : Es N N') : Ep N (msA N' 2 (N 2)) := ⟨msA_same _ _ _, by rw [msA_ne (by decide)]; exact h.1, by rw [msA_ne (by decide)]; exact h.2.1, by rw [msA_ne (by decide)]; exact h.2.2.1, by rw [msA_ne (by decide)]; exact h.2.2.2.1, by rw [msA_ne (by decide)]; exact h.2.2.2.2.1, by rw [msA_ne (by decide)]; exact h.2.2.2.2.2.1, by rw [msA_ne (by decide)]; exact h.2.2.2.2.2.2.1, by rw [msA_ne (by decide)]; exact h.2.2.2.2.2.2.2.1, by rw [msA_ne (by decide)]; exact h.2.2.2.2.2.2.2.2.1, by rw [msA_ne (by decide)]; exact h.2.2.2.2.2.2.2.2.2.1, by rw [msA_ne (by decide)]; exact h.2.2.2.2.2.2.2.2.2.2⟩
theorem es_w (h : Es N N') (p : Nat) : wN N' p = wN N p := ep_w (es_ep h) p
theorem es_k (h : Es N N') (p : Nat) : kN N' p = kN N p := ep_k (es_ep h) p
theorem es_f (h : Es N N') (p : Nat) : fN N' p = fN N p := ep_f (es_ep h) p
theorem es_o (h : Es N N') (p : Nat) : oN N' p = oN N p := ep_o (es_ep h) p
theorem es_u (h : Es N N') (p i : Nat) : U N' p i = U N p i := ep_u (es_ep h) p i
theorem es_lv (h : Es N N') (p : Nat) : Lv N' p = Lv N p := ep_lv (es_ep h) p
theorem es_ul (h : Es N N') (p : Nat) (xs : List Nat) : UL N' p xs = UL N p xs := by
  cases xs with
  | nil => rfl
  | cons i r => show (U N' p i : Int) = (U N p i : Int); rw [es_u h]
theorem es_p (h : Es N N') (h12 : N' 12 = N 12) (h13 : N' 13 = N 13) (hP : WP N) : WP N' := by
  have := ep_p (es_ep h) (show (msA N' 2 (N 2)) 12 = N 12 by rw [msA_ne (by decide)]; exact h12) (show (msA N' 2 (N 2)) 13 = N 13 by rw [msA_ne (by decide)]; exact h13) hP
  exact this
theorem es_ch {p : Nat} (hE : Es N N') : ∀ (xs : List Nat), (∀ j, j ∈ xs → N' 19 (U N p j) = N 19 (U N p j)) → chN N p xs → chN N' p xs := by
  intro xs
  induction xs with
  | nil => intro _ _; trivial
  | cons i r ih =>
    intro h1 h2
    refine ⟨?_, ih (fun j hj => h1 j (List.mem_cons_of_mem _ hj)) h2.2⟩
    rw [es_u hE, h1 i List.mem_cons_self, es_ul hE]
    exact h2.1
end
section
variable {N : Mm} {LS FL : Nat → List Nat} {hz : Nat → Nat} {p : Nat}
theorem gs_loop1 {N1 : Mm} (hP : WP N) (hG : WG N) (hp : Sl N p) (hE : Ep N N1) (h12 : N1 12 = N 12) (h13 : N1 13 = N 13) : ∀ (n i m : Nat), i + n = fN N (wN N p) → n < m → g_X6_giveSlab_b20 m (msA N1 18 (zr (N1 18) (U N p) (fun _ => 0) i)) (p : Int) (wN N p : Int) (i : Int) = g_X6_giveSlab_b50 fuel (msA N1 18 (zr (N1 18) (U N p) (fun _ => 0) (fN N (wN N p)))) (p : Int) (wN N p : Int) (p : Int) := by
  obtain ⟨c1, c2, c3⟩ := sl_pc hP hG hp
  have hfl := fn_le c1
  have e10 : N1 10 = N 10 := hE.2.2.2.2.2.2.2.2.1
  have hE1 : ∀ g, Ep N (msA N1 18 g) := fun g => hE
  intro n
  induction n with
  | zero =>
    intro i m hi hm
    cases m with
    | zero => omega
    | succ m =>
      show g_X6_giveSlab_s20 _ _ (p : Int) (wN N p : Int) (i : Int) = _
      unfold g_X6_giveSlab_s20
      have : i = fN N (wN N p) := by omega
      subst this
      rw [q_mg (show wN N p < mlen 10 from c2), Option.bind_some, msA_ne (by decide), e10, c1.2.2.2.1.1, if_pos (Int.le_refl _)]
  | succ n ih =>
    intro i m hi hm
    cases m with
    | zero => omega
    | succ m =>
      show g_X6_giveSlab_s20 _ _ (p : Int) (wN N p : Int) (i : Int) = _
      unfold g_X6_giveSlab_s20
      have hif : i < fN N (wN N p) := by omega
      have hu := un_eq (N := msA N1 18 (zr (N1 18) (U N p) (fun _ => 0) i)) (p := p) (i := i) (ep_p (hE1 _) h12 h13 hP) (ep_g (hE1 _) hG) (by rw [ep_sl (hE1 _)]; exact hp) (by rw [ep_w (hE1 _), ep_f (hE1 _)]; exact hif)
      rw [ep_u (hE1 _)] at hu
      rw [q_mg (show wN N p < mlen 10 from c2), Option.bind_some, msA_ne (by decide), e10, c1.2.2.2.1.1, if_neg (by omega), hu, Option.bind_some]
      dsimp only
      rw [q_ms (show U N p i < mlen 18 from (u_rng hP hG hp hif).2.2.1), Option.bind_some, mup_msA, msA_same, msA_msA, w1 (by omega)]
      exact ih (i + 1) m (by omega) (by omega)
theorem gs_loop2 {N2 : Mm} {c o : Nat} (hc : c < 8) (ho : o ≤ 3) (h7 : N2 7 c = (o : Int)) (hpo : p + 2 ^ o ≤ 256) (hal : p % 2 ^ o = 0) : ∀ (n i m : Nat), i + n = 2 ^ o → n < m → g_X6_giveSlab_b50 m (msA N2 2 (rg (N2 2) p i (-1))) (p : Int) (c : Int) ((p + i : Nat) : Int) = some (((2 ^ o : Nat) : Int), msA (msA N2 2 (rg (N2 2) p (2 ^ o) (-1))) 1 (gF (6 - o) (N2 1) p o)) := by
  have hp : p < 256 := by have := Nat.pow_pos (n := o) (show 0 < 2 by omega); omega
  intro n
  induction n with
  | zero =>
    intro i m hi hm
    cases m with
    | zero => omega
    | succ m =>
      show g_X6_giveSlab_s50 _ _ (p : Int) (c : Int) _ = _
      unfold g_X6_giveSlab_s50
      have : i = 2 ^ o := by omega
      subst this
      rw [q_mg (show c < mlen 7 from hc), Option.bind_some, msA_ne (by decide), h7, ish1 o (by omega), wa (by omega), if_pos (Int.le_refl _), Option.bind_some, mg_eq (by omega) hp hal, Option.bind_some, q_mg (show c < mlen 7 from hc), Option.bind_some]
      show some (ish 1 (N2 7 c), _) = _
      rw [h7, ish1 o (by omega), msA_ne (by decide)]
  | succ n ih =>
    intro i m hi hm
    cases m with
    | zero => omega
    | succ m =>
      show g_X6_giveSlab_s50 _ _ (p : Int) (c : Int) _ = _
      unfold g_X6_giveSlab_s50
      rw [q_mg (show c < mlen 7 from hc), Option.bind_some, msA_ne (by decide), h7, ish1 o (by omega), wa (by omega), if_neg (by
        intro q
        have q2 : p + 2 ^ o ≤ p + i := Int.ofNat_le.mp q
        omega), q_ms (show p + i < mlen 2 by show _ < 256; omega), Option.bind_some, mup_msA, msA_same, msA_msA, w1 (by omega)]
      have e : fu (rg (N2 2) p i (-1)) (p + i) (-1) = rg (N2 2) p (i + 1) (-1) := by
        funext q
        unfold fu rg
        by_cases h1 : q = p + i
        · rw [if_pos h1, if_pos (by omega)]
        · rw [if_neg h1]
          by_cases h2 : p ≤ q ∧ q < p + i
          · rw [if_pos h2, if_pos (by omega)]
          · rw [if_neg h2, if_neg (by omega)]
      rw [e]
      exact ih (i + 1) m (by omega) (by omega)
/-- what giveSlab makes of the scalar rows -/
def gsS (N : Mm) (p : Nat) : Mm := msA (msA (msA N 18 (zr (N 18) (U N p) (fun _ => 0) (fN N (wN N p)))) 2 (rg (N 2) p (2 ^ oN N (wN N p)) (-1))) 1 (gF (6 - oN N (wN N p)) (N 1) p (oN N (wN N p)))
theorem gs_es : Es N (gsS N p) := ⟨rfl, rfl, rfl, rfl, rfl, rfl, rfl, rfl, rfl, rfl, rfl⟩
theorem gs_2 (q : Nat) : (gsS N p) 2 q = if p ≤ q ∧ q < p + 2 ^ oN N (wN N p) then -1 else N 2 q := rfl
theorem gs_sl (hG : WG N) (hp : Sl N p) (q : Nat) : Sl (gsS N p) q ↔ (Sl N q ∧ q ≠ p) := by
  obtain ⟨g1, g2, g3, g4, g5, g6⟩ := hG.2 p hp
  have h7 : 0 < 2 ^ oN N (wN N p) := Nat.pow_pos (by omega)
  unfold Sl
  rw [gs_2]
  constructor
  · rintro ⟨h1, h2⟩
    split at h2
    · omega
    · rename_i h3
      exact ⟨⟨h1, h2⟩, fun e => h3 (by omega)⟩
  · rintro ⟨⟨h1, h2⟩, h3⟩
    refine ⟨h1, ?_⟩
    rw [if_neg (fun z => by have := (g6 q z.1 z.2).2; omega)]
    exact h2
/-- a slab all of whose objects are free is given back -/
theorem giveSlab_eq (hP : WP N) (hB : WB N) (hG : WG N) (hS : WS N FL) (hZ : WZ N) (hR : WR N LS) (hM : WM N hz) (hp : Sl N p) (hf : ∀ i, i < fN N (wN N p) → N 18 (U N p i) = 1) : ∃ N', g_X6_giveSlab N (p : Int) = some (((2 ^ oN N (wN N p) : Nat) : Int), N') ∧ (∀ b, b ≠ 21 → b ≠ 22 → N' b = (gsS N p) b) ∧ WP N' ∧ WB N' ∧ WG N' ∧ WS N' FL ∧ WZ N' ∧ WR N' (lu LS (3 * wN N p + wh N p) ((LS (3 * wN N p + wh N p)).erase p)) ∧ WM N' hz := by
  obtain ⟨c1, c2, c3⟩ := sl_pc hP hG hp
  obtain ⟨g1, g2, g3, g4, g5, g6⟩ := hG.2 p hp
  have hp2 := hp.1
  have w0 := wh_lt (N := N) (p := p)
  have hLm : p ∈ LS (3 * wN N p + wh N p) := ((hR.2 _ (by omega)).2 p).mpr ⟨hp, rfl⟩
  obtain ⟨N1, l1, l2, l3⟩ := leave_eq (p := p) hR.1 g2 w0 hLm (hR.2 _ (by omega)).1
  have hE1 : Ep N N1 := by
    refine ⟨?_, ?_, ?_, ?_, ?_, ?_, ?_, ?_, ?_, ?_, ?_, ?_⟩ <;> exact l3 _ (by decide) (by decide)
  have ev : g_X6_giveSlab N (p : Int) = some (((2 ^ oN N (wN N p) : Nat) : Int), msA (msA (msA N1 18 (zr (N1 18) (U N p) (fun _ => 0) (fN N (wN N p)))) 2 (rg (N1 2) p (2 ^ oN N (wN N p)) (-1))) 1 (gF (6 - oN N (wN N p)) (N1 1) p (oN N (wN N p)))) := by
    unfold g_X6_giveSlab
    rw [q_mg (show p < mlen 14 from hp2), Option.bind_some, g1, wo_eq hP hG hp, Option.bind_some]
    refine Eq.trans (congrArg (fun z => Option.bind z _) l1) ?_
    rw [Option.bind_some]
    have e1 := gs_loop1 hP hG hp hE1 (l3 12 (by decide) (by decide)) (l3 13 (by decide) (by decide)) (fN N (wN N p)) 0 fuel (by omega) (by have := fn_le c1; show _ < 40000; omega)
    rw [show zr (N1 18) (U N p) (fun _ => 0) 0 = N1 18 from rfl, msA_id] at e1
    refine Eq.trans e1 ?_
    have e2 := gs_loop2 (N2 := msA N1 18 (zr (N1 18) (U N p) (fun _ => 0) (fN N (wN N p)))) (p := p) (c := wN N p) (o := oN N (wN N p)) c2 c1.1.2 (by rw [msA_ne (by decide), hE1.2.2.2.2.2.1]; exact c1.1.1) c3 g5 (2 ^ oN N (wN N p)) 0 fuel (by omega) (by have := Nat.pow_le_pow_right (n := 2) (by omega) c1.1.2; show _ < 40000; omega)
    have e3 : rg ((msA N1 18 (zr (N1 18) (U N p) (fun _ => 0) (fN N (wN N p)))) 2) p 0 (-1) = (msA N1 18 (zr (N1 18) (U N p) (fun _ => 0) (fN N (wN N p)))) 2 := by
      funext q
      exact if_neg (by omega)
    rw [e3, msA_id, Nat.add_zero] at e2
    refine Eq.trans e2 ?_
    rw [msA_ne (by decide), msA_ne (by decide)]
  have hb : ∀ b, b ≠ 21 → b ≠ 22 → (msA (msA (msA N1 18 (zr (N1 18) (U N p) (fun _ => 0) (fN N (wN N p)))) 2 (rg (N1 2) p (2 ^ oN N (wN N p)) (-1))) 1 (gF (6 - oN N (wN N p)) (N1 1) p (oN N (wN N p)))) b = (gsS N p) b := fun b h1 h2 => by
    unfold gsS
    rw [l3 18 (by decide) (by decide), l3 2 (by decide) (by decide), l3 1 (by decide) (by decide)]
    funext j
    simp only [msA_ap]
    rw [l3 b h1 h2]
  refine ⟨_, ev, hb, ?_⟩
  generalize hN' : (msA (msA (msA N1 18 (zr (N1 18) (U N p) (fun _ => 0) (fN N (wN N p)))) 2 (rg (N1 2) p (2 ^ oN N (wN N p)) (-1))) 1 (gF (6 - oN N (wN N p)) (N1 1) p (oN N (wN N p)))) = N' at hb
  have hWL' : WL N' (lu LS (3 * wN N p + wh N p) ((LS (3 * wN N p + wh N p)).erase p)) := by
    intro l hl
    have := l2 l hl
    rw [← hN']
    exact this
  have hEs : Es N N' := by
    refine ⟨?_, ?_, ?_, ?_, ?_, ?_, ?_, ?_, ?_, ?_, ?_⟩ <;> exact hb _ (by decide) (by decide)
  have h2' : ∀ q, N' 2 q = if p ≤ q ∧ q < p + 2 ^ oN N (wN N p) then -1 else N 2 q := fun q => by rw [hb 2 (by decide) (by decide)]; exact gs_2 q
  have hsl : ∀ q, Sl N' q ↔ (Sl N q ∧ q ≠ p) := fun q => by
    have := gs_sl hG hp q
    unfold Sl at *
    rw [hb 2 (by decide) (by decide)]
    exact this
  have hinj : ∀ j k, j < fN N (wN N p) → k < fN N (wN N p) → U N p j = U N p k → j = k := fun j k hj hk q => (u_inj hP hG hp hj hp hk q).2
  have e18 : N' 18 = zr (N 18) (U N p) (fun _ => 0) (fN N (wN N p)) := by rw [hb 18 (by decide) (by decide)]; rfl
  have st : ∀ q j, Sl N q → q ≠ p → j < fN N (wN N q) → N' 18 (U N q j) = N 18 (U N q j) := fun q j hq hne hj => by
    rw [e18]
    exact zr_out _ (fun i hi => u_ne hP hG hp hi hq hj (fun z => hne z.1))
  have h7 : 0 < 2 ^ oN N (wN N p) := Nat.pow_pos (by omega)
  refine ⟨es_p hEs (hb 12 (by decide) (by decide)) (hb 13 (by decide) (by decide)) hP, ?_, ⟨fun q hq => ?_, fun q hq => ?_⟩, fun q hq => ?_, fun u hu h => ?_, ⟨hWL', fun l hl => ?_⟩, fun s hs => ?_, fun s s' k k' h1 h2 h3 h4 h5 => ?_⟩
  · have := give_inv (sp := N' 2) (6 - oN N (wN N p)) (oN N (wN N p)) (by have := c1.1.2; omega) p (N 1) hp2 g5 hB.1 hB.2.1 (bs_sp hB.2.2 (fun q b v _ _ _ _ h => by rw [h2' q]; split <;> omega)) (fun q z1 z2 => by rw [h2' q, if_pos ⟨z1, z2⟩]; decide) (fun q b v hb1 e1 z1 z2 z3 => by
      have := hB.2.2 q b v hb1 e1 z1 z2
      have := (g6 q z3.1 z3.2).2
      omega)
    unfold WB
    rw [hb 1 (by decide) (by decide)]
    exact this
  · rw [h2' q]
    by_cases e : p ≤ q ∧ q < p + 2 ^ oN N (wN N p)
    · left; rw [if_pos e]
    · rw [if_neg e]
      rcases hG.1 q hq with h | ⟨p', z1, z2, z3, z4⟩
      · left; exact h
      · right
        have hne : p' ≠ p := fun z => e (z ▸ ⟨z3, z4⟩)
        exact ⟨p', (hsl p').mpr ⟨z1, hne⟩, z2, z3, by rw [es_w hEs, es_o hEs]; exact z4⟩
  · obtain ⟨hq1, hq2⟩ := (hsl q).mp hq
    obtain ⟨z1, z2, z3, z4, z5, z6⟩ := hG.2 q hq1
    unfold SPp
    rw [es_w hEs, es_k hEs, es_o hEs, es_lv hEs, hEs.2.2.2.2.2.2.2.2.2.1, hEs.2.2.2.2.2.2.2.2.2.2, hEs.2.2.2.2.2.2.2.2.1]
    refine ⟨z1, z2, z3, z4, z5, fun x hx1 hx2 => ?_⟩
    have := z6 x hx1 hx2
    refine ⟨this.1, ?_⟩
    rw [h2' x, if_neg (fun z => by have := (g6 x z.1 z.2).2; omega)]
    exact this.2
  · obtain ⟨hq1, hq2⟩ := (hsl q).mp hq
    obtain ⟨a1, a2, a3, a4, a5, a6⟩ := hS q hq1
    unfold WSp
    rw [es_w hEs, es_f hEs, es_ul hEs, hb 16 (by decide) (by decide), hb 17 (by decide) (by decide)]
    refine ⟨a1, a2, a3, a4, es_ch hEs _ (fun j hj => by rw [hb 19 (by decide) (by decide)]; rfl) a5, fun j hj => ?_⟩
    rw [es_u hEs, st q j hq1 hq2 hj]
    exact a6 j hj
  · have hnu : ∀ i, i < fN N (wN N p) → u ≠ U N p i := fun i hi e => by
      rw [e18, e] at h
      exact h (zr_in _ hinj i hi)
    rw [e18, zr_out _ hnu] at h
    obtain ⟨q, j, z1, z2, z3⟩ := hZ u hu h
    have hne : q ≠ p := fun e => by subst e; exact hnu j z2 z3
    exact ⟨q, j, (hsl q).mpr ⟨z1, hne⟩, by rw [es_w hEs, es_f hEs]; exact z2, by rw [es_u hEs]; exact z3⟩
  · have hwh : ∀ q, wh N' q = wh N q := fun q => by unfold wh; rw [hb 16 (by decide) (by decide), hb 10 (by decide) (by decide), es_w hEs]; rfl
    by_cases e : l = 3 * wN N p + wh N p
    · subst e
      rw [lu_same]
      refine ⟨(hR.2 _ hl).1.erase p, fun q => ?_⟩
      rw [(hR.2 _ hl).1.mem_erase_iff, (hR.2 _ hl).2 q, hsl q, es_w hEs, hwh]
      exact ⟨fun h => ⟨⟨h.2.1, h.1⟩, h.2.2⟩, fun h => ⟨h.1.2, h.1.1, h.2⟩⟩
    · rw [lu_ne e]
      refine ⟨(hR.2 _ hl).1, fun q => ?_⟩
      rw [(hR.2 _ hl).2 q, hsl q, es_w hEs, hwh]
      exact ⟨fun h => ⟨⟨h.1, fun z => e (by rw [← h.2, z])⟩, h.2⟩, fun h => ⟨h.1.1, h.2⟩⟩
  · obtain ⟨m1, m2⟩ := hM.1 s hs
    refine ⟨m1, fun k hk => ?_⟩
    obtain ⟨q, j, z1, z2, z3, z4, z5⟩ := m2 k hk
    have hne : q ≠ p := fun e => by subst e; have := hf j z3; omega
    refine ⟨q, j, (hsl q).mpr ⟨z1, hne⟩, by rw [es_w hEs]; exact z2, by rw [es_w hEs, es_f hEs]; exact z3, ?_, by rw [es_u hEs, st q j z1 hne z3]; exact z5⟩
    unfold hv at *
    rw [hb 24 (by decide) (by decide), hb 26 (by decide) (by decide), es_u hEs]
    exact z4
  · refine hM.2 s s' k k' h1 h2 h3 h4 ?_
    unfold hv at *
    rw [hb 24 (by decide) (by decide), hb 26 (by decide) (by decide)] at h5
    exact h5
end
