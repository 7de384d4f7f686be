/-! the reference: a slab is made on a block that was taken -/
def m1 (N : Mm) (c p : Nat) : Mm := msA (msA (msA (msA N 2 (rg (N 2) p (2 ^ oN N c) p)) 14 (fu (N 14) p c)) 15 (fu (N 15) p (N 12 c))) 12 (fu (N 12) c (if N 12 c + 1 = N 11 c then 0 else N 12 c + 1))
def m2 (N : Mm) (c p : Nat) : Mm := msA (msA (m1 N c p) 16 (fu (N 16) p 0)) 17 (fu (N 17) p (U (m1 N c p) p 0))
def nxt (N : Mm) (c p : Nat) : Nat → Int := fun i => if i + 1 < fN N c then (U (m1 N c p) p (i + 1) : Int) else -1
def m3 (N : Mm) (c p n : Nat) : Mm := msA (msA (msA (m2 N c p) 18 (zr (N 18) (U (m1 N c p) p) (fun _ => 1) n)) 20 (zr (N 20) (U (m1 N c p) p) (fun _ => N 8 c) n)) 19 (zr (N 19) (U (m1 N c p) p) (nxt N c p) n)
theorem ch_q {N N' : Mm} {q : Nat} (hU : ∀ j, U N' q j = U N q j) : ∀ (xs : List Nat), (∀ j, j ∈ xs → N' 19 (U N q j) = N 19 (U N q j)) → chN N q xs → chN N' q xs := by
  intro xs
  induction xs with
  | nil => intro _ _; trivial
  | cons i r ih =>
    intro h1 h2
    refine ⟨?_, ih (fun j hj => h1 j (List.mem_cons_of_mem _ hj)) h2.2⟩
    rw [hU, h1 i List.mem_cons_self]
    refine h2.1.trans ?_
    cases r with
    | nil => rfl
    | cons a r => show (U N q a : Int) = (U N' q a : Int); rw [hU]
theorem m3_step (N : Mm) (c p n : Nat) : mup (mup (mup (m3 N c p n) 18 (U (m1 N c p) p n) 1) 20 (U (m1 N c p) p n) (N 8 c)) 19 (U (m1 N c p) p n) (nxt N c p n) = m3 N c p (n + 1) := by
  funext b j
  unfold m3
  simp only [mup_ap, msA_ap, zr, fu_ap]
  by_cases h1 : b = 19
  · subst h1; simp
  · by_cases h2 : b = 20
    · subst h2; simp
    · by_cases h3 : b = 18
      · subst h3; simp
      · simp [h1, h2, h3]
section
variable {N : Mm} {LS FL : Nat → List Nat} {hz : Nat → Nat} {p c : Nat}
theorem m1_w (q : Nat) : wN (m1 N c p) q = if q = p then c else wN N q := by
  show (fu (N 14) p c q).toNat = _
  unfold fu wN
  split <;> simp
theorem m1_k (q : Nat) : kN (m1 N c p) q = if q = p then (N 12 c).toNat else kN N q := by
  show (fu (N 15) p (N 12 c) q).toNat = _
  unfold fu kN
  split <;> rfl
theorem m1_u {q : Nat} (h : q ≠ p) (j : Nat) : U (m1 N c p) q j = U N q j := by
  unfold U
  rw [m1_w, m1_k, if_neg h, if_neg h]
  rfl
theorem m1_2 (q : Nat) : (m1 N c p) 2 q = if p ≤ q ∧ q < p + 2 ^ oN N c then (p : Int) else N 2 q := rfl
theorem m1_sl (hf : ∀ q, p ≤ q → q < p + 2 ^ oN N c → N 2 q < 0) (hp : p < 256) (q : Nat) : Sl (m1 N c p) q ↔ (Sl N q ∨ q = p) := by
  have h7 : 0 < 2 ^ oN N c := Nat.pow_pos (by omega)
  unfold Sl
  rw [m1_2]
  constructor
  · rintro ⟨h1, h2⟩
    split at h2
    · right; omega
    · left; exact ⟨h1, h2⟩
  · rintro (⟨h1, h2⟩ | rfl)
    · refine ⟨h1, ?_⟩
      rw [if_neg (fun z => by have := hf q z.1 z.2; omega)]
      exact h2
    · exact ⟨hp, if_pos ⟨by omega, by omega⟩⟩
theorem m1_wg (hP : WP N) (hG : WG N) (hc : Lv N c) (hp : p < 256) (hal : p % 2 ^ oN N c = 0) (hpo : p + 2 ^ oN N c ≤ 256) (hf : ∀ q, p ≤ q → q < p + 2 ^ oN N c → N 2 q < 0) : WP (m1 N c p) ∧ WG (m1 N c p) := by
  have hc8 : c < 8 := by have := hP.1; have := hc.1; omega
  have hPc := hP.2.1 c hc.1
  have hsl := m1_sl (c := c) hf hp
  refine ⟨⟨hP.1, fun d hd => ?_, fun d hd => ?_⟩, fun q hq => ?_, fun q hq => ?_⟩
  · obtain ⟨d1, d2, d3, d4, d5, d6, d7⟩ := hP.2.1 d hd
    refine ⟨d1, d2, d3, d4, d5, ?_, d7⟩
    show 0 ≤ fu (N 12) c _ d ∧ fu (N 12) c _ d < N 11 d
    unfold fu
    split
    · rename_i e; subst e
      split <;> omega
    · exact d6
  · obtain ⟨e1, e2, e3⟩ := hP.2.2 d hd
    refine ⟨e1, ?_, e3⟩
    have : d ≠ c := fun e => by subst e; have := hc.1; have h3 : (m1 N d p) 3 0 = N 3 0 := rfl; omega
    show fu (N 12) c _ d = 0
    rw [fu_ne this]; exact e2
  · rw [m1_2]
    by_cases e : p ≤ q ∧ q < p + 2 ^ oN N c
    · right
      rw [if_pos e]
      exact ⟨p, (hsl p).mpr (Or.inr rfl), rfl, e.1, by rw [m1_w, if_pos rfl]; exact e.2⟩
    · rw [if_neg e]
      rcases hG.1 q hq with h | ⟨p', z1, z2, z3, z4⟩
      · left; exact h
      · right
        have hne : p' ≠ p := fun z => by
          subst z
          have := hf p' (by omega) (by have := Nat.pow_pos (n := oN N c) (show 0 < 2 by omega); omega)
          have := z1.2
          omega
        exact ⟨p', (hsl p').mpr (Or.inl z1), z2, z3, by rw [m1_w, if_neg hne]; exact z4⟩
  · by_cases e : q = p
    · subst e
      unfold SPp
      rw [m1_w, m1_k, if_pos rfl, if_pos rfl]
      have d6 := hPc.2.2.2.2.2.1
      refine ⟨fu_same _ _ _, hc8, hc, ⟨?_, ?_⟩, hal, fun x h1 h2 => ⟨?_, ?_⟩⟩
      · refine (fu_same _ _ _).trans ?_
        omega
      · refine Int.lt_of_le_of_lt (Int.le_of_eq (fu_same _ _ _)) ?_
        exact d6.2
      · have h2' : x < q + 2 ^ oN N c := h2
        omega
      · exact if_pos ⟨h1, h2⟩
    · have hq' : Sl N q := ((hsl q).mp hq).resolve_right e
      obtain ⟨z1, z2, z3, z4, z5, z6⟩ := hG.2 q hq'
      unfold SPp
      rw [m1_w, m1_k, if_neg e, if_neg e]
      refine ⟨(fu_ne e).trans z1, z2, z3, ⟨(fu_ne e).trans z4.1, ?_⟩, z5, fun x h1 h2 => ⟨(z6 x h1 h2).1, ?_⟩⟩
      · refine Int.lt_of_le_of_lt (Int.le_of_eq (fu_ne e)) ?_
        exact z4.2
      · rw [m1_2, if_neg (fun z => by have := hf x z.1 z.2; have := (z6 x h1 h2).2; omega)]
        exact (z6 x h1 h2).2
theorem mk_loop1 (hc : c < 8) (ho : oN N c ≤ 3) (h7 : N 7 c = (oN N c : Int)) (hpo : p + 2 ^ oN N c ≤ 256) (hp12 : N 12 c + 1 ≤ 5000 ∧ 0 ≤ N 12 c) : ∀ (n i m : Nat), i + n = 2 ^ oN N c → n < m → g_X6_makeSlab_b39 m (msA N 2 (rg (N 2) p i p)) (c : Int) (p : Int) ((p + i : Nat) : Int) = Option.bind (mst 16 (m1 N c p) (p : Int) 0) fun h30 => Option.bind (g_X6_unitOf h30 (p : Int) 0) fun r32 => Option.bind (mst 17 r32.2 (p : Int) r32.1) fun h34 => g_X6_makeSlab_b141 fuel h34 (c : Int) (p : Int) 0 := by
  have hp : p < 256 := by have := Nat.pow_pos (n := oN N c) (show 0 < 2 by omega); omega
  intro n
  induction n with
  | zero =>
    intro i m hi hm
    cases m with
    | zero => omega
    | succ m =>
      show g_X6_makeSlab_s39 _ _ (c : Int) (p : Int) _ = _
      unfold g_X6_makeSlab_s39 g_X6_makeSlab_j119
      have : i = 2 ^ oN N c := by omega
      subst this
      rw [q_mg (show c < mlen 7 from hc), Option.bind_some, msA_ne (by decide), h7, ish1 _ (by omega), wa (by omega), if_pos (Int.le_refl _), q_ms (show p < mlen 14 from hp), Option.bind_some, q_mg (show c < mlen 12 from hc), Option.bind_some, q_ms (show p < mlen 15 from hp), Option.bind_some, q_mg (show c < mlen 12 from hc), Option.bind_some, q_mg (show c < mlen 11 from hc), Option.bind_some, Option.bind_some]
      show (if wr (N 12 c + 1) ≠ N 11 c then Option.bind (mst 12 _ (c : Int) (wr (N 12 c + 1))) _ else _) = _
      rw [wr_eq (z := N 12 c + 1) ⟨by omega, by omega⟩, q_ms (show c < mlen 12 from hc), Option.bind_some, q_ms (show c < mlen 12 from hc), Option.bind_some]
      by_cases e : N 12 c + 1 = N 11 c
      · rw [if_neg (by simpa using e)]
        have : mup (mup (mup (msA N 2 (rg (N 2) p (2 ^ oN N c) p)) 14 p c) 15 p (N 12 c)) 12 c 0 = m1 N c p := by
          unfold m1
          rw [mup_msA, mup_msA, mup_msA, if_pos e]
          rfl
        exact congrArg (fun z => Option.bind (mst 16 z (p : Int) 0) _) this
      · rw [if_pos e]
        have : mup (mup (mup (msA N 2 (rg (N 2) p (2 ^ oN N c) p)) 14 p c) 15 p (N 12 c)) 12 c (N 12 c + 1) = m1 N c p := by
          unfold m1
          rw [mup_msA, mup_msA, mup_msA, if_neg e]
          rfl
        exact congrArg (fun z => Option.bind (mst 16 z (p : Int) 0) _) this
  | succ n ih =>
    intro i m hi hm
    cases m with
    | zero => omega
    | succ m =>
      show g_X6_makeSlab_s39 _ _ (c : Int) (p : Int) _ = _
      unfold g_X6_makeSlab_s39
      rw [q_mg (show c < mlen 7 from hc), Option.bind_some, msA_ne (by decide), h7, ish1 _ (by omega), wa (by omega), if_neg (by
        intro q
        have q2 : p + 2 ^ oN N c ≤ p + i := Int.ofNat_le.mp q
        omega), q_ms (show p + i < mlen 2 by show _ < 256; omega), Option.bind_some, mup_msA, msA_same, msA_msA, w1 (by omega)]
      have e : fu (rg (N 2) p i p) (p + i) p = rg (N 2) p (i + 1) p := by
        funext q
        unfold fu rg
        by_cases h1 : q = p + i
        · rw [if_pos h1, if_pos (by omega)]
        · rw [if_neg h1]
          by_cases h2 : p ≤ q ∧ q < p + i
          · rw [if_pos h2, if_pos (by omega)]
          · rw [if_neg h2, if_neg (by omega)]
      rw [e]
      exact ih (i + 1) m (by omega) (by omega)
theorem m3_ep (n : Nat) : Ep (m1 N c p) (m3 N c p n) := ⟨rfl, rfl, rfl, rfl, rfl, rfl, rfl, rfl, rfl, rfl, rfl, rfl⟩
theorem mk_loop2 (hPc : WPc N c) (hc : c < 8) (hW : WP (m1 N c p) ∧ WG (m1 N c p)) (hsp : Sl (m1 N c p) p) : ∀ (n i m : Nat), i + n = fN N c → n < m → g_X6_makeSlab_b141 m (m3 N c p i) (c : Int) (p : Int) (i : Int) = Option.bind (g_X6_enter (m3 N c p (fN N c)) (c : Int) 2 (p : Int)) fun r37 => rtM 1 r37.2 := by
  have hfl := fn_le hPc
  have hwp : wN (m1 N c p) p = c := by rw [m1_w, if_pos rfl]
  have hu : ∀ n i, i < fN N c → g_X6_unitOf (m3 N c p n) (p : Int) (i : Int) = some ((U (m1 N c p) p i : Int), m3 N c p n) := fun n i hi => by
    have := un_eq (N := m3 N c p n) (p := p) (i := i) (ep_p (m3_ep n) rfl rfl hW.1) (ep_g (m3_ep n) hW.2) (by rw [ep_sl (m3_ep n)]; exact hsp) (by rw [ep_w (m3_ep n), ep_f (m3_ep n), hwp]; exact hi)
    rw [ep_u (m3_ep n)] at this
    exact this
  intro n
  induction n with
  | zero =>
    intro i m hi hm
    cases m with
    | zero => omega
    | succ m =>
      show g_X6_makeSlab_s141 _ _ (c : Int) (p : Int) (i : Int) = _
      unfold g_X6_makeSlab_s141
      have : i = fN N c := by omega
      subst this
      rw [q_mg (show c < mlen 10 from hc), Option.bind_some]
      show (if N 10 c ≤ _ then _ else _) = _
      rw [hPc.2.2.2.1.1, if_pos (Int.le_refl _)]
  | succ n ih =>
    intro i m hi hm
    cases m with
    | zero => omega
    | succ m =>
      have hif : i < fN N c := by omega
      have hul : U (m1 N c p) p i < 32768 := (u_rng hW.1 hW.2 hsp (by rw [hwp]; exact hif)).2.2.1
      show g_X6_makeSlab_s141 _ _ (c : Int) (p : Int) (i : Int) = _
      unfold g_X6_makeSlab_s141 g_X6_makeSlab_j210
      rw [q_mg (show c < mlen 10 from hc), Option.bind_some]
      show (if N 10 c ≤ _ then _ else _) = _
      rw [hPc.2.2.2.1.1, if_neg (by omega), hu i i hif, Option.bind_some]
      dsimp only
      rw [q_ms (show U (m1 N c p) p i < mlen 18 from hul), Option.bind_some, q_mg (show c < mlen 8 from hc), Option.bind_some, q_ms (show U (m1 N c p) p i < mlen 20 from hul), Option.bind_some, q_mg (show c < mlen 10 from hc), Option.bind_some, w1 (by omega)]
      show (if N 10 c ≤ _ then _ else _) = _
      rw [hPc.2.2.2.1.1, q_ms (show U (m1 N c p) p i < mlen 19 from hul), Option.bind_some]
      have hst := m3_step N c p i
      by_cases e : (fN N c : Int) ≤ ((i + 1 : Nat) : Int)
      · rw [if_pos e]
        have e1 : nxt N c p i = -1 := if_neg (by omega)
        rw [e1] at hst
        refine Eq.trans (congrArg (fun z => g_X6_makeSlab_b141 m z (c : Int) (p : Int) ((i + 1 : Nat) : Int)) hst) ?_
        exact ih (i + 1) m (by omega) (by omega)
      · rw [if_neg e]
        have e1 : nxt N c p i = (U (m1 N c p) p (i + 1) : Int) := if_pos (by omega)
        rw [e1] at hst
        have hE4 : Ep (m1 N c p) (mup (mup (m3 N c p i) 18 (U (m1 N c p) p i) 1) 20 (U (m1 N c p) p i) (N 8 c)) := ⟨rfl, rfl, rfl, rfl, rfl, rfl, rfl, rfl, rfl, rfl, rfl, rfl⟩
        have hu2 := un_eq (p := p) (i := i + 1) (ep_p hE4 rfl rfl hW.1) (ep_g hE4 hW.2) (by rw [ep_sl hE4]; exact hsp) (by rw [ep_w hE4, ep_f hE4, hwp]; show i + 1 < fN N c; omega)
        rw [ep_u hE4] at hu2
        refine Eq.trans (congrArg (fun z => Option.bind z _) hu2) ?_
        rw [Option.bind_some]
        dsimp only
        rw [q_ms (show U (m1 N c p) p i < mlen 19 from hul), Option.bind_some]
        refine Eq.trans (congrArg (fun z => g_X6_makeSlab_b141 m z (c : Int) (p : Int) ((i + 1 : Nat) : Int)) hst) ?_
        exact ih (i + 1) m (by omega) (by omega)
theorem ul_range {M : Mm} {q a n : Nat} : UL M q (List.range' a n) = if 0 < n then (U M q a : Int) else -1 := by
  cases n with
  | zero => rfl
  | succ n => rfl
theorem ch_range {M : Mm} {q f : Nat} (h : ∀ i, i < f → M 19 (U M q i) = if i + 1 < f then (U M q (i + 1) : Int) else -1) : ∀ (n a : Nat), a + n = f → chN M q (List.range' a n) := by
  intro n
  induction n with
  | zero => intro a _; trivial
  | succ n ih =>
    intro a ha
    refine ⟨?_, ih (a + 1) (by omega)⟩
    rw [h a (by omega), ul_range]
    by_cases e : a + 1 < f
    · rw [if_pos e, if_pos (by omega)]
    · rw [if_neg e, if_neg (by omega)]
theorem makeSlab_eq (hP : WP N) (hB : WB N) (hG : WG N) (hS : WS N FL) (hZ : WZ N) (hR : WR N LS) (hM : WM N hz) (hc : Lv N c) (hp : p < 256) (hal : p % 2 ^ oN N c = 0) (hpo : p + 2 ^ oN N c ≤ 256) (hfr : ∀ q, p ≤ q → q < p + 2 ^ oN N c → N 2 q < 0 ∧ ∀ b v : Nat, b < 256 → N 1 b = (v : Int) → ¬ (b ≤ q ∧ q < b + 2 ^ v)) : ∃ N', g_X6_makeSlab_j31 N (c : Int) (p : Int) = some (1, N') ∧ (∀ b, b ≠ 21 → b ≠ 22 → N' b = (m3 N c p (fN N c)) b) ∧ WP N' ∧ WB N' ∧ WG N' ∧ WS N' (lu FL p (List.range' 0 (fN N c))) ∧ WZ N' ∧ WR N' (lu LS (3 * c + 2) (p :: LS (3 * c + 2))) ∧ WM N' hz ∧ ¬ Sl N p ∧ Sl N' p ∧ wh N' p = 2 := by
  have hc8 : c < 8 := by have := hP.1; have := hc.1; omega
  have hPc := hP.2.1 c hc.1
  have hf1 : ∀ q, p ≤ q → q < p + 2 ^ oN N c → N 2 q < 0 := fun q h1 h2 => (hfr q h1 h2).1
  have h7 : 0 < 2 ^ oN N c := Nat.pow_pos (by omega)
  have hnS : ¬ Sl N p := fun h => by have := hf1 p (by omega) (by omega); have := h.2; omega
  have hsl := m1_sl (c := c) hf1 hp
  have hsp : Sl (m1 N c p) p := (hsl p).mpr (Or.inr rfl)
  have hW := m1_wg hP hG hc hp hal hpo hf1
  have hwp : wN (m1 N c p) p = c := by rw [m1_w, if_pos rfl]
  have hfl := fn_le hPc
  have hd6 := hPc.2.2.2.2.2.1
  have hpl : p ∉ LS (3 * c + 2) := fun h => hnS (((hR.2 _ (by omega)).2 p).mp h).1
  have hnd : (p :: LS (3 * c + 2)).Nodup := List.nodup_cons.mpr ⟨hpl, (hR.2 _ (by omega)).1⟩
  have hlen : (LS (3 * c + 2)).length < 256 := by
    have := nodup_len 256 _ hnd (fun x hx => by
      rcases List.mem_cons.mp hx with rfl | hx
      · exact hp
      · exact (((hR.2 _ (by omega)).2 x).mp hx).1.1)
    rw [List.length_cons] at this
    omega
  obtain ⟨N', k1, k2, k3⟩ := enter_eq (N := m3 N c p (fN N c)) (LS := LS) (p := p) (c := c) (w := 2) hR.1 hc8 (by decide) hlen
  refine ⟨N', ?_, k3, ?_⟩
  · unfold g_X6_makeSlab_j31
    rw [if_pos (by omega)]
    have e1 := mk_loop1 (N := N) (p := p) hc8 hPc.1.2 hPc.1.1 hpo ⟨by omega, by omega⟩ (2 ^ oN N c) 0 fuel (by omega) (by have := Nat.pow_le_pow_right (n := 2) (by omega) hPc.1.2; show _ < 40000; omega)
    have e3 : rg (N 2) p 0 p = N 2 := by
      funext q
      exact if_neg (by omega)
    rw [e3, msA_id, Nat.add_zero] at e1
    refine e1.trans ?_
    rw [q_ms (show p < mlen 16 from hp), Option.bind_some]
    have hE2 : Ep (m1 N c p) (mup (m1 N c p) 16 p 0) := ⟨rfl, rfl, rfl, rfl, rfl, rfl, rfl, rfl, rfl, rfl, rfl, rfl⟩
    have hu := un_eq (p := p) (i := 0) (ep_p hE2 rfl rfl hW.1) (ep_g hE2 hW.2) (by rw [ep_sl hE2]; exact hsp) (by rw [ep_w hE2, ep_f hE2, hwp]; show 0 < fN N c; have := hPc.2.2.2.1.2; omega)
    rw [ep_u hE2] at hu
    refine Eq.trans (congrArg (fun z => Option.bind z _) hu) ?_
    rw [Option.bind_some]
    dsimp only
    rw [q_ms (show p < mlen 17 from hp), Option.bind_some]
    have e4 : mup (mup (m1 N c p) 16 p 0) 17 p (U (m1 N c p) p 0) = m3 N c p 0 := by
      unfold m3 m2
      funext b j
      simp only [mup_ap, msA_ap, zr, fu_ap]
      by_cases h1 : b = 17
      · subst h1; simp; rfl
      · by_cases h2 : b = 16
        · subst h2; simp; rfl
        · by_cases h3 : b = 18
          · subst h3; simp; rfl
          · by_cases h4 : b = 19
            · subst h4; simp; rfl
            · by_cases h5 : b = 20
              · subst h5; simp; rfl
              · simp [h1, h2, h3, h4, h5]
    rw [e4]
    have e5 := mk_loop2 (N := N) (p := p) hPc hc8 hW hsp (fN N c) 0 fuel (by omega) (by show _ < 40000; omega)
    refine e5.trans ?_
    refine Eq.trans (congrArg (fun z => Option.bind z _) k1) ?_
    rfl
  · have hE : Ep (m1 N c p) N' := by
      refine ⟨?_, ?_, ?_, ?_, ?_, ?_, ?_, ?_, ?_, ?_, ?_, ?_⟩ <;> exact k3 _ (by decide) (by decide)
    have hWP := ep_p hE (k3 12 (by decide) (by decide)) (k3 13 (by decide) (by decide)) hW.1
    have hWG := ep_g hE hW.2
    have hsl' : ∀ q, Sl N' q ↔ (Sl N q ∨ q = p) := fun q => by rw [ep_sl hE]; exact hsl q
    have hinj : ∀ j k, j < fN N c → k < fN N c → U (m1 N c p) p j = U (m1 N c p) p k → j = k := fun j k hj hk q => (u_inj hW.1 hW.2 hsp (by rw [hwp]; exact hj) hsp (by rw [hwp]; exact hk) q).2
    have hout : ∀ q j, Sl N q → j < fN N (wN N q) → ∀ i, i < fN N c → U N q j ≠ U (m1 N c p) p i := fun q j hq hj i hi => by
      have hne : q ≠ p := fun e => hnS (e ▸ hq)
      rw [← m1_u (c := c) hne]
      refine u_ne hW.1 hW.2 hsp (by rw [hwp]; exact hi) ((hsl q).mpr (Or.inl hq)) (by rw [m1_w, if_neg hne]; exact hj) (fun z => hne z.1)
    have e18 : N' 18 = zr (N 18) (U (m1 N c p) p) (fun _ => 1) (fN N c) := by rw [k3 18 (by decide) (by decide)]; rfl
    have e19 : N' 19 = zr (N 19) (U (m1 N c p) p) (nxt N c p) (fN N c) := by rw [k3 19 (by decide) (by decide)]; rfl
    have e16 : N' 16 = fu (N 16) p 0 := by rw [k3 16 (by decide) (by decide)]; rfl
    have e17 : N' 17 = fu (N 17) p (U (m1 N c p) p 0) := by rw [k3 17 (by decide) (by decide)]; rfl
    have hu' : ∀ q j, q ≠ p → U N' q j = U N q j := fun q j h => by rw [ep_u hE, m1_u h]
    have hw' : ∀ q, wN N' q = if q = p then c else wN N q := fun q => by rw [ep_w hE, m1_w]
    have hf' : ∀ d, fN N' d = fN N d := fun d => by rw [ep_f hE]; rfl
    refine ⟨hWP, ?_, hWG, fun q hq => ?_, fun u hu h => ?_, ⟨k2, fun l hl => ?_⟩, ⟨fun s hs => ?_, fun s s' k k' h1 h2 h3 h4 h5 => ?_⟩, hnS, (hsl' p).mpr (Or.inr rfl), ?_⟩
    · unfold WB
      have e1 : N' 1 = N 1 := by rw [k3 1 (by decide) (by decide)]; rfl
      rw [e1]
      refine ⟨hB.1, hB.2.1, bs_sp hB.2.2 (fun q b v hb1 e1 z1 z2 h => ?_)⟩
      have e2 : N' 2 q = if p ≤ q ∧ q < p + 2 ^ oN N c then (p : Int) else N 2 q := by rw [k3 2 (by decide) (by decide)]; rfl
      rw [e2, if_neg (fun z => (hfr q z.1 z.2).2 b v hb1 e1 ⟨z1, z2⟩)]
      exact h
    · by_cases e : q = p
      · subst e
        unfold WSp
        rw [lu_same, hw', if_pos rfl, hf', e16, e17, fu_same, fu_same]
        have hf1' := hPc.2.2.2.1.2
        refine ⟨by rw [List.length_range']; omega, List.nodup_range', fun i hi => by have := List.mem_range'_1.mp hi; omega, ?_, ?_, fun i hi => ?_⟩
        · rw [ep_ul hE, ul_range, if_pos (by omega)]
        · refine ch_range (f := fN N c) (fun i hi => ?_) (fN N c) 0 (by omega)
          rw [ep_u hE, ep_u hE, e19, zr_in _ hinj i hi]
          rfl
        · left
          refine ⟨List.mem_range'_1.mpr ⟨by omega, by omega⟩, ?_⟩
          rw [ep_u hE, e18, zr_in _ hinj i hi]
      · have hq' := ((hsl' q).mp hq).resolve_right e
        obtain ⟨a1, a2, a3, a4, a5, a6⟩ := hS q hq'
        unfold WSp
        rw [lu_ne e, hw', if_neg e, hf', e16, e17, fu_ne e, fu_ne e]
        refine ⟨a1, a2, a3, ?_, ch_q (fun j => hu' q j e) _ (fun j hj => ?_) a5, fun j hj => ?_⟩
        · rw [a4]
          cases FL q with
          | nil => rfl
          | cons a r => show (U N q a : Int) = (U N' q a : Int); rw [hu' q a e]
        · rw [e19, zr_out _ (hout q j hq' (a3 j hj))]
        · rw [hu' q j e, e18, zr_out _ (hout q j hq' hj)]
          exact a6 j hj
    · by_cases e : ∃ i, i < fN N c ∧ u = U (m1 N c p) p i
      · obtain ⟨i, e1, e2⟩ := e
        exact ⟨p, i, (hsl' p).mpr (Or.inr rfl), by rw [hw', if_pos rfl, hf']; exact e1, by rw [ep_u hE]; exact e2⟩
      · rw [e18, zr_out _ (fun j hj q => e ⟨j, hj, q⟩)] at h
        obtain ⟨q, j, z1, z2, z3⟩ := hZ u hu h
        have hne : q ≠ p := fun e => hnS (e ▸ z1)
        exact ⟨q, j, (hsl' q).mpr (Or.inl z1), by rw [hw', if_neg hne, hf']; exact z2, by rw [hu' q j hne]; exact z3⟩
    · have hwh : ∀ q, q ≠ p → wh N' q = wh N q := fun q e => by
        unfold wh
        rw [e16, fu_ne e, hw', if_neg e, k3 10 (by decide) (by decide)]; rfl
      have hwhp : wh N' p = 2 := by
        unfold wh
        rw [e16, fu_same, if_pos rfl]
      by_cases e : l = 3 * c + 2
      · subst e
        rw [lu_same]
        refine ⟨hnd, fun q => ?_⟩
        rw [List.mem_cons, (hR.2 _ hl).2 q, hsl' q]
        by_cases e2 : q = p
        · subst e2
          rw [hw', if_pos rfl, hwhp]
          exact ⟨fun _ => ⟨Or.inr rfl, rfl⟩, fun _ => Or.inl rfl⟩
        · rw [hw', if_neg e2, hwh q e2]
          exact ⟨fun h => ⟨Or.inl (h.resolve_left e2).1, (h.resolve_left e2).2⟩, fun h => Or.inr ⟨h.1.resolve_right e2, h.2⟩⟩
      · rw [lu_ne e]
        refine ⟨(hR.2 _ hl).1, fun q => ?_⟩
        rw [(hR.2 _ hl).2 q, hsl' q]
        by_cases e2 : q = p
        · subst e2
          rw [hw', if_pos rfl, hwhp]
          exact ⟨fun h => absurd h.1 hnS, fun h => absurd h.2.symm e⟩
        · rw [hw', if_neg e2, hwh q e2]
          exact ⟨fun h => ⟨Or.inl h.1, h.2⟩, fun h => ⟨h.1.resolve_right e2, h.2⟩⟩
    · obtain ⟨y1, y2⟩ := hM.1 s hs
      refine ⟨y1, fun k hk => ?_⟩
      obtain ⟨q, j, z1, z2, z3, z4, z5⟩ := y2 k hk
      have hne : q ≠ p := fun e => hnS (e ▸ z1)
      refine ⟨q, j, (hsl' q).mpr (Or.inl z1), by rw [hw', if_neg hne]; exact z2, by rw [hw', if_neg hne, hf']; exact z3, ?_, ?_⟩
      · unfold hv at *
        rw [k3 24 (by decide) (by decide), k3 26 (by decide) (by decide), hu' q j hne]
        exact z4
      · rw [hu' q j hne, e18, zr_out _ (hout q j z1 z3)]
        exact z5
    · refine hM.2 s s' k k' h1 h2 h3 h4 ?_
      unfold hv at *
      rw [k3 24 (by decide) (by decide), k3 26 (by decide) (by decide)] at h5
      exact h5
    · unfold wh
      rw [e16, fu_same, if_pos rfl]
end
