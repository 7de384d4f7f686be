/-! the other calls that only read -/
section
variable {t : Th} {x b : Nat} {ca la sa mg : Nat → Nat} {N N' : Mm} {LS FL : Nat → List Nat} {hz dz : Nat → Nat} {p i l c k : Nat}
/-- the answer of objectOf -/
def oOf (N : Mm) (p X : Nat) : Int := if 0 ≤ nOv N p X ∧ N 18 (U N p (nOv N p X).toNat) = 2 ∧ (X : Int) - (8 * U N p (nOv N p X).toNat : Nat) < N 5 (wN N p) then ((8 * U N p (nOv N p X).toNat : Nat) : Int) else -1
theorem oo_loop (hP : WP N) (hG : WG N) (hp : Sl N p) {X : Nat} (hX : X < 262144) : ∀ (n i m : Nat), i + n = fN N (wN N p) → (∀ j, j < i → ¬ (N 18 (U N p j) = 2 ∧ 8 * U N p j ≤ X ∧ (X : Int) - (8 * U N p j : Nat) < N 5 (wN N p))) → n < m → g_X6_objectOf_b27 m N (X : Int) (p : Int) (wN N p : Int) (i : Int) = some (oOf N p X, N) := by
  obtain ⟨d1, d2, d3⟩ := sl_pc hP hG hp
  have hs := d1.2.2.1.2
  have hfl := fn_le d1
  intro n
  induction n with
  | zero =>
    intro i m hi hj hm
    cases m with
    | zero => omega
    | succ m =>
      show g_X6_objectOf_s27 _ N (X : Int) (p : Int) (wN N p : Int) (i : Int) = _
      unfold g_X6_objectOf_s27
      rw [q_mg (show wN N p < mlen 10 from d2), Option.bind_some, d1.2.2.2.1.1, if_pos (by omega)]
      have : oOf N p X = -1 := by
        unfold oOf
        rw [if_neg]
        rintro ⟨h1, h2, h3⟩
        rcases no_spec hs X with q | ⟨j, q1, q2, q3, q4⟩
        · omega
        · rw [q2, Int.toNat_natCast] at h2 h3
          exact hj j (by omega) ⟨h2, q3, h3⟩
      rw [this]
  | succ n ih =>
    intro i m hi hj hm
    cases m with
    | zero => omega
    | succ m =>
      have hif : i < fN N (wN N p) := by omega
      obtain ⟨r1, r2, r3, r4⟩ := u_rng hP hG hp hif
      show g_X6_objectOf_s27 _ N (X : Int) (p : Int) (wN N p : Int) (i : Int) = _
      unfold g_X6_objectOf_s27 g_X6_objectOf_j87
      have e8 : wr (8 * (U N p i : Int)) = ((8 * U N p i : Nat) : Int) := by rw [wr_eq ⟨by omega, by omega⟩]; omega
      have e9 : 8 * U N p i / 8 = U N p i := by omega
      rw [q_mg (show wN N p < mlen 10 from d2), Option.bind_some, d1.2.2.2.1.1, if_neg (by omega), un_eq hP hG hp hif, Option.bind_some]
      dsimp only
      rw [e8, show (8 : Int) = ((8 : Nat) : Int) from rfl, idn (by decide) (by omega), e9, Option.bind_some, q_mg (show U N p i < mlen 18 from r3), Option.bind_some, w1 (by omega)]
      by_cases e : N 18 (U N p i) = 2
      · have d5 := d1.2.2.2.2.1
        have d9 := d1.2.2.1.1
        rw [if_neg (by simpa using e), q_mg (show wN N p < mlen 5 from d2), Option.bind_some, wr_eq (z := ((8 * U N p i : Nat) : Int) + N 5 (wN N p)) ⟨by omega, by omega⟩, wr_eq (z := ((8 * U N p i : Nat) : Int) + N 5 (wN N p) - 1) ⟨by omega, by omega⟩]
        by_cases e2 : 8 * U N p i ≤ X ∧ (X : Int) - (8 * U N p i : Nat) < N 5 (wN N p)
        · have hno := no_at (p := p) hs hif e2.1 (by omega)
          rw [in_y ⟨by omega, by omega⟩, Option.bind_some]
          dsimp only
          rw [if_neg (by decide)]
          unfold oOf
          rw [hno, Int.toNat_natCast, if_pos ⟨by omega, e, e2.2⟩]
        · rw [in_n (by omega), Option.bind_some]
          dsimp only
          rw [if_pos rfl]
          exact ih (i + 1) m (by omega) (fun j hj2 q => by
            rcases Nat.lt_or_ge j i with h | h
            · exact hj j h q
            · have : j = i := by omega
              subst this
              exact e2 q.2) (by omega)
      · rw [if_pos e]
        exact ih (i + 1) m (by omega) (fun j hj2 q => by
            rcases Nat.lt_or_ge j i with h | h
            · exact hj j h q
            · have : j = i := by omega
              subst this
              exact e q.1) (by omega)
theorem o_objectOf (h : CR x t N) (p0 : Int) : ∃ r t' N', t_X5_objectOf t (x : Int) p0 = some (r, t') ∧ g_X6_objectOf N p0 = some (r, N') ∧ CR x t' N' := by
  obtain ⟨b, ca, la, sa, mg, LS, FL, hz, dz, hA, hH⟩ := id h
  have hA0 := aa_0 hA 0
  have hCR := cr_0 h 0
  obtain ⟨⟨hP, hB, hG, hS, hZ, hR⟩, hM, ⟨kH, kB, kC, kV, kN', kI, kS, kL⟩, -⟩ := hA0
  unfold t_X5_objectOf t_X5_objectOf_j55 g_X6_objectOf
  rw [q_ck kH.1, Option.bind_some, Option.bind_some]
  generalize mup N 0 0 0 = M at *
  rcases sat_cs hG kH p0 with ⟨h1, h2, -⟩ | ⟨X, p, h0, hX, h1, hp, h3, h4⟩
  · rw [h1, h2, Option.bind_some, Option.bind_some]
    exact ⟨_, _, _, rfl, rfl, hCR⟩
  · obtain ⟨k1, c1, c2, c3, c4⟩ := sl_c hG kC kI hp
    obtain ⟨d1, d2, d3⟩ := sl_pc hP hG hp
    have hs := d1.2.2.1.2
    rw [h3, h4, Option.bind_some, Option.bind_some]
    dsimp only
    rw [if_pos (by omega), if_pos (by omega), h0, q_ck c1, Option.bind_some, no_eq hP hG kC kI hp hX, Option.bind_some, q_mg (show p < mlen 14 from hp.1), Option.bind_some, (hG.2 p hp).1]
    dsimp only
    have e1 := oo_loop hP hG hp hX (fN M (wN M p)) 0 fuel (by omega) (fun j hj => by omega) (by have := fn_le d1; show _ < 40000; omega)
    refine ⟨oOf M p X, t, M, ?_, e1, hCR⟩
    rw [q_ck c1, Option.bind_some]
    rcases no_spec hs X with q | ⟨j, q1, q2, q3, q4⟩
    · rw [q, il_neg kI kS hp, Option.bind_some]
      dsimp only
      rw [if_neg (by decide)]
      unfold oOf
      rw [q, if_neg (fun z => by omega)]
    · obtain ⟨r1, r2, r3, r4⟩ := u_rng hP hG hp q1
      rw [q2, il_eq hG hS kC kI kS hp q1, Option.bind_some]
      dsimp only
      unfold oOf
      rw [q2, Int.toNat_natCast]
      by_cases e : M 18 (U M p j) = 2
      · rw [if_pos e, if_pos (by decide), q_ck c1, Option.bind_some, bo_eq hP hG kC kI hp q1, Option.bind_some]
        dsimp only
        rw [q_gt 0 c1, Option.bind_some, c2, q_gt 1 k1.1, Option.bind_some, k1.2.1.2.1, wr_eq (z := (X : Int) - ((8 * U M p j : Nat) : Int)) ⟨by omega, by omega⟩]
        by_cases e2 : M 5 (wN M p) ≤ (X : Int) - ((8 * U M p j : Nat) : Int)
        · rw [if_pos e2, if_neg (fun z => by omega)]
        · rw [if_neg e2, if_pos ⟨by omega, e, by omega⟩]
      · rw [if_neg e, if_neg (by decide), if_neg (fun z => e z.2.1)]
theorem lv_lp (hP : WP N) (hG : WG N) (hZ : WZ N) (c : Nat) : ∀ (n i m : Nat), i + n = 32768 → n < m → g_X6_liveOf_b4 m N (c : Int) (lc N c i : Int) (i : Int) = some ((lc N c 32768 : Int), N) := by
  have hle : ∀ n, lc N c n ≤ n := by
    intro n
    induction n with
    | zero => exact Nat.le_refl _
    | succ n ih => unfold lc; split <;> omega
  intro n
  induction n with
  | zero =>
    intro i m hi hm
    cases m with
    | zero => omega
    | succ m =>
      show g_X6_liveOf_s4 _ N (c : Int) _ (i : Int) = _
      unfold g_X6_liveOf_s4
      have : i = 32768 := by omega
      rw [if_pos (by omega), this]
  | succ n ih =>
    intro i m hi hm
    cases m with
    | zero => omega
    | succ m =>
      have hli := hle i
      have h1 := ih (i + 1) m (by omega) (by omega)
      show g_X6_liveOf_s4 _ N (c : Int) _ (i : Int) = _
      unfold g_X6_liveOf_s4 g_X6_liveOf_j45 g_X6_liveOf_j46
      rw [if_neg (by omega), q_mg (show i < mlen 18 by show i < 32768; omega), Option.bind_some, w1 (by omega), w1 (by omega)]
      unfold lc at h1
      by_cases e : N 18 i = 2
      · obtain ⟨q, j, y1, y2, y3⟩ := hZ i (by omega) (by omega)
        have y4 := u_pg hP hG y1 y2
        rw [← y3] at y4
        rw [if_neg (by simpa using e), show (128 : Int) = ((128 : Nat) : Int) from rfl, idn (by decide) (by omega), Option.bind_some, q_mg (show i / 128 < mlen 2 from y4.2.2.2), Option.bind_some, y4.1, q_mg (show q < mlen 14 from y1.1), Option.bind_some]
        rw [y4.1, Int.toNat_natCast] at h1
        by_cases e2 : N 14 q = (c : Int)
        · rw [if_pos ⟨e, e2⟩] at h1
          rw [if_neg (by simpa using e2)]
          exact h1
        · rw [if_neg (fun z => e2 z.2)] at h1
          rw [if_pos e2]
          exact h1
      · rw [if_neg (fun z => e z.1)] at h1
        rw [if_pos e]
        exact h1
theorem lv_of (hP : WP N) (hG : WG N) (hZ : WZ N) (c : Nat) : g_X6_liveOf N (c : Int) = some ((lc N c 32768 : Int), N) :=
  lv_lp hP hG hZ c 32768 0 fuel rfl (by decide)
/-- how many a cache's magazines hold, from the processor i on -/
def sm (hz : Nat → Nat) (c : Nat) : Nat → Nat
  | 0 => 0
  | i + 1 => sm hz c i + (hz (2 * (8 * i + c)) + hz (2 * (8 * i + c) + 1))
theorem wm2 {q c : Nat} (hq : q < 4) (hc : c < 8) : wr (2 * wr (wr (8 * (q : Int)) + (c : Int))) = ((2 * (8 * q + c) : Nat) : Int) := by
  rw [wr_eq (z := 8 * (q : Int)) ⟨by omega, by omega⟩, wr_eq (z := 8 * (q : Int) + (c : Int)) ⟨by omega, by omega⟩, wr_eq ⟨by omega, by omega⟩]
  omega
theorem cs_m {q c e : Nat} (hq : q < 4) (hc : c < 8) (he : e < 2) : cs (2 * (8 * q + c) + e) = c ∧ 2 * (8 * q + c) + e < 64 := by
  unfold cs
  rw [if_pos (by omega)]
  omega
theorem pr_m (hc8 : c < 8) (hc : Lv N c) {q e : Nat} (hq : q < 4) (he : e < 2) : Pr N hz (2 * (8 * q + c) + e) := by
  obtain ⟨h1, h2⟩ := cs_m hq hc8 he
  exact ⟨by omega, Or.inl ⟨h2, by rw [h1]; exact hc⟩⟩
theorem im_loop (hA : AA t x b ca la sa mg N LS FL hz dz) (hc : Lv N c) (hc8 : c < 8) : ∀ (n i m : Nat), i + n = 4 → n < m → t_X1_inMagazines_b9 m t (ca c : Int) ((4 * dz c + sm hz c i : Nat) : Int) (i : Int) = some (((4 * dz c + sm hz c 4 : Nat) : Int), t) := by
  have kC := hA.2.2.1.2.2.1.1 c hc
  obtain ⟨p1, p2, p3, p4⟩ := hA.2.2.2.1 c hc
  have kM := hA.2.2.2.2.1
  have hbd : ∀ i, i ≤ 4 → sm hz c i ≤ 8 * i := by
    intro i
    induction i with
    | zero => intro _; exact Nat.le_refl _
    | succ i ih =>
      intro hi
      have h1 := (hA.2.1.1 _ (pr_m (hz := hz) hc8 hc (q := i) (e := 0) (by omega) (by omega)).1).1
      have h2 := (hA.2.1.1 _ (pr_m (hz := hz) hc8 hc (q := i) (e := 1) (by omega) (by omega)).1).1
      have := ih (by omega)
      unfold sm
      rw [Nat.add_zero] at h1
      omega
  intro n
  induction n with
  | zero =>
    intro i m hi hm
    cases m with
    | zero => omega
    | succ m =>
      show t_X1_inMagazines_s9 _ t (ca c : Int) _ (i : Int) = _
      unfold t_X1_inMagazines_s9
      have : i = 4 := by omega
      rw [if_pos (by omega), this]
  | succ n ih =>
    intro i m hi hm
    cases m with
    | zero => omega
    | succ m =>
      have h0 := kM.1 _ (pr_m (hz := hz) hc8 hc (q := i) (e := 0) (by omega) (by omega))
      have h1 := kM.1 _ (pr_m (hz := hz) hc8 hc (q := i) (e := 1) (by omega) (by omega))
      rw [Nat.add_zero] at h0
      have hz0 := (hA.2.1.1 _ (pr_m (hz := hz) hc8 hc (q := i) (e := 0) (by omega) (by omega)).1).1
      have hz1 := (hA.2.1.1 _ (pr_m (hz := hz) hc8 hc (q := i) (e := 1) (by omega) (by omega)).1).1
      rw [Nat.add_zero] at hz0
      have hsm := hbd i (by omega)
      show t_X1_inMagazines_s9 _ t (ca c : Int) _ (i : Int) = _
      unfold t_X1_inMagazines_s9
      rw [if_neg (by omega), q_rf 13 kC.1, Option.bind_some, q_al kC.1 kC.2.2.1.2.1.1 (by rw [kC.2.2.1.2.1.2]; omega), Option.bind_some, (p1 i (by omega)).1, q_gt 1 h0.1, Option.bind_some, h0.2.2.1, q_rf 14 kC.1, Option.bind_some, q_al kC.1 kC.2.2.1.2.2.1.1 (by rw [kC.2.2.1.2.2.1.2]; omega), Option.bind_some, (p1 i (by omega)).2, q_gt 1 h1.1, Option.bind_some, h1.2.2.1, wa (by omega), wa (by omega), w1 (by omega)]
      have := ih (i + 1) m (by omega) (by omega)
      unfold sm at this
      rw [← Nat.add_assoc] at this
      exact this
theorem am_loop (hA : AA t x b ca la sa mg N LS FL hz dz) (hH : HZ N hz dz) (hc : Lv N c) (hc8 : c < 8) : ∀ (n i m : Nat), i + n = 4 → n < m → g_X6_about_b109 m N (c : Int) 6 ((4 * dz c + sm hz c i : Nat) : Int) (i : Int) = g_X6_about_j152 N (c : Int) 6 ((4 * dz c + sm hz c 4 : Nat) : Int) := by
  obtain ⟨p1, p2, p3, p4⟩ := hA.2.2.2.1 c hc
  have hbd : ∀ i, i ≤ 4 → sm hz c i ≤ 8 * i := by
    intro i
    induction i with
    | zero => intro _; exact Nat.le_refl _
    | succ i ih =>
      intro hi
      have h1 := (hA.2.1.1 _ (pr_m (hz := hz) hc8 hc (q := i) (e := 0) (by omega) (by omega)).1).1
      have h2 := (hA.2.1.1 _ (pr_m (hz := hz) hc8 hc (q := i) (e := 1) (by omega) (by omega)).1).1
      have := ih (by omega)
      unfold sm
      rw [Nat.add_zero] at h1
      omega
  intro n
  induction n with
  | zero =>
    intro i m hi hm
    cases m with
    | zero => omega
    | succ m =>
      show g_X6_about_s109 _ N (c : Int) 6 _ (i : Int) = _
      unfold g_X6_about_s109
      have : i = 4 := by omega
      rw [if_pos (by omega), this]
  | succ n ih =>
    intro i m hi hm
    cases m with
    | zero => omega
    | succ m =>
      have hz0 := (hA.2.1.1 _ (pr_m (hz := hz) hc8 hc (q := i) (e := 0) (by omega) (by omega)).1).1
      have hz1 := (hA.2.1.1 _ (pr_m (hz := hz) hc8 hc (q := i) (e := 1) (by omega) (by omega)).1).1
      rw [Nat.add_zero] at hz0
      have hsm := hbd i (by omega)
      show g_X6_about_s109 _ N (c : Int) 6 _ (i : Int) = _
      unfold g_X6_about_s109
      rw [if_neg (by omega), wm2 (by omega) hc8, w1 (by omega), q_mg (show 2 * (8 * i + c) < mlen 23 by show _ < 64; omega), Option.bind_some, q_mg (show 2 * (8 * i + c) + 1 < mlen 23 by show _ < 64; omega), Option.bind_some, hH.1 _ (by omega), hH.1 _ (by omega), wa (by omega), wa (by omega), w1 (by omega)]
      have := ih (i + 1) m (by omega) (by omega)
      unfold sm at this
      rw [← Nat.add_assoc, ← Nat.add_assoc] at this
      exact this
end
