/-! the call drop -/
section
variable {t : Th} {x b : Nat} {ca la sa mg : Nat → Nat} {N : Mm} {LS FL LT : Nat → List Nat} {hz dz : Nat → Nat} {p i l c k q d : Nat}
theorem dl_lp : ∀ (n q : Nat) (t : Th) (N : Mm) (LS LT : Nat → List Nat) (a : Int) (m m' : Nat), q + n = 256 → n < m → n < m' → DI t x b ca la sa mg N LS FL LT hz dz c → (∀ p, Sl N p → wN N p = c → q ≤ p) → ∃ r t' N', t_X5_drop_b28 m t (x : Int) (ca c : Int) a (q : Int) = some (0, r, t') ∧ g_X6_drop_b85 m' N (c : Int) a (q : Int) = some (r, N') ∧ CR x t' N' ∧ N' 0 = N 0 := by
  intro n
  induction n with
  | zero =>
    intro q t N LS LT a m m' hq hm hm' hI hmin
    cases m with
    | zero => omega
    | succ m =>
      cases m' with
      | zero => omega
      | succ m' =>
        obtain ⟨e1, e2⟩ := di_end hI (fun p hp e => by have := hmin p hp e; have := hp.1; omega)
        have kH := hI.2.1.1
        have hc := hI.1.2.2.2
        have hc8 := lv8 hI.1.1.1 hc
        have kC := hI.2.1.2.2.1.1 c hc
        refine ⟨a, tset t x (gf 5 2) c (-1), mup N 4 c 1, ?_, ?_, ⟨b, ca, la, sa, mg, LS, FL, hz, dz, e1, e2⟩, rfl⟩
        · show t_X5_drop_s28 _ t (x : Int) (ca c : Int) a (q : Int) = _
          unfold t_X5_drop_s28
          rw [if_pos (by omega), q_rf 2 kH.1, Option.bind_some, q_gt 0 kC.1, Option.bind_some, kC.2.1.1, q_rs kH.1 kH.2.2.1.1 (by rw [kH.2.2.1.2]; omega) (Or.inl (by decide)), Option.bind_some]
        · show g_X6_drop_s85 _ N (c : Int) a (q : Int) = _
          unfold g_X6_drop_s85
          rw [if_pos (by omega), q_ms (show c < mlen 4 from hc8), Option.bind_some]
  | succ n ih =>
    intro q t N LS LT a m m' hq hm hm' hI hmin
    cases m with
    | zero => omega
    | succ m =>
      cases m' with
      | zero => omega
      | succ m' =>
        have kH := hI.2.1.1
        have hc := hI.1.2.2.2
        have hG := hI.1.1.2.2.1
        have kC := hI.2.1.2.2.1
        have kI := hI.2.1.2.2.2.1
        have hv8 := kH.2.2.2.2.2.1 q (by omega)
        rcases hG.1 q (by omega) with h | ⟨p, h1, h2, h3, h4⟩
        · obtain ⟨r, t', N', z1, z2, z3, z4⟩ := ih (q + 1) t N LS LT a m m' (by omega) (by omega) (by omega) hI (fun p hp e => by
            have w := hmin p hp e
            have : p ≠ q := fun z => by have := hp.2; rw [z, h] at this; omega
            omega)
          refine ⟨r, t', N', ?_, ?_, z3, z4⟩
          · show t_X5_drop_s28 _ t (x : Int) (ca c : Int) a (q : Int) = _
            unfold t_X5_drop_s28 t_X5_drop_j68
            rw [h, if_pos (by decide)] at hv8
            rw [if_neg (by omega), q_rf 1 kH.1, Option.bind_some, q_al kH.1 kH.2.1.1 (by rw [kH.2.1.2]; omega), Option.bind_some, hv8, if_pos (by decide), w1 (by omega)]
            exact z1
          · show g_X6_drop_s85 _ N (c : Int) a (q : Int) = _
            unfold g_X6_drop_s85 g_X6_drop_j122 g_X6_drop_j123
            rw [if_neg (by omega), q_mg (show q < mlen 2 by show q < 256; omega), Option.bind_some, h, if_pos (by omega), w1 (by omega)]
            exact z2
        · rw [h2, if_neg (by omega), Int.toNat_natCast] at hv8
          have hcp := (hG.2 p h1).2.2.1
          by_cases hw : wN N p = c
          · have hpq : p = q := by have := hmin p h1 hw; omega
            subst hpq
            obtain ⟨t1, N1, LS1, LT1, g1, g2, g3, g4, g5, g6⟩ := di_give hI h1 hw
            obtain ⟨r, t', N', z1, z2, z3, z4⟩ := ih (p + 1) t1 N1 LS1 LT1 (wr (a + ((2 ^ oN N (wN N p) : Nat) : Int))) m m' (by omega) (by omega) (by omega) g3 (fun p' hp' e => by
              obtain ⟨y1, y2⟩ := (g4 p').mp hp'
              rw [g5] at e
              have := hmin p' y1 e
              omega)
            refine ⟨r, t', N', ?_, ?_, z3, z4.trans g6⟩
            · show t_X5_drop_s28 _ t (x : Int) (ca c : Int) a (p : Int) = _
              unfold t_X5_drop_s28 t_X5_drop_j68
              rw [if_neg (by omega), q_rf 1 kH.1, Option.bind_some, q_al kH.1 kH.2.1.1 (by rw [kH.2.1.2]; omega), Option.bind_some, hv8, if_neg (by omega), q_gt 0 (kI p h1).1, Option.bind_some, (kI p h1).2.1, hw, if_neg (fun z => z rfl), q_ck kH.1, Option.bind_some, g1, Option.bind_some, w1 (by omega)]
              exact z1
            · show g_X6_drop_s85 _ N (c : Int) a (p : Int) = _
              unfold g_X6_drop_s85 g_X6_drop_j123
              rw [if_neg (by omega), q_mg (show p < mlen 2 by show p < 256; omega), Option.bind_some, h2, if_neg (fun z => z rfl), q_mg (show p < mlen 14 by show p < 256; omega), Option.bind_some, (hG.2 p h1).1, hw, if_neg (fun z => z rfl), g2, Option.bind_some, w1 (by omega)]
              exact z2
          · obtain ⟨r, t', N', z1, z2, z3, z4⟩ := ih (q + 1) t N LS LT a m m' (by omega) (by omega) (by omega) hI (fun p' hp e => by
              have w := hmin p' hp e
              have : p' ≠ q := fun z => by
                have y := hp.2
                rw [z, h2] at y
                have y2 : p = q := by omega
                rw [z, ← y2] at e
                exact hw e
              omega)
            refine ⟨r, t', N', ?_, ?_, z3, z4⟩
            · show t_X5_drop_s28 _ t (x : Int) (ca c : Int) a (q : Int) = _
              unfold t_X5_drop_s28 t_X5_drop_j68
              have hro : ¬ rO (ca (wN N p) : Int) = rO (ca c : Int) := fun z => by
                rw [rO_pos (by omega), rO_pos (by omega)] at z
                have z' := Option.some.inj z
                rw [Int.toNat_natCast, Int.toNat_natCast] at z'
                exact hw (ca_inj kC hcp hc z')
              rw [if_neg (by omega), q_rf 1 kH.1, Option.bind_some, q_al kH.1 kH.2.1.1 (by rw [kH.2.1.2]; omega), Option.bind_some, hv8, if_neg (by omega), q_gt 0 (kI p h1).1, Option.bind_some, (kI p h1).2.1, if_pos hro, w1 (by omega)]
              exact z1
            · show g_X6_drop_s85 _ N (c : Int) a (q : Int) = _
              unfold g_X6_drop_s85 g_X6_drop_j122 g_X6_drop_j123
              rw [if_neg (by omega), q_mg (show q < mlen 2 by show q < 256; omega), Option.bind_some, h2, w1 (by omega)]
              by_cases e : p = q
              · subst e
                rw [if_neg (fun z => z rfl), q_mg (show p < mlen 14 by show p < 256; omega), Option.bind_some, (hG.2 p h1).1, if_pos (by omega)]
                exact z2
              · rw [if_pos (by omega)]
                exact z2
theorem o_drop (h : CR x t N) (p0 : Int) : ∃ code rv t' bb N', t_X5_drop t (x : Int) p0 = some (code, rv, t') ∧ (code = 0 ∨ code = 1 ∨ code = 3) ∧ g_X6_drop N p0 = some (bb, N') ∧ N' 0 0 = kL_drop code ∧ (code = 0 → bb = rv) ∧ CR x t' N' := by
  obtain ⟨b, ca, la, sa, mg, LS, FL, hz, dz, hA, hH⟩ := id h
  have hP := hA.1.1
  have hG := hA.1.2.2.1
  have hZ := hA.1.2.2.2.2.1
  have kH := hA.2.2.1.1
  by_cases hcs : ∃ c : Nat, p0 = (c : Int) ∧ Lv N c
  · obtain ⟨c, rfl, hv⟩ := hcs
    have hc8 := lv8 hP hv
    have kC := hA.2.2.1.2.2.1.1 c hv
    have kZ := hA.2.2.2.2.2.1 c hv
    by_cases e : lc N c 32768 = 0
    · have hA0 := aa_0 hA 0
      have hd3 := (hA.2.2.2.1 c hv).2.2.2
      obtain ⟨N1, LS1, FL1, hz1, g1, g2, g3, g4, g5, g6, g7⟩ := dm_all (dz := dz) hc8 4 0 (mup N 0 0 0) LS FL hz fuel (by omega) (by decide) hA0.1 hA0.2.1 hH hd3 (fun s _ _ q => by omega)
      have hI := di_start hA0 hv g2 g3 g4 g5 g6 g7
      obtain ⟨r, t', N', z1, z2, z3, z4⟩ := dl_lp 256 0 t N1 LS1 LS 0 fuel fuel (by omega) (by decide) (by decide) hI (fun p _ _ => Nat.zero_le _)
      have e0 : N1 0 = (mup N 0 0 0) 0 := g5.2.1 0 (by decide) (by decide) (by decide) (by decide) (by decide) (by decide) (by decide) (by decide)
      refine ⟨0, r, t', r, N', ?_, Or.inl rfl, ?_, ?_, fun _ => rfl, z3⟩
      · unfold t_X5_drop
        rw [q_ck kH.1, Option.bind_some, kc_y hP kH hv, Option.bind_some]
        dsimp only
        rw [if_pos rfl, q_gt 10 kC.1, Option.bind_some, kZ, e, if_pos (by decide)]
        exact z1
      · unfold g_X6_drop g_X6_drop_j26
        rw [ic_y hP hv, Option.bind_some]
        dsimp only
        rw [if_pos (by decide), lv_of hP hG hZ, Option.bind_some]
        dsimp only
        rw [e, if_pos (by decide), rf_0, Option.bind_some]
        dsimp only
        rw [if_pos rfl]
        exact g1.trans z2
      · rw [z4, e0]; rfl
    · refine ⟨3, 0, t, 0, mup N 0 0 2, ?_, Or.inr (Or.inr rfl), ?_, rfl, fun q => (by omega), cr_0 h 2⟩
      · unfold t_X5_drop
        rw [q_ck kH.1, Option.bind_some, kc_y hP kH hv, Option.bind_some]
        dsimp only
        rw [if_pos rfl, q_gt 10 kC.1, Option.bind_some, kZ, if_neg (by omega)]
      · unfold g_X6_drop g_X6_drop_j26
        rw [ic_y hP hv, Option.bind_some]
        dsimp only
        rw [if_pos (by decide), lv_of hP hG hZ, Option.bind_some]
        dsimp only
        rw [if_neg (by omega), rf_p _ (by decide), Option.bind_some]
        dsimp only
        rw [if_neg (by decide)]
  · refine ⟨1, 0, t, 0, mup N 0 0 1, ?_, Or.inr (Or.inl rfl), ?_, rfl, fun q => (by omega), cr_0 h 1⟩
    · unfold t_X5_drop
      rw [q_ck kH.1, Option.bind_some, kc_n kH hcs, Option.bind_some]
      dsimp only
      rw [if_neg (by decide)]
    · unfold g_X6_drop g_X6_drop_j26
      rw [ic_n hP hcs, Option.bind_some]
      dsimp only
      rw [if_neg (fun z => z rfl), rf_p _ (by decide), Option.bind_some]
      dsimp only
      rw [if_neg (by decide)]
end
