section
variable {t : Th} {x b : Nat} {ca la sa mg : Nat → Nat} {N N' : Mm} {LS FL : Nat → List Nat} {hz dz : Nat → Nat} {p i l c k : Nat}
theorem lv8 (hP : WP N) (hc : Lv N c) : c < 8 := by have := hP.1; have := hc.1; omega
theorem w3c (hc : c < 8) : wr (3 * (c : Int)) = ((3 * c : Nat) : Int) := by rw [wr_eq ⟨by omega, by omega⟩]; omega
theorem o_about (h : CR x t N) (p0 p1 : Int) : ∃ code rv t' bb N', t_X5_about t (x : Int) p0 p1 = some (code, rv, t') ∧ (code = 0 ∨ code = 1 ∨ code = 2) ∧ g_X6_about N p0 p1 = some (bb, N') ∧ N' 0 0 = kL_about code ∧ (code = 0 → bb = rv) ∧ CR x t' N' := by
  obtain ⟨b, ca, la, sa, mg, LS, FL, hz, dz, hA, hH⟩ := id h
  have kH := hA.2.2.1.1
  have hP := hA.1.1
  by_cases hk : ∃ c : Nat, p0 = (c : Int) ∧ Lv N c
  · obtain ⟨c, rfl, hc⟩ := hk
    have hc8 := lv8 hP hc
    have kC := hA.2.2.1.2.2.1.1 c hc
    have kV := hA.2.2.1.2.2.2.1 c hc
    have kN := hA.2.2.1.2.2.2.2.1 c hc
    have kZ := hA.2.2.2.2.2.1 c hc
    have hR := hA.1.2.2.2.2.2
    obtain ⟨k0, k1, k2, k3, k4, k5, k6, k7⟩ := kC.2.1
    have evT : t_X5_about t (x : Int) (c : Int) p1 = if p1 = 0 then some (0, N 9 c, t) else if p1 = 1 then some (0, N 10 c, t) else if p1 = 2 then some (0, N 11 c, t) else if p1 = 3 then some (0, N 12 c, t) else if p1 = 4 then some (0, ((LS (3 * c)).length : Int) + ((LS (3 * c + 1)).length : Int) + ((LS (3 * c + 2)).length : Int), t) else if p1 = 5 then some (0, (lc N c 32768 : Int), t) else if p1 = 6 then some (0, ((4 * dz c + sm hz c 4 : Nat) : Int), t) else if p1 = 7 then some (0, N 13 c, t) else some (2, 0, t) := by
      unfold t_X5_about
      rw [q_ck kH.1, Option.bind_some, kc_y hP kH hc, Option.bind_some]
      dsimp only
      have e6 : t_X1_inMagazines t (ca c : Int) = some (((4 * dz c + sm hz c 4 : Nat) : Int), t) := by
        obtain ⟨p1', p2', p3', p4'⟩ := hA.2.2.2.1 c hc
        unfold t_X1_inMagazines
        rw [q_gt 16 kC.1, Option.bind_some, p3']
        have e : wr ((dz c : Int) * 4) = ((4 * dz c + sm hz c 0 : Nat) : Int) := by
          rw [wr_eq ⟨by omega, by omega⟩]
          show _ = ((4 * dz c + 0 : Nat) : Int)
          omega
        rw [e]
        exact im_loop hA hc hc8 4 0 fuel (by omega) (by decide)
      rw [if_pos rfl, q_gt 5 kC.1, Option.bind_some, k5, q_gt 6 kC.1, Option.bind_some, k6, q_gt 7 kC.1, Option.bind_some, k7, q_gt 8 kC.1, Option.bind_some, kV.1, q_gt 9 kC.1, Option.bind_some, kN, q_gt 10 kC.1, Option.bind_some, kZ, q_ck kC.1, Option.bind_some, e6, Option.bind_some, q_gt 11 kC.1, Option.bind_some, kV.2]
    by_cases hw : 0 ≤ p1 ∧ p1 ≤ 7
    · have hA0 := aa_0 hA 0
      have hCR := cr_0 h 0
      have hH0 : HZ (mup N 0 0 0) hz dz := hH
      have evG : g_X6_about N (c : Int) p1 = if 4 ≤ p1 then (if p1 ≠ 6 then g_X6_about_j152 (mup N 0 0 0) (c : Int) p1 0 else Option.bind (mgt 25 (mup N 0 0 0) (c : Int)) fun v7 => g_X6_about_b109 fuel (mup N 0 0 0) (c : Int) p1 (wr (4 * v7)) 0) else (if p1 ≠ 0 then (if p1 ≠ 1 then (if p1 ≠ 2 then some (N 12 c, mup N 0 0 0) else some (N 11 c, mup N 0 0 0)) else some (N 10 c, mup N 0 0 0)) else some (N 9 c, mup N 0 0 0)) := by
        unfold g_X6_about g_X6_about_j28 g_X6_about_j88
        rw [ic_y hP hc, Option.bind_some]
        dsimp only
        rw [if_pos (by decide), in_y hw, Option.bind_some]
        dsimp only
        rw [if_pos (by decide), rf_0, Option.bind_some]
        dsimp only
        rw [if_pos rfl, q_mg (show c < mlen 12 from hc8), Option.bind_some, q_mg (show c < mlen 11 from hc8), Option.bind_some, q_mg (show c < mlen 10 from hc8), Option.bind_some, q_mg (show c < mlen 9 from hc8), Option.bind_some]
        rfl
      have ev152 : ∀ z : Int, g_X6_about_j152 (mup N 0 0 0) (c : Int) p1 z = if p1 ≠ 4 then (if p1 ≠ 5 then (if p1 ≠ 6 then some (N 13 c, mup N 0 0 0) else some (z, mup N 0 0 0)) else some ((lc (mup N 0 0 0) c 32768 : Int), mup N 0 0 0)) else some (((LS (3 * c)).length : Int) + ((LS (3 * c + 1)).length : Int) + ((LS (3 * c + 2)).length : Int), mup N 0 0 0) := fun z => by
        have hb : ∀ l, l < 24 → (LS l).length ≤ 256 := fun l hl => (hR.1 l hl).2.1
        have h1 := hb (3 * c) (by omega)
        have h2 := hb (3 * c + 1) (by omega)
        have h3 := hb (3 * c + 2) (by omega)
        unfold g_X6_about_j152 g_X6_about_j223
        rw [w3c hc8, w1 (by omega), show (((3 * c : Nat) : Int) + 2) = ((3 * c + 2 : Nat) : Int) by omega, wn (by omega), q_mg (show 3 * c < mlen 21 by show _ < 24; omega), Option.bind_some, q_mg (show 3 * c + 1 < mlen 21 by show _ < 24; omega), Option.bind_some, q_mg (show 3 * c + 2 < mlen 21 by show _ < 24; omega), Option.bind_some, q_mg (show c < mlen 13 from hc8), Option.bind_some, lv_of hA0.1.1 hA0.1.2.2.1 hA0.1.2.2.2.2.1 c, Option.bind_some]
        show (if p1 ≠ 4 then _ else some (wr (wr (N 21 (3 * c) + N 21 (3 * c + 1)) + N 21 (3 * c + 2)), _)) = _
        rw [(hR.1 (3 * c) (by omega)).1, (hR.1 (3 * c + 1) (by omega)).1, (hR.1 (3 * c + 2) (by omega)).1, wr_eq (z := ((LS (3 * c)).length : Int) + ((LS (3 * c + 1)).length : Int)) ⟨by omega, by omega⟩, wr_eq ⟨by omega, by omega⟩]
        rfl
      have elc : lc (mup N 0 0 0) c 32768 = lc N c 32768 := lc_congr 32768 (fun _ _ => Iff.rfl)
      rw [evT, evG]
      have hcs : p1 = 0 ∨ p1 = 1 ∨ p1 = 2 ∨ p1 = 3 ∨ p1 = 4 ∨ p1 = 5 ∨ p1 = 6 ∨ p1 = 7 := by omega
      rcases hcs with rfl | rfl | rfl | rfl | rfl | rfl | rfl | rfl
      · exact ⟨0, _, t, _, mup N 0 0 0, by rw [if_pos rfl], Or.inl rfl, by rw [if_neg (by decide), if_neg (by decide)], rfl, fun _ => rfl, hCR⟩
      · exact ⟨0, _, t, _, mup N 0 0 0, by rw [if_neg (by decide), if_pos rfl], Or.inl rfl, by rw [if_neg (by decide), if_pos (by decide), if_neg (by decide)], rfl, fun _ => rfl, hCR⟩
      · exact ⟨0, _, t, _, mup N 0 0 0, by rw [if_neg (by decide), if_neg (by decide), if_pos rfl], Or.inl rfl, by rw [if_neg (by decide), if_pos (by decide), if_pos (by decide), if_neg (by decide)], rfl, fun _ => rfl, hCR⟩
      · exact ⟨0, _, t, _, mup N 0 0 0, by rw [if_neg (by decide), if_neg (by decide), if_neg (by decide), if_pos rfl], Or.inl rfl, by rw [if_neg (by decide), if_pos (by decide), if_pos (by decide), if_pos (by decide)], rfl, fun _ => rfl, hCR⟩
      · exact ⟨0, _, t, _, mup N 0 0 0, by rw [if_neg (by decide), if_neg (by decide), if_neg (by decide), if_neg (by decide), if_pos rfl], Or.inl rfl, by rw [if_pos (by decide), if_pos (by decide), ev152, if_neg (by decide)], rfl, fun _ => rfl, hCR⟩
      · exact ⟨0, _, t, _, mup N 0 0 0, by rw [if_neg (by decide), if_neg (by decide), if_neg (by decide), if_neg (by decide), if_neg (by decide), if_pos rfl], Or.inl rfl, by rw [if_pos (by decide), if_pos (by decide), ev152, if_pos (by decide), if_neg (by decide)], rfl, fun _ => by rw [elc], hCR⟩
      · refine ⟨0, _, t, ((4 * dz c + sm hz c 4 : Nat) : Int), mup N 0 0 0, by rw [if_neg (by decide), if_neg (by decide), if_neg (by decide), if_neg (by decide), if_neg (by decide), if_neg (by decide), if_pos rfl], Or.inl rfl, ?_, rfl, fun _ => rfl, hCR⟩
        rw [if_pos (by decide), if_neg (by decide), q_mg (show c < mlen 25 from hc8), Option.bind_some]
        obtain ⟨p1', p2', p3', p4'⟩ := hA.2.2.2.1 c hc
        have e : wr (4 * (mup N 0 0 0) 25 c) = ((4 * dz c + sm hz c 0 : Nat) : Int) := by
          show wr (4 * N 25 c) = _
          rw [(hH.2 c hc8).1, wr_eq ⟨by omega, by omega⟩]
          show _ = ((4 * dz c + 0 : Nat) : Int)
          omega
        rw [e]
        refine (am_loop hA0 hH0 hc hc8 4 0 fuel (by omega) (by decide)).trans ?_
        rw [ev152, if_pos (by decide), if_pos (by decide), if_neg (by decide)]
      · exact ⟨0, _, t, _, mup N 0 0 0, by rw [if_neg (by decide), if_neg (by decide), if_neg (by decide), if_neg (by decide), if_neg (by decide), if_neg (by decide), if_neg (by decide), if_pos rfl], Or.inl rfl, by rw [if_pos (by decide), if_pos (by decide), ev152, if_pos (by decide), if_pos (by decide), if_pos (by decide)], rfl, fun _ => rfl, hCR⟩
    · refine ⟨2, 0, t, 0, mup N 0 0 2, ?_, Or.inr (Or.inr rfl), ?_, rfl, fun q => (by omega), cr_0 h 2⟩
      · rw [evT, if_neg (by omega), if_neg (by omega), if_neg (by omega), if_neg (by omega), if_neg (by omega), if_neg (by omega), if_neg (by omega), if_neg (by omega)]
      · unfold g_X6_about g_X6_about_j28
        rw [ic_y hP hc, Option.bind_some]
        dsimp only
        rw [if_pos (by decide), in_n hw, Option.bind_some]
        dsimp only
        rw [if_neg (by decide), rf_p _ (by decide), Option.bind_some]
        dsimp only
        rw [if_neg (by decide)]
  · refine ⟨1, 0, t, 0, mup N 0 0 1, ?_, Or.inr (Or.inl rfl), ?_, rfl, fun q => (by omega), cr_0 h 1⟩
    · unfold t_X5_about
      rw [q_ck kH.1, Option.bind_some, kc_n kH hk, Option.bind_some]
      dsimp only
      rw [if_neg (by decide)]
    · unfold g_X6_about g_X6_about_j28
      rw [ic_n hP hk, Option.bind_some]
      dsimp only
      rw [if_neg (by decide), rf_p _ (by decide), Option.bind_some]
      dsimp only
      rw [if_neg (by decide)]
theorem o_magazine (h : CR x t N) (p0 p1 p2 : Int) : ∃ code rv t' bb N', t_X5_magazine t (x : Int) p0 p1 p2 = some (code, rv, t') ∧ (code = 0 ∨ code = 1 ∨ code = 2) ∧ g_X6_magazine N p0 p1 p2 = some (bb, N') ∧ N' 0 0 = kL_magazine code ∧ (code = 0 → bb = rv) ∧ CR x t' N' := by
  obtain ⟨b, ca, la, sa, mg, LS, FL, hz, dz, hA, hH⟩ := id h
  have kH := hA.2.2.1.1
  have hP := hA.1.1
  by_cases hk : ∃ c : Nat, p0 = (c : Int) ∧ Lv N c
  · obtain ⟨c, rfl, hc⟩ := hk
    have hc8 := lv8 hP hc
    have kC := hA.2.2.1.2.2.1.1 c hc
    obtain ⟨k1, k2, k3, k4⟩ := hA.2.2.2.1 c hc
    have kM := hA.2.2.2.2.1
    unfold t_X5_magazine g_X6_magazine g_X6_magazine_j31 g_X6_magazine_j36 g_X6_magazine_j73
    rw [q_ck kH.1, Option.bind_some, kc_y hP kH hc, Option.bind_some, ic_y hP hc, Option.bind_some]
    dsimp only
    rw [if_pos rfl, if_pos (show (1 : Int) ≠ 0 by decide)]
    by_cases hq : 0 ≤ p1 ∧ p1 < 4
    · obtain ⟨q, rfl⟩ : ∃ q : Nat, p1 = (q : Int) := ⟨p1.toNat, by omega⟩
      have m0 := kM.1 _ (pr_m (hz := hz) hc8 hc (q := q) (e := 0) (by omega) (by omega))
      have m1 := kM.1 _ (pr_m (hz := hz) hc8 hc (q := q) (e := 1) (by omega) (by omega))
      rw [Nat.add_zero] at m0
      rw [rp_y hq, Option.bind_some, in_y (by omega), Option.bind_some]
      dsimp only
      rw [if_pos rfl, if_neg (show ¬ (1 : Int) = 0 by decide)]
      by_cases hw : 0 ≤ p2 ∧ p2 ≤ 2
      · rw [in_y hw, Option.bind_some]
        dsimp only
        rw [if_pos (show (1 : Int) ≠ 0 by decide), rf_0, Option.bind_some]
        dsimp only
        rw [if_pos rfl, q_rf 13 kC.1, Option.bind_some, q_al kC.1 kC.2.2.1.2.1.1 (by rw [kC.2.2.1.2.1.2]; omega), Option.bind_some, (k1 q (by omega)).1, q_gt 1 m0.1, Option.bind_some, m0.2.2.1, q_rf 14 kC.1, Option.bind_some, q_al kC.1 kC.2.2.1.2.2.1.1 (by rw [kC.2.2.1.2.2.1.2]; omega), Option.bind_some, (k1 q (by omega)).2, q_gt 1 m1.1, Option.bind_some, m1.2.2.1, q_gt 16 kC.1, Option.bind_some, k3, wm2 (by omega) hc8, q_mg (show c < mlen 25 from hc8), Option.bind_some]
        have hcs : p2 = 0 ∨ p2 = 1 ∨ p2 = 2 := by omega
        rcases hcs with rfl | rfl | rfl
        · refine ⟨0, _, t, (hz (2 * (8 * q + c)) : Int), mup N 0 0 0, by rw [if_pos rfl], Or.inl rfl, ?_, rfl, fun _ => rfl, cr_0 h 0⟩
          rw [if_pos (by decide), Int.add_zero, wn (by omega), q_mg (show 2 * (8 * q + c) < mlen 23 by show _ < 64; omega), Option.bind_some]
          show some (N 23 _, _) = _
          rw [hH.1 _ (by omega)]
        · refine ⟨0, _, t, (hz (2 * (8 * q + c) + 1) : Int), mup N 0 0 0, by rw [if_neg (by decide), if_pos rfl], Or.inl rfl, ?_, rfl, fun _ => rfl, cr_0 h 0⟩
          rw [if_pos (by decide), w1 (by omega), q_mg (show 2 * (8 * q + c) + 1 < mlen 23 by show _ < 64; omega), Option.bind_some]
          show some (N 23 _, _) = _
          rw [hH.1 _ (by omega)]
        · refine ⟨0, _, t, (dz c : Int), mup N 0 0 0, by rw [if_neg (by decide), if_neg (by decide), if_pos rfl], Or.inl rfl, ?_, rfl, fun _ => rfl, cr_0 h 0⟩
          rw [if_neg (by decide)]
          show some (N 25 c, _) = _
          rw [(hH.2 c hc8).1]
      · rw [in_n hw, Option.bind_some]
        dsimp only
        rw [if_neg (show ¬ (0 : Int) ≠ 0 by decide), rf_p _ (by decide), Option.bind_some]
        dsimp only
        rw [if_neg (show ¬ (1 : Int) = 0 by decide), if_neg (by omega), if_neg (by omega), if_neg (by omega)]
        exact ⟨2, 0, t, 0, mup N 0 0 2, rfl, Or.inr (Or.inr rfl), rfl, rfl, fun q => (by omega), cr_0 h 2⟩
    · rw [rp_n hq, Option.bind_some, in_n (by omega), Option.bind_some]
      dsimp only
      rw [if_neg (show ¬ (2 : Nat) = 0 by decide), if_pos rfl, rf_p _ (by decide), Option.bind_some]
      dsimp only
      rw [if_neg (show ¬ (1 : Int) = 0 by decide)]
      exact ⟨2, 0, t, 0, mup N 0 0 2, rfl, Or.inr (Or.inr rfl), rfl, rfl, fun q => (by omega), cr_0 h 2⟩
  · refine ⟨1, 0, t, 0, mup N 0 0 1, ?_, Or.inr (Or.inl rfl), ?_, rfl, fun q => (by omega), cr_0 h 1⟩
    · unfold t_X5_magazine
      rw [q_ck kH.1, Option.bind_some, kc_n kH hk, Option.bind_some]
      dsimp only
      rw [if_neg (by decide)]
    · unfold g_X6_magazine g_X6_magazine_j36
      rw [ic_n hP hk, Option.bind_some]
      dsimp only
      rw [if_neg (by decide), rf_p _ (by decide), Option.bind_some]
      dsimp only
      rw [if_neg (by decide)]
theorem sap_loop (kI : KI t sa ca N) : ∀ (xs : List Nat) (pr : Int) (k m : Nat), dlf (Bt t) (At t) pr (xs.map sa) → (∀ p, p ∈ xs → Sl N p) → xs.length < m → k < 2147483648 → t_X4_slabAtPlace_b13 m t (k : Int) (hdA (xs.map sa)) = some (hdA ((xs.drop k).map sa), t) := by
  intro xs
  induction xs with
  | nil =>
    intro pr k m _ _ hm _
    cases m with
    | zero => omega
    | succ m =>
      show t_X4_slabAtPlace_s13 _ t (k : Int) _ = _
      unfold t_X4_slabAtPlace_s13 t_X4_slabAtPlace_j32
      rw [if_pos (show hdA (List.map sa []) < 0 from (by decide : (-1 : Int) < 0)), List.drop_nil]
  | cons p r ih =>
    intro pr k m hd hs hm hk
    cases m with
    | zero => omega
    | succ m =>
      have c1 := (kI p (hs p List.mem_cons_self)).1
      show t_X4_slabAtPlace_s13 _ t (k : Int) ((sa p : Nat) : Int) = _
      unfold t_X4_slabAtPlace_s13 t_X4_slabAtPlace_j32
      rw [if_neg (by omega)]
      cases k with
      | zero => rw [if_pos (by decide)]; rfl
      | succ k =>
        have e : wr (((k + 1 : Nat) : Int) + -1) = (k : Int) := by rw [wr_eq ⟨by omega, by omega⟩]; omega
        have ha : tV t (sa p) (gf 3 6) 0 = hdA (r.map sa) := hd.2.1
        rw [if_neg (by omega), q_gt 6 c1, Option.bind_some, ha, e, List.drop_succ_cons]
        exact ih _ k m hd.2.2 (fun q hq => hs q (List.mem_cons_of_mem _ hq)) (by rw [List.length_cons] at hm; omega) (by omega)
theorem o_list (h : CR x t N) (p0 p1 p2 : Int) (i2 : inr p2) : ∃ code rv t' bb N', t_X5_list t (x : Int) p0 p1 p2 = some (code, rv, t') ∧ (code = 0 ∨ code = 1 ∨ code = 2) ∧ g_X6_list N p0 p1 p2 = some (bb, N') ∧ N' 0 0 = kL_list code ∧ (code = 0 → bb = rv) ∧ CR x t' N' := by
  obtain ⟨b, ca, la, sa, mg, LS, FL, hz, dz, hA, hH⟩ := id h
  have kH := hA.2.2.1.1
  have hP := hA.1.1
  by_cases hk : ∃ c : Nat, p0 = (c : Int) ∧ Lv N c
  · obtain ⟨c, rfl, hc⟩ := hk
    have hc8 := lv8 hP hc
    have kC := hA.2.2.1.2.2.1.1 c hc
    have kI := hA.2.2.1.2.2.2.2.2.1
    have hR := hA.1.2.2.2.2.2
    unfold t_X5_list t_X5_list_j16 t_X5_list_j53 g_X6_list g_X6_list_j27 g_X6_list_j80
    rw [q_ck kH.1, Option.bind_some, kc_y hP kH hc, Option.bind_some, ic_y hP hc, Option.bind_some]
    dsimp only
    rw [if_pos rfl, if_pos (show (1 : Int) ≠ 0 by decide)]
    by_cases hw : 0 ≤ p1 ∧ p1 ≤ 2
    · obtain ⟨w, rfl⟩ : ∃ w : Nat, p1 = (w : Int) := ⟨p1.toNat, by omega⟩
      have kL := hA.2.2.1.2.2.2.2.2.2.2 (3 * c + w) (by omega) (by rw [show (3 * c + w) / 3 = c by omega]; exact hc)
      have l1 := hR.1 (3 * c + w) (by omega)
      obtain ⟨cw1, cw2⟩ := kC.2.2.2 w (by omega)
      have hsm := lsm (wr_gl hR) (3 * c + w) (by omega)
      rw [in_y hw, Option.bind_some]
      dsimp only
      rw [if_pos (show (1 : Int) ≠ 0 by decide), rf_0, Option.bind_some]
      dsimp only
      rw [if_pos rfl, if_neg (by omega), if_pos (by omega), q_rf 12 kC.1, Option.bind_some, q_al kC.1 kC.2.2.1.1.1 (by rw [kC.2.2.1.1.2]; omega), Option.bind_some, cw1, q_ck cw2, Option.bind_some, w3 hc8 (by omega), q_mg (show 3 * c + w < mlen 21 by show _ < 24; omega), Option.bind_some]
      have e21 : (mup N 0 0 0) 21 (3 * c + w) = ((LS (3 * c + w)).length : Int) := l1.1
      rw [e21, wr_eq (z := ((LS (3 * c + w)).length : Int) - 1) ⟨by omega, by omega⟩]
      by_cases hk2 : 0 ≤ p2
      · obtain ⟨k, rfl⟩ : ∃ k : Nat, p2 = (k : Int) := ⟨p2.toNat, by omega⟩
        have hsl : t_X4_slabAtPlace t (la (3 * c + w) : Int) (k : Int) = some (hdA (((LS (3 * c + w)).drop k).map sa), t) := by
          unfold t_X4_slabAtPlace
          rw [if_pos hk2, q_gt 0 cw2, Option.bind_some, kL.1]
          exact sap_loop kI _ _ k fuel kL.2.1 hsm (by show _ < 40000; omega) (by have := i2.2; omega)
        rw [hsl, Option.bind_some]
        dsimp only
        by_cases hlt : k < (LS (3 * c + w)).length
        · have hdr : (LS (3 * c + w)).drop k = (LS (3 * c + w))[k] :: (LS (3 * c + w)).drop (k + 1) := List.drop_eq_getElem_cons hlt
          have hm : (LS (3 * c + w))[k] ∈ LS (3 * c + w) := List.getElem_mem hlt
          have hsp := hsm _ hm
          rw [hdr, in_y ⟨by omega, by omega⟩, Option.bind_some]
          dsimp only
          rw [if_neg (show ¬ (1 : Int) = 0 by decide), List.map_cons]
          show ∃ code rv t' bb N', (if 0 ≤ ((sa (LS (3 * c + w))[k] : Nat) : Int) then Option.bind (tck t 3 ((sa (LS (3 * c + w))[k] : Nat) : Int)) fun u8 => Option.bind (t_X3_firstByte t ((sa (LS (3 * c + w))[k] : Nat) : Int)) fun r7 => some (0, r7.1, r7.2) else _) = _ ∧ _
          have e22 : wr (((256 * (3 * c + w) : Nat) : Int) + (k : Int)) = ((256 * (3 * c + w) + k : Nat) : Int) := wa (by omega)
          have hp2 := hsp.1
          refine ⟨0, ((1024 * (LS (3 * c + w))[k] : Nat) : Int), t, ((1024 * (LS (3 * c + w))[k] : Nat) : Int), mup N 0 0 0, ?_, Or.inl rfl, ?_, rfl, fun _ => rfl, cr_0 h 0⟩
          · rw [if_pos (by omega), q_ck (kI _ hsp).1, Option.bind_some, fb_eq kI hsp, Option.bind_some]
          · rw [w256 (by omega), e22, q_mg (show 256 * (3 * c + w) + k < mlen 22 by show _ < 6144; omega), Option.bind_some]
            have e : (mup N 0 0 0) 22 (256 * (3 * c + w) + k) = ((LS (3 * c + w))[k] : Int) := l1.2.2 k hlt
            rw [e, show (1024 : Int) * ((LS (3 * c + w))[k] : Int) = ((1024 * (LS (3 * c + w))[k] : Nat) : Int) by omega, wn (by omega)]
        · rw [List.drop_eq_nil_of_le (by omega), in_n (by omega), Option.bind_some]
          dsimp only
          rw [if_pos rfl, if_neg (show ¬ 0 ≤ hdA (List.map sa []) from (by decide : ¬ (0 : Int) ≤ -1))]
          exact ⟨0, -1, t, -1, mup N 0 0 0, rfl, Or.inl rfl, rfl, rfl, fun _ => rfl, cr_0 h 0⟩
      · have hsl : t_X4_slabAtPlace t (la (3 * c + w) : Int) p2 = some (-1, t) := by
          unfold t_X4_slabAtPlace
          rw [if_neg hk2]
        rw [hsl, Option.bind_some, in_n (by omega), Option.bind_some]
        dsimp only
        rw [if_pos rfl, if_neg (by decide)]
        exact ⟨0, -1, t, -1, mup N 0 0 0, rfl, Or.inl rfl, rfl, rfl, fun _ => rfl, cr_0 h 0⟩
    · rw [in_n hw, Option.bind_some]
      dsimp only
      rw [if_neg (show ¬ (0 : Int) ≠ 0 by decide), rf_p _ (by decide), Option.bind_some]
      dsimp only
      rw [if_neg (show ¬ (1 : Int) = 0 by decide)]
      refine ⟨2, 0, t, 0, mup N 0 0 2, ?_, Or.inr (Or.inr rfl), rfl, rfl, fun q => (by omega), cr_0 h 2⟩
      by_cases e : p1 < 0
      · rw [if_pos e]
      · rw [if_neg e, if_neg (by omega)]
  · refine ⟨1, 0, t, 0, mup N 0 0 1, ?_, Or.inr (Or.inl rfl), ?_, rfl, fun q => (by omega), cr_0 h 1⟩
    · unfold t_X5_list
      rw [q_ck kH.1, Option.bind_some, kc_n kH hk, Option.bind_some]
      dsimp only
      rw [if_neg (by decide)]
    · unfold g_X6_list g_X6_list_j27
      rw [ic_n hP hk, Option.bind_some]
      dsimp only
      rw [if_neg (by decide), rf_p _ (by decide), Option.bind_some]
      dsimp only
      rw [if_neg (by decide)]
end
