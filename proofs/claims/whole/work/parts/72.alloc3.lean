section
variable {t t' t1 t3 : Th} {x b : Nat} {ca la sa mg mg' : Nat → Nat} {N N' N0 N1 N3 : Mm} {LS FL : Nat → List Nat} {hz dz hz' dz' τ : Nat → Nat} {p i l c k s n a m q d u : Nat}
theorem own_u (hP : WP N) (hG : WG N) (hp : Sl N p) (hi : i < fN N (wN N p)) : N 14 (N 2 (U N p i / 128)).toNat = (wN N p : Int) := by
  rw [(u_pg hP hG hp hi).1, Int.toNat_natCast]
  exact (hG.2 p hp).1
theorem o_allocate (h : CR x t N) (p0 p1 : Int) : ∃ code rv t' bb N', t_X5_allocate t (x : Int) p0 p1 = some (code, rv, t') ∧ (code = 0 ∨ code = 1 ∨ code = 2) ∧ g_X6_allocate N p0 p1 = some (bb, N') ∧ N' 0 0 = kL_allocate code ∧ (code = 0 → bb = rv) ∧ CR x t' N' := by
  obtain ⟨b, ca, la, sa, mg, LS, FL, hz, dz, hA, hH⟩ := id h
  have hP := hA.1.1
  have kH := hA.2.2.1.1
  by_cases hcs : ∃ c : Nat, p0 = (c : Int) ∧ Lv N c
  · obtain ⟨c, rfl, hvc⟩ := hcs
    have hc8 := lv8 hP hvc
    by_cases hq : 0 ≤ p1 ∧ p1 ≤ 3
    · obtain ⟨q, rfl⟩ : ∃ q : Nat, p1 = (q : Int) := ⟨p1.toNat, by omega⟩
      have hq4 : q < 4 := by omega
      have hA0 := aa_0 hA 0
      obtain ⟨t1, N1, mg1, hz1, dz1, y1, y2, y3, y4, y5, y6⟩ := ma_pair (N0 := N) rfl (ab_of hA0) hH (c := c) hvc hq4
      have kZ1 := kz_mag y5 y6 hA0.2.2.1.2.2.1 hA0.2.2.2.2.2.1
      have hA1 := aa_of y3 kZ1
      have hv1 : Lv N1 c := by rw [ep_lv (mo_ep y5)]; exact hvc
      have n0 : N1 0 0 = 0 := by rw [y5 0 (by decide) (by decide) (by decide) (by decide)]; rfl
      have evG : g_X6_allocate N (c : Int) (q : Int) = g_X6_allocate_j151 N1 (c : Int) ((2 * (8 * q + c) : Nat) : Int) := by
        unfold g_X6_allocate
        rw [ic_y hP hvc, Option.bind_some]
        dsimp only
        rw [if_pos (by decide), in_y hq, Option.bind_some]
        dsimp only
        rw [if_pos (by decide)]
        exact y2
      have evT : t_X5_allocate t (x : Int) (c : Int) (q : Int) = Option.bind (t_X1_takeFromMagazines_j69 t1 (ca c : Int) (q : Int)) fun r4 => if r4.1 ≠ (-1) then t_X5_allocate_j30 r4.2 (x : Int) (ca c : Int) r4.1 else Option.bind (tck r4.2 5 (x : Int)) fun u7 => Option.bind (t_X5_takeFromSlabs r4.2 (x : Int) (ca c : Int)) fun r6 => t_X5_allocate_j30 r6.2 (x : Int) (ca c : Int) r6.1 := by
        unfold t_X5_allocate
        rw [q_ck kH.1, Option.bind_some, kc_y hP kH hvc, Option.bind_some]
        dsimp only
        rw [if_pos rfl, rp_y (by omega), Option.bind_some]
        dsimp only
        rw [if_pos rfl, q_ck (hA.2.2.1.2.2.1.1 c hvc).1, Option.bind_some, y1]
      obtain ⟨hW1, hM1, hK1, kP1, kM1, hT1⟩ := id y3
      have kC1 := hK1.2.2.1
      have kCc := kC1.1 c hv1
      have r0 := kM1.1 _ (pr_m (hz := hz1) hc8 hv1 (q := q) (e := 0) hq4 (by omega))
      rw [Nat.add_zero] at r0
      have evT2 : t_X1_takeFromMagazines_j69 t1 (ca c : Int) (q : Int) = Option.bind (t_X2_takeLast t1 (mg1 (2 * (8 * q + c)) : Int)) fun r19 => some (r19.1, r19.2) := by
        unfold t_X1_takeFromMagazines_j69
        rw [q_rf 13 kCc.1, Option.bind_some, q_al kCc.1 kCc.2.2.1.2.1.1 (by rw [kCc.2.2.1.2.1.2]; exact hq4), Option.bind_some, ((kP1 c hv1).1 q hq4).1, q_ck r0.1, Option.bind_some]
      have hm63 : 2 * (8 * q + c) < 63 := by omega
      have v0 := y4.1 (2 * (8 * q + c)) (by omega)
      cases hn : hz1 (2 * (8 * q + c)) with
      | zero =>
        rw [hn] at v0
        have r3 := r0.2.2.1
        rw [hn] at r3
        have evT3 : t_X5_allocate t (x : Int) (c : Int) (q : Int) = Option.bind (t_X5_takeFromSlabs t1 (x : Int) (ca c : Int)) fun r6 => t_X5_allocate_j30 r6.2 (x : Int) (ca c : Int) r6.1 := by
          rw [evT, evT2, tl_no r0.1 r3, Option.bind_some, Option.bind_some]
          dsimp only
          rw [if_neg (fun z => z rfl), q_ck hK1.1.1, Option.bind_some]
        have evG2 : g_X6_allocate N (c : Int) (q : Int) = Option.bind (g_X6_fromSlabs N1 (c : Int)) fun r21 => g_X6_allocate_j200 r21.2 (c : Int) r21.1 := by
          rw [evG]
          unfold g_X6_allocate_j151
          rw [q_mg (show 2 * (8 * q + c) < mlen 23 by show _ < 64; omega), Option.bind_some, v0, if_pos (by decide)]
        rcases from_pair hA1 hv1 with ⟨t2, N2, sa2, LS2, FL2, z1, z2, z3, z4⟩ | ⟨t2, N2, N3, sa2, LS2, FL2, LS1, FL1, p, i, nt, t0, z1, z2, z3, z4, z5, z6, z7, z8, z9, z10, z11, z12, z13, z14, z15, z16, z17, z18, z19⟩
        · have hv2 : Lv N2 c := by unfold Lv; rw [z2 3 (by decide) (by decide) (by decide) (by decide) (by decide) (by decide) (by decide) (by decide) (by decide) (by decide) (by decide) (by decide), z2 4 (by decide) (by decide) (by decide) (by decide) (by decide) (by decide) (by decide) (by decide) (by decide) (by decide) (by decide) (by decide)]; exact hv1
          have c2 := (z1.2.2.1.2.2.1.1 c hv2).1
          have k11 := (z1.2.2.1.2.2.2.1 c hv2).2
          have e23 : N2 23 = N1 23 := z2 23 (by decide) (by decide) (by decide) (by decide) (by decide) (by decide) (by decide) (by decide) (by decide) (by decide) (by decide) (by decide)
          have e25 : N2 25 = N1 25 := z2 25 (by decide) (by decide) (by decide) (by decide) (by decide) (by decide) (by decide) (by decide) (by decide) (by decide) (by decide) (by decide)
          have e0 : N2 0 = N1 0 := z2 0 (by decide) (by decide) (by decide) (by decide) (by decide) (by decide) (by decide) (by decide) (by decide) (by decide) (by decide) (by decide)
          refine ⟨0, -1, tset t2 (ca c) (gf 1 11) 0 (wr (N2 13 c + 1)), -1, mup N2 13 c (wr (N2 13 c + 1)), ?_, Or.inl rfl, ?_, ?_, fun _ => rfl, b, ca, la, sa2, mg1, LS2, FL2, hz1, dz1, aa_miss z1 hv2, ?_⟩
          · rw [evT3, z3, Option.bind_some]
            dsimp only
            unfold t_X5_allocate_j30
            rw [q_ck z1.2.2.1.1.1, Option.bind_some, (sat_no (t := t2) (x := x) (N := N2) (by decide)).1, Option.bind_some]
            dsimp only
            rw [if_neg (by decide), q_gt 11 c2, Option.bind_some, k11, q_pt 11 _ c2, Option.bind_some]
          · rw [evG2, z4, Option.bind_some]
            dsimp only
            unfold g_X6_allocate_j200
            rw [if_neg (by decide), q_mg (show c < mlen 13 from hc8), Option.bind_some, q_ms (show c < mlen 13 from hc8), Option.bind_some]
          · show N2 0 0 = _
            rw [e0, n0]; rfl
          · unfold HZ
            rw [show (mup N2 13 c (wr (N2 13 c + 1))) 23 = N2 23 from rfl, show (mup N2 13 c (wr (N2 13 c + 1))) 25 = N2 25 from rfl, e23, e25]
            exact y4
        · obtain ⟨hW0, hM0, hK0, kP0, kM0, kZ0, hT0⟩ := id z1
          obtain ⟨kH0, kB0, kC0, kV0, kN0, kI0, kS0, kL0⟩ := id hK0
          have hvN : Lv N2 c := by unfold Lv; rw [z2 3 (by decide) (by decide) (by decide) (by decide) (by decide) (by decide) (by decide) (by decide) (by decide) (by decide) (by decide) (by decide), z2 4 (by decide) (by decide) (by decide) (by decide) (by decide) (by decide) (by decide) (by decide) (by decide) (by decide) (by decide) (by decide)]; exact hv1
          have kH2 := kh_fe z14 (by decide) (by decide) (by decide) (by decide) kH0
          have kI2 := ki_fe z14 (by decide) (by decide) (by decide) kI0
          have kC2 := kc_fe z14 (kcj _ (by decide)) (fun k _ _ a ci ha hci => z16 a k (by rw [ha, hci])) kC0
          obtain ⟨u1, u2, u3⟩ := u_ad hW0.1 hW0.2.2.1 z3 z5
          have hu := (u_rng hW0.1 hW0.2.2.1 z3 z5).2.2.1
          have ho := own_u hW0.1 hW0.2.2.1 z3 z5
          rw [z4] at ho
          have hbc := bc_eq (v := -2) (kI2 p z3).1 z17.1 z17.2 z18 z19
          have e24 : (mup N3 18 (U N2 p i) 2) 24 = N2 24 := z12 24 (by decide) (by decide) (by decide) (by decide) (by decide) (by decide)
          have e26 : (mup N3 18 (U N2 p i) 2) 26 = N2 26 := z12 26 (by decide) (by decide) (by decide) (by decide) (by decide) (by decide)
          have hne : ∀ s k, s < 88 → k < hz1 s → hv N2 s k ≠ (U N2 p i : Int) := fun s k hs hk e => by
            obtain ⟨p', i', w1, w2, w3, w4, w5⟩ := (hM0.1 s hs).2 k hk
            rw [w4] at e
            have : U N2 p' i' = U N2 p i := by omega
            rw [this] at w5
            omega
          have f3 := fe_trans z14 (fe_set t2 (sa2 p) (gf 3 9) i (-2))
          obtain ⟨g1, g2, g3⟩ := alive (c := c) z9 hM0 z10 kC0 kP0 kM0 kZ0 hT0 f3 (by decide) z13 z11 e24 e26 hne (by omega) hu ho hvN
          have e0 : N3 0 = N2 0 := z12 0 (by decide) (by decide) (by decide) (by decide) (by decide) (by decide)
          have e0' : N2 0 = N1 0 := z2 0 (by decide) (by decide) (by decide) (by decide) (by decide) (by decide) (by decide) (by decide) (by decide) (by decide) (by decide) (by decide)
          refine ⟨0, ((8 * U N2 p i : Nat) : Int), _, ((8 * U N2 p i : Nat) : Int), mup N3 18 (U N2 p i) 2, ?_, Or.inl rfl, ?_, ?_, fun _ => rfl, b, ca, la, sa2, mg1, LS2, FL2, hz1, dz1, g3, ?_⟩
          · rw [evT3, z7, Option.bind_some]
            dsimp only
            unfold t_X5_allocate_j30
            rw [q_ck kH2.1, Option.bind_some, sat_sl kH2 u1 u2, Option.bind_some]
            dsimp only
            rw [if_pos (by omega), q_ck (kI2 p z3).1, Option.bind_some, no_eq hW0.1 hW0.2.2.1 kC2 kI2 z3 u1, u3, Option.bind_some]
            dsimp only
            rw [q_ck (kI2 p z3).1, Option.bind_some, hbc, Option.bind_some]
            dsimp only
            rw [g1, Option.bind_some, q_pt 10 _ g2, Option.bind_some]
          · rw [evG2, z8, Option.bind_some]
            dsimp only
            unfold g_X6_allocate_j200
            rw [if_pos (by omega), q_ms (show U N2 p i < mlen 18 from hu), Option.bind_some, show 8 * (U N2 p i : Int) = ((8 * U N2 p i : Nat) : Int) by omega, wn (by omega)]
          · show N3 0 0 = _
            rw [e0, e0', n0]; rfl
          · unfold HZ
            rw [z12 23 (by decide) (by decide) (by decide) (by decide) (by decide) (by decide), z12 25 (by decide) (by decide) (by decide) (by decide) (by decide) (by decide), z2 23 (by decide) (by decide) (by decide) (by decide) (by decide) (by decide) (by decide) (by decide) (by decide) (by decide) (by decide) (by decide), z2 25 (by decide) (by decide) (by decide) (by decide) (by decide) (by decide) (by decide) (by decide) (by decide) (by decide) (by decide) (by decide)]
            exact y4
      | succ n =>
        rw [hn] at v0
        have r3 := r0.2.2.1
        rw [hn] at r3
        obtain ⟨m1, m2⟩ := hM1.1 (2 * (8 * q + c)) (by omega)
        rw [hn] at m1
        obtain ⟨p, i, z1, z2, z3, z4, z5⟩ := m2 n (by omega)
        have hcm := (cs_m (q := q) (c := c) (e := 0) hq4 hc8 (by omega)).1
        rw [Nat.add_zero] at hcm
        rw [hcm] at z2
        have hv8 : tV t1 (mg1 (2 * (8 * q + c))) (gf 2 0) n = ((8 * U N1 p i : Nat) : Int) := by rw [r0.2.2.2 n (by omega), z4]; omega
        have etl := tl_eq (n := n) r0.1 r0.2.1 r3 hv8 (by omega)
        have hB2 := pop_AB y3 (s := 2 * (8 * q + c)) (n := n) (by omega) hn
        have hMo2 : Mo N1 (mup N1 23 (2 * (8 * q + c)) (n : Int)) := fun b h1 _ _ _ => by rw [mup_msA, msA_ne h1]
        have f1 := fe_set t1 (mg1 (2 * (8 * q + c))) (gf 2 1) 0 (n : Int)
        have kZ2 := kz_mag hMo2 (fe_sub f1 (by decide)) kC1 kZ1
        generalize ht2 : tset t1 (mg1 (2 * (8 * q + c))) (gf 2 1) 0 (n : Int) = t2 at etl hB2 kZ2 f1
        obtain ⟨hW2, hM2, hK2, kP2, kM2, hT2⟩ := id hB2
        obtain ⟨kH2, kB2, kC2, kV2, kN2, kI2, kS2, kL2⟩ := id hK2
        have q1 : Sl (mup N1 23 (2 * (8 * q + c)) (n : Int)) p := z1
        have q3 : i < fN (mup N1 23 (2 * (8 * q + c)) (n : Int)) (wN (mup N1 23 (2 * (8 * q + c)) (n : Int)) p) := z3
        have hf := nf_st hW2.2.2.2.1 q1 q3 (show N1 18 (U N1 p i) ≠ 1 by omega)
        obtain ⟨s1, s2, s3⟩ := state_pair (v := 2) (Or.inl rfl) hW2 hK2 q1 q3 hf
        rw [if_pos rfl] at s1 s3
        have eU : U (mup N1 23 (2 * (8 * q + c)) (n : Int)) p i = U N1 p i := rfl
        rw [eU] at s2 s3
        obtain ⟨u1, u2, u3⟩ := u_ad hW2.1 hW2.2.2.1 q1 q3
        rw [eU] at u1 u2 u3
        have hu := (u_rng hW1.1 hW1.2.2.1 z1 z3).2.2.1
        have ho := own_u hW2.1 hW2.2.2.1 q1 q3
        rw [eU, show wN (mup N1 23 (2 * (8 * q + c)) (n : Int)) p = c from z2] at ho
        have hne : ∀ s k, s < 88 → k < fz hz1 (2 * (8 * q + c)) n s → hv (mup N1 23 (2 * (8 * q + c)) (n : Int)) s k ≠ (U N1 p i : Int) := fun s k hs hk e => by
          have e' : hv N1 s k = hv N1 (2 * (8 * q + c)) n := by rw [z4]; exact e
          have hk' : k < hz1 s := by
            unfold fz at hk
            by_cases w : s = 2 * (8 * q + c)
            · rw [if_pos w] at hk; rw [w]; omega
            · rw [if_neg w] at hk; exact hk
          obtain ⟨w1, w2⟩ := hM1.2 s (2 * (8 * q + c)) k n hs (by omega) hk' (by omega) e'
          rw [w1, fz_same] at hk
          omega
        have hE : Ep (mup N1 23 (2 * (8 * q + c)) (n : Int)) (mup (mup N1 23 (2 * (8 * q + c)) (n : Int)) 18 (U N1 p i) 2) := ⟨rfl, rfl, rfl, rfl, rfl, rfl, rfl, rfl, rfl, rfl, rfl, rfl⟩
        have e18 : (mup (mup N1 23 (2 * (8 * q + c)) (n : Int)) 18 (U N1 p i) 2) 18 = fu ((mup N1 23 (2 * (8 * q + c)) (n : Int)) 18) (U N1 p i) 2 := by rw [mup_msA, msA_same]
        obtain ⟨g1, g2, g3⟩ := alive (c := c) s2 hM2 s3 kC2 kP2 kM2 kZ2 hT2 (fe_set t2 (sa p) (gf 3 9) i (-2)) (by decide) hE e18 rfl rfl hne (show N1 18 (U N1 p i) ≠ 2 by omega) hu ho hv1
        refine ⟨0, ((8 * U N1 p i : Nat) : Int), _, ((8 * U N1 p i : Nat) : Int), mup (mup N1 23 (2 * (8 * q + c)) (n : Int)) 18 (U N1 p i) 2, ?_, Or.inl rfl, ?_, ?_, fun _ => rfl, b, ca, la, sa, mg1, LS, FL, fz hz1 (2 * (8 * q + c)) n, dz1, g3, ⟨fun s hs => ?_, fun d hd => ⟨?_, fun e he => ?_⟩⟩⟩
        · rw [evT, evT2, etl, Option.bind_some, Option.bind_some]
          dsimp only
          rw [if_pos (by omega)]
          unfold t_X5_allocate_j30
          rw [q_ck kH2.1, Option.bind_some, sat_sl kH2 u1 u2, Option.bind_some]
          dsimp only
          rw [if_pos (by omega), q_ck (kI2 p q1).1, Option.bind_some, no_eq hW2.1 hW2.2.2.1 kC2 kI2 q1 u1, u3, Option.bind_some]
          dsimp only
          rw [q_ck (kI2 p q1).1, Option.bind_some, s1, Option.bind_some]
          dsimp only
          rw [g1, Option.bind_some, q_pt 10 _ g2, Option.bind_some]
        · rw [evG]
          unfold g_X6_allocate_j151 g_X6_allocate_j200
          have w9 : wr (((n + 1 : Nat) : Int) - 1) = (n : Int) := by
            rw [show (((n + 1 : Nat) : Int) - 1) = (n : Int) by omega]
            exact wn (by omega)
          have g23 : (mup N1 23 (2 * (8 * q + c)) (n : Int)) 23 (2 * (8 * q + c)) = (n : Int) := if_pos ⟨rfl, rfl⟩
          have g24 : (mup N1 23 (2 * (8 * q + c)) (n : Int)) 24 (4 * (2 * (8 * q + c)) + n) = (U N1 p i : Int) := by
            rw [← z4]
            exact (if_pos (by omega)).symm
          rw [q_mg (show 2 * (8 * q + c) < mlen 23 by show _ < 64; omega), Option.bind_some, v0, if_neg (by omega), Option.bind_some, w9, q_ms (show 2 * (8 * q + c) < mlen 23 by show _ < 64; omega), Option.bind_some, q_mg (show 2 * (8 * q + c) < mlen 23 by show _ < 64; omega), Option.bind_some, g23, w4m (by omega), wa (by omega), q_mg (show 4 * (2 * (8 * q + c)) + n < mlen 24 by show _ < 256; omega), Option.bind_some, g24, if_pos (by omega), q_ms (show U N1 p i < mlen 18 from hu), Option.bind_some, show 8 * (U N1 p i : Int) = ((8 * U N1 p i : Nat) : Int) by omega, wn (by omega)]
        · show N1 0 0 = _
          rw [n0]; rfl
        · show (if 23 = 23 ∧ s = 2 * (8 * q + c) then (n : Int) else N1 23 s) = _
          by_cases e : s = 2 * (8 * q + c)
          · rw [if_pos ⟨rfl, e⟩, e, fz_same]
          · rw [if_neg (fun z => e z.2), fz_ne e]; exact y4.1 s hs
        · exact (y4.2 d hd).1
        · rw [fz_ne (by omega)]; exact (y4.2 d hd).2 e he
    · refine ⟨2, 0, t, 0, mup N 0 0 2, ?_, Or.inr (Or.inr rfl), ?_, rfl, fun q => (by omega), cr_0 h 2⟩
      · unfold t_X5_allocate
        rw [q_ck kH.1, Option.bind_some, kc_y hP kH hvc, Option.bind_some]
        dsimp only
        rw [if_pos rfl, rp_n (by omega), Option.bind_some]
        dsimp only
        rw [if_neg (by decide)]
      · unfold g_X6_allocate g_X6_allocate_j27
        rw [ic_y hP hvc, Option.bind_some]
        dsimp only
        rw [if_pos (by decide), in_n hq, Option.bind_some]
        dsimp only
        rw [if_neg (fun z => z rfl), rf_p _ (by decide), Option.bind_some]
        dsimp only
        rw [if_neg (by decide)]
  · refine ⟨1, 0, t, 0, mup N 0 0 1, ?_, Or.inr (Or.inl rfl), ?_, rfl, fun q => (by omega), cr_0 h 1⟩
    · unfold t_X5_allocate
      rw [q_ck kH.1, Option.bind_some, kc_n kH hcs, Option.bind_some]
      dsimp only
      rw [if_neg (by decide)]
    · unfold g_X6_allocate g_X6_allocate_j27
      rw [ic_n hP hcs, Option.bind_some]
      dsimp only
      rw [if_neg (fun z => z rfl), rf_p _ (by decide), Option.bind_some]
      dsimp only
      rw [if_neg (by decide)]
end
