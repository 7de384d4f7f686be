section
variable {t t' t1 t3 : Th} {x b : Nat} {ca la sa mg mg' : Nat → Nat} {N N' N0 N1 N3 : Mm} {LS FL : Nat → List Nat} {hz dz hz' dz' τ : Nat → Nat} {p i l c k s n a m q d u : Nat}
theorem o_free (h : CR x t N) (p0 p1 : Int) : ∃ code rv t' bb N', t_X5_free t (x : Int) p0 p1 = some (code, rv, t') ∧ (code = 0 ∨ code = 1 ∨ code = 2 ∨ code = 3) ∧ g_X6_free N p0 p1 = some (bb, N') ∧ N' 0 0 = kL_free code ∧ (code = 0 → bb = rv) ∧ CR x t' N' := by
  obtain ⟨b, ca, la, sa, mg, LS, FL, hz, dz, hA, hH⟩ := id h
  obtain ⟨hW, hM, hK, kP, kM, kZ, hT⟩ := id hA
  obtain ⟨hP, hB, hG, hS, hZ, hR⟩ := id hW
  obtain ⟨kH, kB, kC, kV, kN', kI, kS, kL⟩ := id hK
  rcases live_cs hW hK p0 with ⟨p, i, y1, y2, y3, y4, y5, y6, y7, y8⟩ | ⟨y1, y2⟩
  · have hf := nf_st hS y1 y2 (by omega)
    obtain ⟨k1, c1, c2, c3, c4⟩ := sl_c hG kC kI y1
    have hu := (u_rng hP hG y1 y2).2.2.1
    obtain ⟨u1, u2, u3⟩ := u_ad hP hG y1 y2
    have hvc := (hG.2 p y1).2.2.1
    have hc8 := lv8 hP hvc
    have g1 := (hG.2 p y1).1
    subst y3
    have hId : idv ((8 * U N p i : Nat) : Int) 8 = some (U N p i : Int) := by
      have := idn (a := 8 * U N p i) (b := 8) (by decide) (by omega)
      rw [show 8 * U N p i / 8 = U N p i by omega] at this
      exact this
    have hId2 : idv ((8 * U N p i : Nat) : Int) 1024 = some ((8 * U N p i / 1024 : Nat) : Int) := idn (a := 8 * U N p i) (b := 1024) (by decide) (by omega)
    have hCA : ∀ M : Mm, M 2 = N 2 → M 14 = N 14 → g_X6_cacheAt M ((8 * U N p i : Nat) : Int) = some ((wN N p : Int), M) := fun M h2 h14 => by
      unfold g_X6_cacheAt
      rw [hId2, Option.bind_some, q_mg (show 8 * U N p i / 1024 < mlen 2 by show _ < 256; omega), Option.bind_some, h2, u2, q_mg (show p < mlen 14 from y1.1), Option.bind_some, h14, g1]
    have hmo := mo_eq hG kC kI kS y1 y2
    by_cases hq : 0 ≤ p1 ∧ p1 ≤ 3
    · obtain ⟨q, rfl⟩ : ∃ q : Nat, p1 = (q : Int) := ⟨p1.toNat, by omega⟩
      have hq4 : q < 4 := by omega
      have evG : g_X6_free N ((8 * U N p i : Nat) : Int) (q : Int) = if N 20 (U N p i) = N 8 (wN N p) then g_X6_free_j52 N ((8 * U N p i : Nat) : Int) (q : Int) 0 else g_X6_free_j52 N ((8 * U N p i : Nat) : Int) (q : Int) 3 := by
        unfold g_X6_free
        rw [y5, Option.bind_some]
        dsimp only
        rw [if_pos (by decide), in_y hq, Option.bind_some]
        dsimp only
        rw [if_pos (by decide), hId, Option.bind_some, q_mg (show U N p i < mlen 20 from hu), Option.bind_some, hCA N rfl rfl, Option.bind_some]
        dsimp only
        rw [q_mg (show wN N p < mlen 8 from hc8), Option.bind_some]
      have evT : t_X5_free t (x : Int) ((8 * U N p i : Nat) : Int) (q : Int) = if N 20 (U N p i) = N 8 (wN N p) then (Option.bind (t_X1_putIntoMagazines (tset t (ca (wN N p)) (gf 1 10) 0 (wr ((lc N (wN N p) 32768 : Int) - 1))) (ca (wN N p) : Int) (q : Int) ((8 * U N p i : Nat) : Int)) fun r14 => if r14.1 = 0 then (Option.bind (tck r14.2 5 (x : Int)) fun u17 => Option.bind (t_X5_comeBack r14.2 (x : Int) ((8 * U N p i : Nat) : Int)) fun r16 => t_X5_free_j106 r16.2 (ca (wN N p) : Int)) else (Option.bind (tck r14.2 3 (sa p : Int)) fun u19 => Option.bind (t_X3_become r14.2 (sa p : Int) (i : Int) (-3)) fun r18 => t_X5_free_j106 r18.2 (ca (wN N p) : Int))) else some (3, 0, t) := by
        unfold t_X5_free
        rw [q_ck kH.1, Option.bind_some, y6, Option.bind_some]
        dsimp only
        rw [if_neg (by omega), q_ck c1, Option.bind_some, y7, Option.bind_some]
        dsimp only
        rw [if_pos (by decide), rp_y (by omega), Option.bind_some]
        dsimp only
        rw [if_pos rfl, q_gt 0 c1, Option.bind_some, c2, q_ck c1, Option.bind_some, y8, Option.bind_some]
        dsimp only
        rw [q_ck c1, Option.bind_some, hmo, Option.bind_some]
        dsimp only
        rw [q_gt 4 k1.1, Option.bind_some, k1.2.1.2.2.2.2.1, q_gt 10 k1.1, Option.bind_some, kZ _ hvc, q_pt 10 _ k1.1, Option.bind_some, q_ck (show tC (tset t (ca (wN N p)) (gf 1 10) 0 (wr ((lc N (wN N p) 32768 : Int) - 1))) (ca (wN N p)) = 1 + 1 from k1.1), Option.bind_some]
      by_cases hmk : N 20 (U N p i) = N 8 (wN N p)
      · rw [if_pos hmk] at evG evT
        have hcb := lc_le N (wN N p) 32768
        have hA0 := aa_0 hA 0
        have f0 := fe_set t (ca (wN N p)) (gf 1 10) 0 (wr ((lc N (wN N p) 32768 : Int) - 1))
        have hB1 : AB (tset t (ca (wN N p)) (gf 1 10) 0 (wr ((lc N (wN N p) 32768 : Int) - 1))) x b ca la sa mg (mup N 0 0 0) LS FL hz dz := ⟨hA0.1, hA0.2.1, kk_mag (fe_sub f0 (by decide)) (fun _ _ _ => ⟨rfl, rfl⟩) (wr_gl hA0.1.2.2.2.2.2) hA0.2.2.1, kp_fe f0 (by decide) (by decide) (by decide) (by decide) hA0.2.2.1.2.2.1 hA0.2.2.2.1, km_fe f0 (by decide) (by decide) hA0.2.2.2.2.1, f0.2.2 hT⟩
        have V1 : ∀ d, Lv N d → tV (tset t (ca (wN N p)) (gf 1 10) 0 (wr ((lc N (wN N p) 32768 : Int) - 1))) (ca d) (gf 1 10) 0 = (lc N d 32768 : Int) - (if d = wN N p then 1 else 0) := fun d hd => by
          rw [tV_set]
          by_cases e : d = wN N p
          · rw [if_pos ⟨by rw [e], rfl, rfl⟩, if_pos e, wr_eq ⟨by omega, by omega⟩, e]
          · rw [if_neg (fun z => e (ca_inj kC hd hvc z.1)), if_neg e, kZ d hd]; omega
        generalize ht1 : tset t (ca (wN N p)) (gf 1 10) 0 (wr ((lc N (wN N p) 32768 : Int) - 1)) = t1 at evT f0 hB1 V1
        obtain ⟨t2, N2, mg2, hz2, dz2, z1, z2, z3, z4, z5, z6⟩ := fr_pair (addr := ((8 * U N p i : Nat) : Int)) (uu := (U N p i : Int)) hB1 hH (c := wN N p) hvc hq4
        obtain ⟨hW2, hM2, hK2, kP2, kM2, hT2⟩ := id z3
        have hE2 := mo_ep z5
        have eU : U N2 p i = U N p i := ep_u hE2 p i
        have ew : wN N2 p = wN N p := ep_w hE2 p
        have e182 : N2 18 = N 18 := z5 18 (by decide) (by decide) (by decide) (by decide)
        have hp2 : Sl N2 p := by rw [ep_sl hE2]; exact y1
        have hi2 : i < fN N2 (wN N2 p) := by rw [ep_w hE2, ep_f hE2]; exact y2
        have hv2 : Lv N2 (wN N p) := by rw [ep_lv hE2]; exact hvc
        have h182 : N2 18 (U N p i) = 2 := by rw [e182]; exact y4
        have ho := own_u hW2.1 hW2.2.2.1 hp2 hi2
        rw [eU, ew] at ho
        have n0 : N2 0 0 = 0 := by rw [z5 0 (by decide) (by decide) (by decide) (by decide)]; rfl
        have lc2 : ∀ d, lc N2 d 32768 = lc N d 32768 := fun d => lc_congr 32768 (fun u _ => by rw [e182, z5 14 (by decide) (by decide) (by decide) (by decide), z5 2 (by decide) (by decide) (by decide) (by decide)]; exact Iff.rfl)
        have V2 : ∀ d, Lv N2 d → tC t2 (ca d) = 1 + 1 ∧ tV t2 (ca d) (gf 1 10) 0 = (lc N2 d 32768 : Int) - (if d = wN N p then 1 else 0) := fun d hd => by
          refine ⟨(hK2.2.2.1.1 d hd).1, ?_⟩
          rw [ep_lv hE2] at hd
          rw [fe_v z6 (fe_c f0 (kC.1 d hd).1) (by decide), lc2, V1 d hd]
        have kCc := hK2.2.2.1.1 _ hv2
        have r0 := kM2.1 _ (pr_m (hz := hz2) hc8 hv2 (q := q) (e := 0) hq4 (by omega))
        rw [Nat.add_zero] at r0
        obtain ⟨cm1, cm2⟩ := cs_m (q := q) (c := wN N p) (e := 0) hq4 hc8 (by omega)
        rw [Nat.add_zero] at cm1 cm2
        have v0 := z4.1 (2 * (8 * q + wN N p)) (by omega)
        have evT2 : t_X1_putIntoMagazines t1 (ca (wN N p) : Int) (q : Int) ((8 * U N p i : Nat) : Int) = Option.bind (t_X2_put t2 (mg2 (2 * (8 * q + wN N p)) : Int) ((8 * U N p i : Nat) : Int)) fun r30 => rtT r30.1 r30.2 := by
          rw [z1]
          unfold t_X1_putIntoMagazines_j90
          rw [q_rf 13 kCc.1, Option.bind_some, q_al kCc.1 kCc.2.2.1.2.1.1 (by rw [kCc.2.2.1.2.1.2]; exact hq4), Option.bind_some, ((kP2 _ hv2).1 q hq4).1, q_ck r0.1, Option.bind_some]
        have evG2 : g_X6_free N ((8 * U N p i : Nat) : Int) (q : Int) = g_X6_free_j218 N2 (U N p i : Int) (wN N p : Int) ((2 * (8 * q + wN N p) : Nat) : Int) := by
          rw [evG, ← z2]
          unfold g_X6_free_j52
          rw [rf_0, Option.bind_some]
          dsimp only
          rw [if_pos rfl, hId, Option.bind_some, hCA (mup N 0 0 0) rfl rfl, Option.bind_some]
          dsimp only
          rw [wm2 hq4 hc8, wm2' hq4 hc8]
        by_cases hn : hz2 (2 * (8 * q + wN N p)) < 4
        · have hpush := push_AB z3 (s := 2 * (8 * q + wN N p)) (p := p) (i := i) (n := hz2 (2 * (8 * q + wN N p))) cm2 (by rw [cm1, ew]) (by rw [ew]; exact hv2) rfl hn hp2 hi2 (by rw [eU]; exact h182)
          rw [eU] at hpush
          obtain ⟨b1, b2⟩ := hpush
          generalize hnn : hz2 (2 * (8 * q + wN N p)) = n at *
          have fA := fe_trans (fe_trans (fe_set t2 (mg2 (2 * (8 * q + wN N p))) (gf 2 0) n ((8 * U N p i : Nat) : Int)) (fe_set (tset t2 (mg2 (2 * (8 * q + wN N p))) (gf 2 0) n ((8 * U N p i : Nat) : Int)) (mg2 (2 * (8 * q + wN N p))) (gf 2 1) 0 ((n + 1 : Nat) : Int))) (fe_set (tset (tset t2 (mg2 (2 * (8 * q + wN N p))) (gf 2 0) n ((8 * U N p i : Nat) : Int)) (mg2 (2 * (8 * q + wN N p))) (gf 2 1) 0 ((n + 1 : Nat) : Int)) (sa p) (gf 3 9) i (-3))
          have hE3 : Ep N2 (mup (mup (mup N2 24 (4 * (2 * (8 * q + wN N p)) + n) (U N p i : Int)) 23 (2 * (8 * q + wN N p)) ((n + 1 : Nat) : Int)) 18 (U N p i) 3) := ⟨rfl, rfl, rfl, rfl, rfl, rfl, rfl, rfl, rfl, rfl, rfl, rfl⟩
          have e183 : (mup (mup (mup N2 24 (4 * (2 * (8 * q + wN N p)) + n) (U N p i : Int)) 23 (2 * (8 * q + wN N p)) ((n + 1 : Nat) : Int)) 18 (U N p i) 3) 18 = fu (N2 18) (U N p i) 3 := by rw [mup_msA, msA_same]; rfl
          have c1' : tC (tset (tset t2 (mg2 (2 * (8 * q + wN N p))) (gf 2 0) n ((8 * U N p i : Nat) : Int)) (mg2 (2 * (8 * q + wN N p))) (gf 2 1) 0 ((n + 1 : Nat) : Int)) (sa p) = 3 + 1 := (hK2.2.2.2.2.2.1 p hp2).1
          have k0 := b2.2.2.1.2.2.1.1 (wN N p) hv2
          refine ⟨0, (wN N p : Int), _, (wN N p : Int), mup (mup (mup N2 24 (4 * (2 * (8 * q + wN N p)) + n) (U N p i : Int)) 23 (2 * (8 * q + wN N p)) ((n + 1 : Nat) : Int)) 18 (U N p i) 3, ?_, Or.inl rfl, ?_, n0, fun _ => rfl, b, ca, la, sa, mg2, LS, FL, fz hz2 (2 * (8 * q + wN N p)) (n + 1), dz2, aa_of b2 (kz_dn (c := wN N p) (v := 3) (by decide) (fun d hd => ?_) hE3 e183 h182 hu ho), ⟨fun s hs => ?_, fun d hd => ⟨?_, fun e he => ?_⟩⟩⟩
          · rw [evT, evT2, put_y r0.1 r0.2.1 r0.2.2.1 hn, Option.bind_some]
            unfold rtT
            dsimp only
            rw [if_pos (Or.inr rfl), Option.bind_some]
            dsimp only
            rw [if_neg (by decide), q_ck c1', Option.bind_some, b1, Option.bind_some]
            unfold t_X5_free_j106
            dsimp only
            rw [q_gt 0 k0.1, Option.bind_some, k0.2.1.1]
          · rw [evG2]
            unfold g_X6_free_j218 g_X6_free_j276
            have g23 : (mup N2 24 (4 * (2 * (8 * q + wN N p)) + n) (U N p i : Int)) 23 (2 * (8 * q + wN N p)) = (n : Int) := v0
            rw [q_mg (show 2 * (8 * q + wN N p) < mlen 23 by show _ < 64; omega), Option.bind_some, v0, if_neg (by omega), Option.bind_some, w4m (by omega), wa (by omega), q_ms (show 4 * (2 * (8 * q + wN N p)) + n < mlen 24 by show _ < 256; omega), Option.bind_some, q_mg (show 2 * (8 * q + wN N p) < mlen 23 by show _ < 64; omega), Option.bind_some, g23, w1 (by omega), q_ms (show 2 * (8 * q + wN N p) < mlen 23 by show _ < 64; omega), Option.bind_some, q_ms (show U N p i < mlen 18 from hu), Option.bind_some]
          · rw [fe_v fA (V2 d hd).1 (by decide)]; exact (V2 d hd).2
          · show (if 23 = 23 ∧ s = 2 * (8 * q + wN N p) then ((n + 1 : Nat) : Int) else N2 23 s) = _
            by_cases e : s = 2 * (8 * q + wN N p)
            · rw [if_pos ⟨rfl, e⟩, e, fz_same]
            · rw [if_neg (fun z => e z.2), fz_ne e]; exact z4.1 s hs
          · exact (z4.2 d hd).1
          · rw [fz_ne (by omega)]; exact (z4.2 d hd).2 e he
        · obtain ⟨t3, N3, LS3, a1, a2, a3, a4, a5, a6, a7, a8, a9, a10, a11, a12⟩ := come_pair hW2 hK2 hp2 hi2 (nf_st hW2.2.2.2.1 hp2 hi2 (by rw [eU]; omega))
          rw [eU] at a1 a2 a5
          have hne : ∀ s k, s < 88 → k < hz2 s → hv N2 s k ≠ (U N p i : Int) := fun s k hs hk e => by
            obtain ⟨p', i', w1, w2, w3, w4, w5⟩ := (hM2.1 s hs).2 k hk
            rw [w4] at e
            have : U N2 p' i' = U N p i := by omega
            rw [this] at w5
            omega
          have e24 : N3 24 = N2 24 := a6 24 (by decide) (by decide) (by decide) (by decide) (by decide) (by decide)
          have e26 : N3 26 = N2 26 := a6 26 (by decide) (by decide) (by decide) (by decide) (by decide) (by decide)
          have e0 : N3 0 = N2 0 := a6 0 (by decide) (by decide) (by decide) (by decide) (by decide) (by decide)
          have hlv := ep_lv a7
          have kC2 := hK2.2.2.1
          have k0 := a4.2.2.1.1 (wN N p) (by rw [hlv]; exact hv2)
          refine ⟨0, (wN N p : Int), t3, (wN N p : Int), N3, ?_, Or.inl rfl, ?_, by rw [e0, n0]; rfl, fun _ => rfl, b, ca, la, sa, mg2, LS3, _, hz2, dz2, ⟨a3, wm_fu a7 a5 e24 e26 hne hM2, a4, kp_lv hlv (kp_fe a8 (by decide) (by decide) (by decide) (by decide) kC2 kP2), km_lv hlv e24 e26 (km_fe a8 (by decide) (by decide) kM2), kz_dn (c := wN N p) (v := 1) (by decide) (fun d hd => ?_) a7 a5 h182 hu ho, a8.2.2 hT2⟩, ?_⟩
          · rw [evT, evT2, put_n r0.1 r0.2.2.1 hn, Option.bind_some]
            unfold rtT
            dsimp only
            rw [if_pos (Or.inl rfl), Option.bind_some]
            dsimp only
            rw [if_pos rfl, q_ck hK2.1.1, Option.bind_some, a1, Option.bind_some]
            unfold t_X5_free_j106
            dsimp only
            rw [q_gt 0 k0.1, Option.bind_some, k0.2.1.1]
          · rw [evG2]
            unfold g_X6_free_j218 g_X6_free_j276
            rw [q_mg (show 2 * (8 * q + wN N p) < mlen 23 by show _ < 64; omega), Option.bind_some, v0, if_pos (by omega), a2, Option.bind_some]
          · rw [fe_v a8 (V2 d hd).1 (by decide)]; exact (V2 d hd).2
          · unfold HZ
            rw [a6 23 (by decide) (by decide) (by decide) (by decide) (by decide) (by decide), a6 25 (by decide) (by decide) (by decide) (by decide) (by decide) (by decide)]
            exact z4
      · rw [if_neg hmk] at evG evT
        refine ⟨3, 0, t, 0, mup N 0 0 3, evT, Or.inr (Or.inr (Or.inr rfl)), ?_, rfl, fun q => (by omega), cr_0 h 3⟩
        rw [evG]
        unfold g_X6_free_j52
        rw [rf_p _ (by decide), Option.bind_some]
        dsimp only
        rw [if_neg (by decide)]
    · refine ⟨2, 0, t, 0, mup N 0 0 2, ?_, Or.inr (Or.inr (Or.inl rfl)), ?_, rfl, fun q => (by omega), cr_0 h 2⟩
      · unfold t_X5_free
        rw [q_ck kH.1, Option.bind_some, y6, Option.bind_some]
        dsimp only
        rw [if_neg (by omega), q_ck c1, Option.bind_some, y7, Option.bind_some]
        dsimp only
        rw [if_pos (by decide), rp_n (by omega), Option.bind_some]
        dsimp only
        rw [if_neg (by decide)]
      · unfold g_X6_free g_X6_free_j52
        rw [y5, Option.bind_some]
        dsimp only
        rw [if_pos (by decide), in_n hq, Option.bind_some]
        dsimp only
        rw [if_neg (fun z => z rfl), rf_p _ (by decide), Option.bind_some]
        dsimp only
        rw [if_neg (by decide)]
  · refine ⟨1, 0, t, 0, mup N 0 0 1, ?_, Or.inr (Or.inl rfl), ?_, rfl, fun q => (by omega), cr_0 h 1⟩
    · unfold t_X5_free t_X5_free_j18
      rw [q_ck kH.1, Option.bind_some]
      rcases y2 with q | ⟨p, q1, q2, q3⟩
      · rw [q, Option.bind_some]
        dsimp only
        rw [if_pos (by decide)]
      · rw [q2, Option.bind_some]
        dsimp only
        rw [if_neg (by omega), q_ck (kI p q1).1, Option.bind_some, q3, Option.bind_some]
        dsimp only
        rw [if_neg (fun z => z rfl)]
    · unfold g_X6_free g_X6_free_j52
      rw [y1, Option.bind_some]
      dsimp only
      rw [if_neg (fun z => z rfl), rf_p _ (by decide), Option.bind_some]
      dsimp only
      rw [if_neg (by decide)]
end
