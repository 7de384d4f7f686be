section
variable {t t' t1 t3 : Th} {x b : Nat} {ca la sa mg mg' : Nat → Nat} {N N' N0 N1 N3 : Mm} {LS FL : Nat → List Nat} {hz dz hz' dz' τ : Nat → Nat} {p i l c k s n a m q d u : Nat}
theorem put_y {v : Int} (hc : tC t a = 2 + 1) (hI : 0 ≤ tI t a 0 ∧ tL t a 0 = 4) (hn : tV t a (gf 2 1) 0 = (n : Int)) (h : n < 4) : t_X2_put t (a : Int) v = some (1, tset (tset t a (gf 2 0) n v) a (gf 2 1) 0 ((n + 1 : Nat) : Int)) := by
  have hc1 : tC (tset t a (gf 2 0) n v) a = 2 + 1 := hc
  have hn1 : tV (tset t a (gf 2 0) n v) a (gf 2 1) 0 = (n : Int) := by
    rw [tV_set, if_neg (fun z => by have := z.2.1; revert this; decide)]; exact hn
  unfold t_X2_put rtT
  rw [q_ck hc, Option.bind_some, if_y hc hn h, Option.bind_some]
  dsimp only
  rw [if_pos rfl, q_rf 0 hc, Option.bind_some, q_gt 1 hc, Option.bind_some, hn, q_as hc hI.1 (by omega), Option.bind_some, q_gt 1 hc1, Option.bind_some, hn1, w1 (by omega), q_pt 1 _ hc1, Option.bind_some, if_pos (Or.inr rfl)]
theorem put_n {v : Int} (hc : tC t a = 2 + 1) (hn : tV t a (gf 2 1) 0 = (n : Int)) (h : ¬ n < 4) : t_X2_put t (a : Int) v = some (0, t) := by
  unfold t_X2_put rtT
  rw [q_ck hc, Option.bind_some, if_n hc hn h, Option.bind_some]
  dsimp only
  rw [if_neg (by decide), if_pos (Or.inl rfl)]
/-- the magazines make ready for an object to be put -/
theorem fr_pair {addr uu : Int} (hB : AB t x b ca la sa mg N LS FL hz dz) (hH : HZ N hz dz) (hc : Lv N c) (hq : q < 4) : ∃ t' N' mg' hz' dz', t_X1_putIntoMagazines t (ca c : Int) (q : Int) addr = t_X1_putIntoMagazines_j90 t' (ca c : Int) (q : Int) addr ∧ (Option.bind (mgt 23 N ((2 * (8 * q + c) : Nat) : Int)) fun v17 => if v17 ≠ 4 then g_X6_free_j117 N uu (c : Int) ((2 * (8 * q + c) : Nat) : Int) else Option.bind (mgt 23 N ((2 * (8 * q + c) + 1 : Nat) : Int)) fun v19 => if 4 ≤ v19 then g_X6_free_j117 N uu (c : Int) ((2 * (8 * q + c) : Nat) : Int) else Option.bind (g_X6_swap N ((2 * (8 * q + c) : Nat) : Int)) fun r20 => g_X6_free_j117 r20.2 uu (c : Int) ((2 * (8 * q + c) : Nat) : Int)) = g_X6_free_j218 N' uu (c : Int) ((2 * (8 * q + c) : Nat) : Int) ∧ AB t' x b ca la sa mg' N' LS FL hz' dz' ∧ HZ N' hz' dz' ∧ Mo N N' ∧ Fe t t' [gf 1 13, gf 1 14, gf 1 15, gf 1 16, gf 2 0, gf 2 1] := by
  have hc8 := lv8 hB.1.1 hc
  obtain ⟨hW, hM, hK, kP, kM, hT⟩ := id hB
  have kCc := hK.2.2.1.1 c hc
  obtain ⟨p1, p2, p3, p4⟩ := kP c hc
  have r0 := kM.1 _ (pr_m (hz := hz) hc8 hc (q := q) (e := 0) hq (by omega))
  have r1 := kM.1 _ (pr_m (hz := hz) hc8 hc (q := q) (e := 1) hq (by omega))
  rw [Nat.add_zero] at r0
  have l13 : q < tL t (ca c) 13 := by rw [kCc.2.2.1.2.1.2]; exact hq
  have l14 : q < tL t (ca c) 14 := by rw [kCc.2.2.1.2.2.1.2]; exact hq
  have hm : 2 * (8 * q + c) < 63 := by omega
  have v0 := hH.1 (2 * (8 * q + c)) (by omega)
  have v1 := hH.1 (2 * (8 * q + c) + 1) (by omega)
  have b0 := (hM.1 (2 * (8 * q + c)) (by omega)).1
  have b1 := (hM.1 (2 * (8 * q + c) + 1) (by omega)).1
  have z1 := (hH.2 c hc8).1
  rw [q_mg (show 2 * (8 * q + c) < mlen 23 by show _ < 64; omega), Option.bind_some, v0, q_mg (show 2 * (8 * q + c) + 1 < mlen 23 by show _ < 64; omega), Option.bind_some, v1]
  have j117 : ∀ N, N 23 (2 * (8 * q + c)) = ((hz (2 * (8 * q + c)) : Nat) : Int) → N 25 c = (dz c : Int) → g_X6_free_j117 N uu (c : Int) ((2 * (8 * q + c) : Nat) : Int) = if ((hz (2 * (8 * q + c)) : Nat) : Int) ≠ 4 then g_X6_free_j218 N uu (c : Int) ((2 * (8 * q + c) : Nat) : Int) else if 3 ≤ (dz c : Int) then g_X6_free_j218 N uu (c : Int) ((2 * (8 * q + c) : Nat) : Int) else g_X6_free_b142 fuel N uu (c : Int) ((2 * (8 * q + c) : Nat) : Int) 0 := fun N h1 h2 => by
    unfold g_X6_free_j117
    rw [q_mg (show 2 * (8 * q + c) < mlen 23 by show _ < 64; omega), Option.bind_some, h1, q_mg (show c < mlen 25 from hc8), Option.bind_some, h2]
  by_cases e0 : hz (2 * (8 * q + c)) = 4
  · by_cases e1 : hz (2 * (8 * q + c) + 1) = 4
    · by_cases hd : dz c < 3
      · obtain ⟨t', N', mg', hz', dz', y1, y2, y3, y4, y5, y6⟩ := dput_pair (addr := addr) (uu := uu) hB hH hc hq e0 e1 hd
        refine ⟨t', N', mg', hz', dz', y1, ?_, y3, y4, y5, y6⟩
        rw [if_neg (by omega), if_pos (by omega), j117 N v0 z1, if_neg (by omega), if_neg (by omega)]
        exact y2
      · refine ⟨t, N, mg, hz, dz, ?_, ?_, hB, hH, mo_refl N, fe_refl _ _⟩
        · unfold t_X1_putIntoMagazines
          rw [q_rf 13 kCc.1, Option.bind_some, q_al kCc.1 kCc.2.2.1.2.1.1 l13, Option.bind_some, (p1 q hq).1, q_ck r0.1, Option.bind_some, if_n r0.1 r0.2.2.1 (by omega), Option.bind_some]
          dsimp only
          rw [if_neg (by decide), q_rf 14 kCc.1, Option.bind_some, q_al kCc.1 kCc.2.2.1.2.2.1.1 l14, Option.bind_some, (p1 q hq).2, q_ck r1.1, Option.bind_some, if_n r1.1 r1.2.2.1 (by omega), Option.bind_some]
          dsimp only
          rw [if_pos (by decide), q_gt 16 kCc.1, Option.bind_some, p3, if_pos (by omega)]
        · rw [if_neg (by omega), if_pos (by omega), j117 N v0 z1, if_neg (by omega), if_pos (by omega)]
    · obtain ⟨t', N', mg', hz', y1, y2, y3, y4, y5, y6, y7, y8, y9⟩ := swap_pair hB hH hc hq
      refine ⟨t', N', mg', hz', dz, ?_, ?_, y3, y4, y5, y6⟩
      · unfold t_X1_putIntoMagazines
        rw [q_rf 13 kCc.1, Option.bind_some, q_al kCc.1 kCc.2.2.1.2.1.1 l13, Option.bind_some, (p1 q hq).1, q_ck r0.1, Option.bind_some, if_n r0.1 r0.2.2.1 (by omega), Option.bind_some]
        dsimp only
        rw [if_neg (by decide), q_rf 14 kCc.1, Option.bind_some, q_al kCc.1 kCc.2.2.1.2.2.1.1 l14, Option.bind_some, (p1 q hq).2, q_ck r1.1, Option.bind_some, if_y r1.1 r1.2.2.1 (by omega), Option.bind_some]
        dsimp only
        rw [if_neg (fun z => z rfl), q_ck kCc.1, Option.bind_some, y1, Option.bind_some]
      · rw [if_neg (by omega), if_neg (by omega), y2, Option.bind_some]
        dsimp only
        unfold g_X6_free_j117
        rw [q_mg (show 2 * (8 * q + c) < mlen 23 by show _ < 64; omega), Option.bind_some, y4.1 _ (by omega), y7, if_pos (by omega)]
  · refine ⟨t, N, mg, hz, dz, ?_, ?_, hB, hH, mo_refl N, fe_refl _ _⟩
    · unfold t_X1_putIntoMagazines
      rw [q_rf 13 kCc.1, Option.bind_some, q_al kCc.1 kCc.2.2.1.2.1.1 l13, Option.bind_some, (p1 q hq).1, q_ck r0.1, Option.bind_some, if_y r0.1 r0.2.2.1 (by omega), Option.bind_some]
      dsimp only
      rw [if_pos rfl]
    · rw [if_pos (by omega), j117 N v0 z1, if_pos (by omega)]
/-- one live object less -/
theorem kz_dn {v : Int} (hv2 : v ≠ 2) (h1 : ∀ d, Lv N1 d → tV t3 (ca d) (gf 1 10) 0 = (lc N1 d 32768 : Int) - (if d = c then 1 else 0)) (hE : Ep N1 N3) (h18 : N3 18 = fu (N1 18) u v) (h2 : N1 18 u = 2) (hu : u < 32768) (ho : N1 14 (N1 2 (u / 128)).toNat = (c : Int)) : KZ t3 ca N3 := fun d hd => by
  rw [ep_lv hE] at hd
  have hl := lc_fu h18 hE.2.2.2.2.2.2.2.2.2.2.1 hE.1 ho d 32768
  rw [if_neg (show ¬ (u < 32768 ∧ v = 2 ∧ c = d) from fun z => hv2 z.2.1)] at hl
  rw [h1 d hd]
  by_cases e : d = c
  · rw [if_pos ⟨hu, h2, e.symm⟩] at hl
    rw [if_pos e]; omega
  · rw [if_neg (fun z => e z.2.2.symm)] at hl
    rw [if_neg e]; omega
/-- an object that is put into a magazine -/
theorem push_AB (hB : AB t x b ca la sa mg N LS FL hz dz) (hs : s < 64) (hcs : cs s = wN N p) (hlv : Lv N (wN N p)) (hn : hz s = n) (hn4 : n < 4) (hp : Sl N p) (hi : i < fN N (wN N p)) (h2 : N 18 (U N p i) = 2) : t_X3_become (tset (tset t (mg s) (gf 2 0) n ((8 * U N p i : Nat) : Int)) (mg s) (gf 2 1) 0 ((n + 1 : Nat) : Int)) (sa p : Int) (i : Int) (-3) = some (0, tset (tset (tset t (mg s) (gf 2 0) n ((8 * U N p i : Nat) : Int)) (mg s) (gf 2 1) 0 ((n + 1 : Nat) : Int)) (sa p) (gf 3 9) i (-3)) ∧ AB (tset (tset (tset t (mg s) (gf 2 0) n ((8 * U N p i : Nat) : Int)) (mg s) (gf 2 1) 0 ((n + 1 : Nat) : Int)) (sa p) (gf 3 9) i (-3)) x b ca la sa mg (mup (mup (mup N 24 (4 * s + n) (U N p i : Int)) 23 s ((n + 1 : Nat) : Int)) 18 (U N p i) 3) LS FL (fz hz s (n + 1)) dz := by
  obtain ⟨hW, hM, hK, kP, kM, hT⟩ := id hB
  have kC := hK.2.2.1
  have prs : Pr N hz s := ⟨by omega, Or.inl ⟨hs, by rw [hcs]; exact hlv⟩⟩
  have r0 := kM.1 s prs
  have f1 := fe_trans (fe_set t (mg s) (gf 2 0) n ((8 * U N p i : Nat) : Int)) (fe_set (tset t (mg s) (gf 2 0) n ((8 * U N p i : Nat) : Int)) (mg s) (gf 2 1) 0 ((n + 1 : Nat) : Int))
  have V1 : ∀ a j y, tV (tset (tset t (mg s) (gf 2 0) n ((8 * U N p i : Nat) : Int)) (mg s) (gf 2 1) 0 ((n + 1 : Nat) : Int)) a j y = if a = mg s ∧ j = gf 2 1 ∧ y = 0 then ((n + 1 : Nat) : Int) else if a = mg s ∧ j = gf 2 0 ∧ y = n then ((8 * U N p i : Nat) : Int) else tV t a j y := fun _ _ _ => rfl
  have I1 : tI (tset (tset t (mg s) (gf 2 0) n ((8 * U N p i : Nat) : Int)) (mg s) (gf 2 1) 0 ((n + 1 : Nat) : Int)) = tI t := rfl
  have L1 : tL (tset (tset t (mg s) (gf 2 0) n ((8 * U N p i : Nat) : Int)) (mg s) (gf 2 1) 0 ((n + 1 : Nat) : Int)) = tL t := rfl
  have hMo : Mo N (mup (mup N 24 (4 * s + n) (U N p i : Int)) 23 s ((n + 1 : Nat) : Int)) := fun b h1 h2 _ _ => by rw [mup_msA, msA_ne h1, mup_msA, msA_ne h2]
  have g24 : ∀ j, (mup (mup N 24 (4 * s + n) (U N p i : Int)) 23 s ((n + 1 : Nat) : Int)) 24 j = if j = 4 * s + n then (U N p i : Int) else N 24 j := fun j => by
    rw [mup_msA, msA_ne (by decide), mup_msA, msA_same]; rfl
  have g26 : (mup (mup N 24 (4 * s + n) (U N p i : Int)) 23 s ((n + 1 : Nat) : Int)) 26 = N 26 := by rw [mup_msA, msA_ne (by decide), mup_msA, msA_ne (by decide)]
  generalize hNm : mup (mup N 24 (4 * s + n) (U N p i : Int)) 23 s ((n + 1 : Nat) : Int) = Nm at *
  generalize ht1 : tset (tset t (mg s) (gf 2 0) n ((8 * U N p i : Nat) : Int)) (mg s) (gf 2 1) 0 ((n + 1 : Nat) : Int) = t1 at *
  have hE := mo_ep hMo
  have hW1 := mo_w hMo hW
  have hK1 := mo_k hMo (kk_mag (fe_sub f1 (by decide)) (fun a k _ => by rw [I1, L1]; exact ⟨rfl, rfl⟩) (wr_gl hW.2.2.2.2.2) hK)
  have hp1 : Sl Nm p := by rw [ep_sl hE]; exact hp
  have hi1 : i < fN Nm (wN Nm p) := by rw [ep_w hE, ep_f hE]; exact hi
  have hf : i ∉ FL p := nf_st hW.2.2.2.1 hp hi (by omega)
  have eU : U Nm p i = U N p i := ep_u hE p i
  obtain ⟨s1, s2, s3⟩ := state_pair (v := 3) (Or.inr rfl) hW1 hK1 hp1 hi1 hf
  rw [if_neg (by decide)] at s1 s3
  rw [eU] at s2 s3
  have f2 := fe_trans f1 (fe_set t1 (sa p) (gf 3 9) i (-3))
  have hE3 : Ep Nm (mup Nm 18 (U N p i) 3) := ⟨rfl, rfl, rfl, rfl, rfl, rfl, rfl, rfl, rfl, rfl, rfl, rfl⟩
  have e18 : (mup Nm 18 (U N p i) 3) 18 = fu (N 18) (U N p i) 3 := by rw [mup_msA, msA_same, hMo 18 (by decide) (by decide) (by decide) (by decide)]
  have h24' : (mup Nm 18 (U N p i) 3) 24 = Nm 24 := rfl
  have h26' : (mup Nm 18 (U N p i) 3) 26 = N 26 := g26
  generalize hN3 : mup Nm 18 (U N p i) 3 = N3 at *
  have lv3 : ∀ d, Lv N3 d = Lv N d := fun d => by rw [ep_lv hE3, ep_lv hE]
  have w3 : ∀ q, wN N3 q = wN N q := fun q => by rw [ep_w hE3, ep_w hE]
  have u3 : ∀ q j, U N3 q j = U N q j := fun q j => by rw [ep_u hE3, ep_u hE]
  have hhv : ∀ s' k, k < 4 → hv N3 s' k = if s' = s ∧ k = n then (U N p i : Int) else hv N s' k := fun s' k hk => by
    unfold hv
    by_cases e : s' < 64
    · rw [if_pos e, if_pos e, h24', g24]
      by_cases e1 : s' = s ∧ k = n
      · rw [if_pos (by omega), if_pos e1]
      · rw [if_neg (by omega), if_neg e1]
    · rw [if_neg e, if_neg e, h26', if_neg (by omega)]
  have hlt : ∀ s' k, k < fz hz s (n + 1) s' → (s' = s ∧ k = n) ∨ (k < hz s' ∧ ¬ (s' = s ∧ k = n)) := fun s' k h => by
    unfold fz at h
    by_cases e : s' = s
    · rw [if_pos e] at h
      by_cases e1 : k = n
      · exact Or.inl ⟨e, e1⟩
      · exact Or.inr ⟨by rw [e, hn]; omega, fun z => e1 z.2⟩
    · rw [if_neg e] at h
      exact Or.inr ⟨h, fun z => e z.1⟩
  have h4 : ∀ s, s < 88 → hz s ≤ 4 := fun s hs => (hM.1 s hs).1
  have hne : ∀ s' k, s' < 88 → k < hz s' → hv N s' k ≠ (U N p i : Int) := fun s' k h1 h2' e => by
    obtain ⟨q, j, y1, y2, y3, y4, y5⟩ := (hM.1 s' h1).2 k h2'
    rw [y4] at e
    have : U N q j = U N p i := by omega
    rw [this] at y5
    omega
  have hpr : ∀ s', Pr N3 (fz hz s (n + 1)) s' → Pr N hz s' := fun s' h => by
    by_cases e : s' = s
    · rw [e]; exact prs
    · obtain ⟨w1, w2⟩ := h
      rw [fz_ne e, lv3] at w2
      exact ⟨w1, w2⟩
  refine ⟨s1, s2, ⟨fun s' hs' => ⟨?_, fun k hk => ?_⟩, fun a1 a2 k1 k2 h1 h2' h3 h4' h5 => ?_⟩, s3, kp_lv lv3 (kp_fe f2 (by decide) (by decide) (by decide) (by decide) kC kP), ⟨fun s' hs' => ?_, fun a1 a2 h1 h2' e => kM.2 a1 a2 (hpr _ h1) (hpr _ h2') e⟩, f2.2.2 hT⟩
  · unfold fz
    have := h4 s' hs'
    split <;> omega
  · rcases hlt s' k hk with ⟨w1, w2⟩ | ⟨w1, w2⟩
    · refine ⟨p, i, by rw [ep_sl hE3]; exact hp1, by rw [w3, w1, hcs], by rw [ep_w hE3, ep_f hE3]; exact hi1, ?_, by rw [u3, e18, fu_same]⟩
      rw [hhv s' k (by omega), if_pos ⟨w1, w2⟩, u3]
    · obtain ⟨q, j, y1, y2, y3, y4, y5⟩ := (hM.1 s' hs').2 k w1
      have hu : U N q j ≠ U N p i := fun z => by rw [z] at y5; omega
      refine ⟨q, j, by rw [ep_sl hE3, ep_sl hE]; exact y1, by rw [w3]; exact y2, by rw [ep_w hE3, ep_f hE3, ep_w hE, ep_f hE]; exact y3, ?_, by rw [u3, e18, fu_ne hu]; exact y5⟩
      rw [hhv s' k (by have := h4 s' hs'; omega), if_neg w2, u3]; exact y4
  · have b1 : k1 < 4 := by rcases hlt _ _ h3 with w | w; omega; have := h4 a1 h1; omega
    have b2 : k2 < 4 := by rcases hlt _ _ h4' with w | w; omega; have := h4 a2 h2'; omega
    rw [hhv a1 k1 b1, hhv a2 k2 b2] at h5
    rcases hlt _ _ h3 with w | w <;> rcases hlt _ _ h4' with w' | w'
    · omega
    · rw [if_pos w, if_neg w'.2] at h5
      exact absurd h5.symm (hne a2 k2 h2' w'.1)
    · rw [if_neg w.2, if_pos w'] at h5
      exact absurd h5 (hne a1 k1 h1 w.1)
    · rw [if_neg w.2, if_neg w'.2] at h5
      exact hM.2 a1 a2 k1 k2 h1 h2' w.1 w'.1 h5
  · obtain ⟨b1, b2, b3, b4⟩ := kM.1 s' (hpr s' hs')
    have hms : s' ≠ s → mg s' ≠ mg s := fun e z => e (kM.2 s' s (hpr s' hs') prs z)
    have b1' := fe_c f1 b1
    have f3 := fe_set t1 (sa p) (gf 3 9) i (-3)
    refine ⟨fe_c f2 b1, by rw [tI_set, tL_set, I1, L1]; exact b2, ?_, fun k hk => ?_⟩
    · rw [fe_v f3 b1' (by decide), V1]
      by_cases e : s' = s
      · rw [e, if_pos ⟨rfl, rfl, rfl⟩, fz_same]
      · rw [if_neg (fun z => hms e z.1), if_neg (fun z => hms e z.1), fz_ne e]; exact b3
    · have hk4 : k < 4 := by rcases hlt _ _ hk with w | w; omega; have := h4 s' hs'.1; omega
      rw [fe_v f3 b1' (by decide), V1, if_neg (fun z => by have := z.2.1; revert this; decide), hhv s' k hk4]
      rcases hlt _ _ hk with w | w
      · rw [if_pos ⟨by rw [w.1], rfl, w.2⟩, if_pos w]; omega
      · rw [if_neg w.2, if_neg (fun z => w.2 ⟨kM.2 s' s (hpr s' hs') prs z.1, z.2.2⟩)]
        exact b4 k w.1
end
