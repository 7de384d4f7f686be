section
variable {t t' t1 t3 : Th} {x b : Nat} {ca la sa mg mg' : Nat → Nat} {N N' N0 N1 N3 : Mm} {LS FL : Nat → List Nat} {hz dz hz' dz' τ : Nat → Nat} {p i l c k s n a m q d u : Nat}
theorem tset_id {j : Nat} {v : Int} (h : tV t a j i = v) : tset t a j i v = t := by
  rw [set_tvA, show fu (tV t a j) i v = tV t a j by
    funext y
    unfold fu
    by_cases e : y = i
    · rw [if_pos e, e, h]
    · rw [if_neg e], tvA_id]
/-- the magazines make ready for an object to be taken -/
theorem ma_pair (hN0 : mup N0 0 0 0 = N) (hB : AB t x b ca la sa mg N LS FL hz dz) (hH : HZ N hz dz) (hc : Lv N c) (hq : q < 4) : ∃ t' N' mg' hz' dz', t_X1_takeFromMagazines t (ca c : Int) (q : Int) = t_X1_takeFromMagazines_j69 t' (ca c : Int) (q : Int) ∧ g_X6_allocate_j27 N0 (c : Int) (q : Int) 0 = g_X6_allocate_j151 N' (c : Int) ((2 * (8 * q + c) : Nat) : Int) ∧ AB t' x b ca la sa mg' N' LS FL hz' dz' ∧ HZ N' hz' dz' ∧ Mo N N' ∧ Fe t t' [gf 1 13, gf 1 14, gf 1 15, gf 1 16, gf 2 0, gf 2 1] := by
  have hc8 := lv8 hB.1.1 hc
  obtain ⟨hW, hM, hK, kP, kM, hT⟩ := id hB
  have kCc := hK.2.2.1.1 c hc
  obtain ⟨p1, p2, p3, p4⟩ := kP c hc
  have r0 := kM.1 _ (pr_m (hz := hz) hc8 hc (q := q) (e := 0) hq (by omega))
  have r1 := kM.1 _ (pr_m (hz := hz) hc8 hc (q := q) (e := 1) hq (by omega))
  rw [Nat.add_zero] at r0
  have l13 : q < tL t (ca c) 13 := by rw [kCc.2.2.1.2.1.2]; exact hq
  have l14 : q < tL t (ca c) 14 := by rw [kCc.2.2.1.2.2.1.2]; exact hq
  have hm : 2 * (8 * q + c) < 63 := by omega
  have v0 := hH.1 (2 * (8 * q + c)) (by omega)
  have v1 := hH.1 (2 * (8 * q + c) + 1) (by omega)
  have evG : g_X6_allocate_j27 N0 (c : Int) (q : Int) 0 = if ((hz (2 * (8 * q + c)) : Nat) : Int) ≠ 0 then g_X6_allocate_j69 N (c : Int) ((2 * (8 * q + c) : Nat) : Int) else if ((hz (2 * (8 * q + c) + 1) : Nat) : Int) ≤ 0 then g_X6_allocate_j69 N (c : Int) ((2 * (8 * q + c) : Nat) : Int) else Option.bind (g_X6_swap N ((2 * (8 * q + c) : Nat) : Int)) fun r10 => g_X6_allocate_j69 r10.2 (c : Int) ((2 * (8 * q + c) : Nat) : Int) := by
    unfold g_X6_allocate_j27
    rw [rf_0, hN0, Option.bind_some]
    dsimp only
    rw [if_pos rfl, wm2 hq hc8, wm2' hq hc8, q_mg (show 2 * (8 * q + c) < mlen 23 by show _ < 64; omega), Option.bind_some, v0, q_mg (show 2 * (8 * q + c) + 1 < mlen 23 by show _ < 64; omega), Option.bind_some, v1]
  have evT : t_X1_takeFromMagazines t (ca c : Int) (q : Int) = if ((hz (2 * (8 * q + c)) : Nat) : Int) ≠ 0 then t_X1_takeFromMagazines_j32 t (ca c : Int) (q : Int) else if ((hz (2 * (8 * q + c) + 1) : Nat) : Int) ≤ 0 then t_X1_takeFromMagazines_j32 t (ca c : Int) (q : Int) else Option.bind (t_X1_changePlaces t (ca c : Int) (q : Int)) fun r7 => t_X1_takeFromMagazines_j69 r7.2 (ca c : Int) (q : Int) := by
    unfold t_X1_takeFromMagazines
    rw [q_rf 13 kCc.1, Option.bind_some, q_al kCc.1 kCc.2.2.1.2.1.1 l13, Option.bind_some, (p1 q hq).1, q_gt 1 r0.1, Option.bind_some, r0.2.2.1, q_rf 14 kCc.1, Option.bind_some, q_al kCc.1 kCc.2.2.1.2.2.1.1 l14, Option.bind_some, (p1 q hq).2, q_gt 1 r1.1, Option.bind_some, r1.2.2.1, q_ck kCc.1, Option.bind_some]
  have evT2 : t_X1_takeFromMagazines_j32 t (ca c : Int) (q : Int) = if ((hz (2 * (8 * q + c)) : Nat) : Int) ≠ 0 then t_X1_takeFromMagazines_j69 t (ca c : Int) (q : Int) else Option.bind (t_X1_takeFromDepot t (ca c : Int)) fun r12 => Option.bind (trf r12.2 1 13 (ca c : Int)) fun v14 => if 0 ≤ r12.1 then t_X1_takeFromMagazines_j68 r12.2 (ca c : Int) (q : Int) v14 (q : Int) r12.1 (ca c : Int) else Option.bind (trf r12.2 1 13 (ca c : Int)) fun v15 => Option.bind (tal r12.2 1 13 (ca c : Int) v15 (q : Int)) fun v16 => t_X1_takeFromMagazines_j68 r12.2 (ca c : Int) (q : Int) v14 (q : Int) v16 (ca c : Int) := by
    unfold t_X1_takeFromMagazines_j32
    rw [q_rf 13 kCc.1, Option.bind_some, q_al kCc.1 kCc.2.2.1.2.1.1 l13, Option.bind_some, (p1 q hq).1, q_gt 1 r0.1, Option.bind_some, r0.2.2.1, q_ck kCc.1, Option.bind_some]
  by_cases e0 : hz (2 * (8 * q + c)) = 0
  · by_cases e1 : hz (2 * (8 * q + c) + 1) = 0
    · cases hd : dz c with
      | zero =>
        rw [hd] at p3
        refine ⟨t, N, mg, hz, dz, ?_, ?_, hB, hH, mo_refl N, fe_refl _ _⟩
        · rw [evT, if_neg (by omega), if_pos (by omega), evT2, if_neg (by omega), td_no kCc.1 p3, Option.bind_some]
          dsimp only
          rw [q_rf 13 kCc.1, Option.bind_some, if_neg (by decide), Option.bind_some, q_al kCc.1 kCc.2.2.1.2.1.1 l13, Option.bind_some]
          unfold t_X1_takeFromMagazines_j68
          rw [(p1 q hq).1, q_rs (x := (mg (2 * (8 * q + c)) : Int)) kCc.1 kCc.2.2.1.2.1.1 l13 (Or.inr r0.1), Option.bind_some, tset_id (p1 q hq).1]
        · rw [evG, if_neg (by omega), if_pos (by omega)]
          unfold g_X6_allocate_j69
          rw [q_mg (show 2 * (8 * q + c) < mlen 23 by show _ < 64; omega), Option.bind_some, v0, if_neg (by omega), q_mg (show c < mlen 25 from hc8), Option.bind_some, (hH.2 c hc8).1, hd, if_pos (by decide)]
      | succ n =>
        obtain ⟨t', N', mg', hz', dz', y1, y2, y3, y4, y5, y6⟩ := depot_pair hB hH hc hq e0 hd
        exact ⟨t', N', mg', hz', dz', by rw [evT, if_neg (by omega), if_pos (by omega), y1], by rw [evG, if_neg (by omega), if_pos (by omega), y2], y3, y4, y5, y6⟩
    · obtain ⟨t', N', mg', hz', y1, y2, y3, y4, y5, y6, y7, y8, y9⟩ := swap_pair hB hH hc hq
      refine ⟨t', N', mg', hz', dz, ?_, ?_, y3, y4, y5, y6⟩
      · rw [evT, if_neg (by omega), if_neg (by omega), y1, Option.bind_some]
      · rw [evG, if_neg (by omega), if_neg (by omega), y2, Option.bind_some]
        dsimp only
        unfold g_X6_allocate_j69
        rw [q_mg (show 2 * (8 * q + c) < mlen 23 by show _ < 64; omega), Option.bind_some, y4.1 _ (by omega), y7, if_pos (by omega)]
  · refine ⟨t, N, mg, hz, dz, ?_, ?_, hB, hH, mo_refl N, fe_refl _ _⟩
    · rw [evT, if_pos (by omega), evT2, if_pos (by omega)]
    · rw [evG, if_pos (by omega)]
      unfold g_X6_allocate_j69
      rw [q_mg (show 2 * (8 * q + c) < mlen 23 by show _ < 64; omega), Option.bind_some, v0, if_pos (by omega)]
/-- the count of live objects as one object's state changes -/
theorem lc_fu {v : Int} (h18 : N' 18 = fu (N 18) u v) (h14 : N' 14 = N 14) (h2 : N' 2 = N 2) (ho : N 14 (N 2 (u / 128)).toNat = (c : Int)) (d : Nat) : ∀ n, lc N' d n + (if u < n ∧ N 18 u = 2 ∧ c = d then 1 else 0) = lc N d n + (if u < n ∧ v = 2 ∧ c = d then 1 else 0) := by
  intro n
  induction n with
  | zero => rw [if_neg (by omega), if_neg (by omega)]; rfl
  | succ n ih =>
    unfold lc
    rw [h18, h14, h2]
    by_cases e : u = n
    · rw [if_neg (by omega), if_neg (by omega)] at ih
      subst e
      rw [fu_same, ho]
      by_cases e1 : c = d
      · by_cases e2 : v = 2 <;> by_cases e3 : N 18 u = 2
        · rw [if_pos ⟨e2, by omega⟩, if_pos ⟨by omega, e3, e1⟩, if_pos ⟨e3, by omega⟩, if_pos ⟨by omega, e2, e1⟩]; omega
        · rw [if_pos ⟨e2, by omega⟩, if_neg (fun z => e3 z.2.1), if_neg (fun z => e3 z.1), if_pos ⟨by omega, e2, e1⟩]; omega
        · rw [if_neg (fun z => e2 z.1), if_pos ⟨by omega, e3, e1⟩, if_pos ⟨e3, by omega⟩, if_neg (fun z => e2 z.2.1)]; omega
        · rw [if_neg (fun z => e2 z.1), if_neg (fun z => e3 z.2.1), if_neg (fun z => e3 z.1), if_neg (fun z => e2 z.2.1)]; omega
      · rw [if_neg (fun z => e1 (by omega)), if_neg (fun z => e1 z.2.2), if_neg (fun z => e1 (by omega)), if_neg (fun z => e1 z.2.2)]; omega
    · rw [fu_ne (Ne.symm e)]
      have e1 : (if u < n + 1 ∧ N 18 u = 2 ∧ c = d then 1 else 0) = (if u < n ∧ N 18 u = 2 ∧ c = d then 1 else 0) := by
        by_cases z : u < n ∧ N 18 u = 2 ∧ c = d
        · rw [if_pos z, if_pos ⟨by omega, z.2⟩]
        · rw [if_neg z, if_neg (fun w => z ⟨by omega, w.2⟩)]
      have e2 : (if u < n + 1 ∧ v = 2 ∧ c = d then 1 else 0) = (if u < n ∧ v = 2 ∧ c = d then 1 else 0) := by
        by_cases z : u < n ∧ v = 2 ∧ c = d
        · rw [if_pos z, if_pos ⟨by omega, z.2⟩]
        · rw [if_neg z, if_neg (fun w => z ⟨by omega, w.2⟩)]
      rw [e1, e2]
      omega
theorem lc_le (N : Mm) (d : Nat) : ∀ n, lc N d n ≤ n := by
  intro n
  induction n with
  | zero => exact Nat.le_refl _
  | succ n ih =>
    unfold lc
    split <;> omega
/-- an object that is in no magazine changes its state -/
theorem wm_fu {v : Int} (hE : Ep N1 N3) (h18 : N3 18 = fu (N1 18) u v) (h24 : N3 24 = N1 24) (h26 : N3 26 = N1 26) (hne : ∀ s k, s < 88 → k < hz s → hv N1 s k ≠ (u : Int)) (hM : WM N1 hz) : WM N3 hz := by
  have ehv : ∀ s k, hv N3 s k = hv N1 s k := fun s k => by unfold hv; rw [h24, h26]
  refine ⟨fun s hs => ⟨(hM.1 s hs).1, fun k hk => ?_⟩, fun s s' k k' h1 h2 h3 h4 h5 => ?_⟩
  · obtain ⟨p, i, y1, y2, y3, y4, y5⟩ := (hM.1 s hs).2 k hk
    have : U N1 p i ≠ u := fun z => hne s k hs hk (by rw [y4, z])
    exact ⟨p, i, by rw [ep_sl hE]; exact y1, by rw [ep_w hE]; exact y2, by rw [ep_w hE, ep_f hE]; exact y3, by rw [ehv, ep_u hE]; exact y4, by rw [ep_u hE, h18, fu_ne this]; exact y5⟩
  · rw [ehv, ehv] at h5
    exact hM.2 s s' k k' h1 h2 h3 h4 h5
theorem alive {js : List Nat} (hW : WW N3 LS FL) (hM : WM N1 hz) (hK : KK t3 x b ca la sa N3 LS FL) (kC : KC t1 ca la N1) (kP : KP t1 ca mg dz N1) (kM : KM t1 mg hz N1) (kZ : KZ t1 ca N1) (hT : ∀ a, tC t1 a ≠ 0 → a < tN t1) (hF : Fe t1 t3 js) (hj : ∀ j, j ∈ mgF → j ∉ js) (hE : Ep N1 N3) (h18 : N3 18 = fu (N1 18) u 2) (h24 : N3 24 = N1 24) (h26 : N3 26 = N1 26) (hne : ∀ s k, s < 88 → k < hz s → hv N1 s k ≠ (u : Int)) (h2 : N1 18 u ≠ 2) (hu : u < 32768) (ho : N1 14 (N1 2 (u / 128)).toNat = (c : Int)) (hc : Lv N1 c) : tgt t3 1 10 (ca c : Int) = some (lc N1 c 32768 : Int) ∧ tC t3 (ca c) = 1 + 1 ∧ AA (tset t3 (ca c) (gf 1 10) 0 (wr ((lc N1 c 32768 : Int) + 1))) x b ca la sa mg N3 LS FL hz dz := by
  have c1 := (kC.1 c hc).1
  have c3 := fe_c hF c1
  have f4 := fe_set t3 (ca c) (gf 1 10) 0 (wr ((lc N1 c 32768 : Int) + 1))
  have hlv := ep_lv hE
  have kC3 := hK.2.2.1
  refine ⟨?_, c3, hW, wm_fu hE h18 h24 h26 hne hM, kk_mag (fe_sub f4 (by decide)) (fun _ _ _ => ⟨rfl, rfl⟩) (wr_gl hW.2.2.2.2.2) hK, kp_fe f4 (by decide) (by decide) (by decide) (by decide) kC3 (kp_lv hlv (kp_fe hF (hj _ (by decide)) (hj _ (by decide)) (hj _ (by decide)) (hj _ (by decide)) kC kP)), km_fe f4 (by decide) (by decide) (km_lv hlv h24 h26 (km_fe hF (hj _ (by decide)) (hj _ (by decide)) kM)), fun d hd => ?_, f4.2.2 (hF.2.2 hT)⟩
  · rw [q_gt 10 c3, fe_v hF c1 (hj _ (by decide)), kZ c hc]
  · rw [hlv] at hd
    have hl := lc_fu h18 hE.2.2.2.2.2.2.2.2.2.2.1 hE.1 ho d 32768
    have hb := lc_le N1 d 32768
    rw [if_neg (fun z => h2 z.2.1)] at hl
    rw [tV_set]
    by_cases e : d = c
    · rw [if_pos ⟨by rw [e], rfl, rfl⟩]
      rw [if_pos ⟨hu, rfl, e.symm⟩] at hl
      rw [e] at hl hb ⊢
      rw [wr_eq ⟨by omega, by omega⟩]
      omega
    · rw [if_neg (fun z => e (ca_inj kC hd hc z.1)), fe_v hF (kC.1 d hd).1 (hj _ (by decide)), kZ d hd]
      rw [if_neg (fun z => e z.2.2.symm)] at hl
      omega
theorem pop_AB (hB : AB t x b ca la sa mg N LS FL hz dz) (hs : s < 64) (hn : hz s = n + 1) : AB (tset t (mg s) (gf 2 1) 0 (n : Int)) x b ca la sa mg (mup N 23 s (n : Int)) LS FL (fz hz s n) dz := by
  obtain ⟨hW, hM, hK, kP, kM, hT⟩ := id hB
  have hMo : Mo N (mup N 23 s (n : Int)) := fun b h1 _ _ _ => by rw [mup_msA, msA_ne h1]
  have hlv := ep_lv (mo_ep hMo)
  have f1 := fe_set t (mg s) (gf 2 1) 0 (n : Int)
  have hprs : Pr N hz s := ⟨by omega, Or.inr (by omega)⟩
  have hle : ∀ s', fz hz s n s' ≤ hz s' := fun s' => by
    unfold fz
    by_cases e : s' = s
    · rw [if_pos e, e]; omega
    · rw [if_neg e]; exact Nat.le_refl _
  have hpr : ∀ s', Pr (mup N 23 s (n : Int)) (fz hz s n) s' → Pr N hz s' := fun s' h => ⟨h.1, h.2.elim (fun z => Or.inl ⟨z.1, by rw [← hlv]; exact z.2⟩) (fun z => Or.inr (Nat.lt_of_lt_of_le z (hle s')))⟩
  refine ab_mag hB hMo (fe_sub f1 (by decide)) (fun _ _ _ => ⟨rfl, rfl⟩) (wm_mv (τ := fun s => s) hMo hM (fun s' hs' _ => ⟨hs', rfl, hle s', fun _ _ => rfl⟩) (fun _ _ _ _ _ _ e => e)) (kp_lv hlv (kp_fe f1 (by decide) (by decide) (by decide) (by decide) hK.2.2.1 kP)) ⟨fun s' hs' => ?_, fun s1 s2 h1 h2 e => kM.2 s1 s2 (hpr _ h1) (hpr _ h2) e⟩
  obtain ⟨a1, a2, a3, a4⟩ := kM.1 s' (hpr s' hs')
  refine ⟨a1, a2, ?_, fun k hk => ?_⟩
  · rw [tV_set]
    by_cases e : s' = s
    · rw [e, if_pos ⟨rfl, rfl, rfl⟩, fz_same]
    · rw [if_neg (fun z => e (kM.2 s' s (hpr s' hs') hprs z.1)), fz_ne e]; exact a3
  · rw [fe_v f1 a1 (by decide)]
    exact a4 k (Nat.lt_of_lt_of_le hk (hle s'))
theorem aa_miss {v : Int} (hA : AA t x b ca la sa mg N LS FL hz dz) (hc : Lv N c) : AA (tset t (ca c) (gf 1 11) 0 v) x b ca la sa mg (mup N 13 c v) LS FL hz dz := by
  obtain ⟨⟨hP, hB, hG, hS, hZ, hR⟩, hM, ⟨kH, kB, kC, kV, kN', kI, kS, kL⟩, kP, kM, kZ, hT⟩ := hA
  have hE : Ep N (mup N 13 c v) := ⟨rfl, rfl, rfl, rfl, rfl, rfl, rfl, rfl, rfl, rfl, rfl, rfl⟩
  have f1 := fe_set t (ca c) (gf 1 11) 0 v
  have hlv := ep_lv hE
  have hP' : WP (mup N 13 c v) := by
    refine ⟨hP.1, hP.2.1, fun d hd => ?_⟩
    obtain ⟨z1, z2, z3⟩ := hP.2.2 d hd
    refine ⟨z1, z2, ?_⟩
    show (if 13 = 13 ∧ d = c then v else N 13 d) = 0
    rw [if_neg (fun z => by have := hc.1; have : N 3 0 ≤ (d : Int) := hd; omega)]
    exact z3
  refine ⟨⟨hP', hB, ep_g hE hG, fun p hp => ?_, hZ, hR⟩, hM, ⟨kh_ep hE (kh_fe f1 (by decide) (by decide) (by decide) (by decide) kH), kb_ep hE rfl (kb_fe f1 (by decide) (by decide) kB), kc_ep hE (kc_same f1 (kcj _ (by decide)) rfl rfl kC), fun d hd => ?_, kn_ep hE (kn_fe f1 (by decide) kC kN'), ki_ep hE (ki_fe f1 (by decide) (by decide) (by decide) kI), ks_fe f1 (by decide) (by decide) (by decide) (by decide) (by decide) kI kS, kl_ep hE (kl_fe f1 (by decide) (by decide) (by decide) (by decide) kC kI (lsm (wr_gl hR)) kL)⟩, kp_fe f1 (by decide) (by decide) (by decide) (by decide) kC kP, km_fe f1 (by decide) (by decide) kM, fun d hd => ?_, hT⟩
  · obtain ⟨a1, a2, a3, a4, a5, a6⟩ := hS p hp
    exact ⟨a1, a2, a3, a4, ch_congr hE _ (fun _ _ => rfl) a5, a6⟩
  · obtain ⟨z1, z2⟩ := kV d hd
    refine ⟨by rw [fe_v f1 (kC.1 d hd).1 (by decide)]; exact z1, ?_⟩
    show tV (tset t (ca c) (gf 1 11) 0 v) (ca d) (gf 1 11) 0 = (if 13 = 13 ∧ d = c then v else N 13 d)
    rw [tV_set]
    by_cases e : d = c
    · rw [if_pos ⟨by rw [e], rfl, rfl⟩, if_pos ⟨rfl, e⟩]
    · rw [if_neg (fun z => e (ca_inj kC hd hc z.1)), if_neg (fun z => e z.2)]; exact z2
  · rw [kz_fe f1 (by decide) kC kZ d hd, show lc (mup N 13 c v) d 32768 = lc N d 32768 from lc_congr 32768 (fun _ _ => Iff.rfl)]
end
