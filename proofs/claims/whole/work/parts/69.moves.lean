/-! both sides: magazines change places -/
def AB (t : Th) (x b : Nat) (ca la sa mg : Nat → Nat) (N : Mm) (LS FL : Nat → List Nat) (hz dz : Nat → Nat) : Prop := WW N LS FL ∧ WM N hz ∧ KK t x b ca la sa N LS FL ∧ KP t ca mg dz N ∧ KM t mg hz N ∧ ∀ a, tC t a ≠ 0 → a < tN t
section
variable {t t' : Th} {x b : Nat} {ca la sa mg mg' : Nat → Nat} {N N' : Mm} {LS FL : Nat → List Nat} {hz dz hz' dz' τ : Nat → Nat} {p i l c k s n a m q : Nat}
theorem ab_of (h : AA t x b ca la sa mg N LS FL hz dz) : AB t x b ca la sa mg N LS FL hz dz := ⟨h.1, h.2.1, h.2.2.1, h.2.2.2.1, h.2.2.2.2.1, h.2.2.2.2.2.2⟩
theorem aa_of (h : AB t x b ca la sa mg N LS FL hz dz) (kZ : KZ t ca N) : AA t x b ca la sa mg N LS FL hz dz := ⟨h.1, h.2.1, h.2.2.1, h.2.2.2.1, h.2.2.2.2.1, kZ, h.2.2.2.2.2⟩
/-- only the magazines' rows change -/
def Mo (N N' : Mm) : Prop := ∀ b, b ≠ 23 → b ≠ 24 → b ≠ 25 → b ≠ 26 → N' b = N b
theorem mo_refl (N : Mm) : Mo N N := fun _ _ _ _ _ => rfl
theorem mo_ep (h : Mo N N') : Ep N N' := by
  refine ⟨?_, ?_, ?_, ?_, ?_, ?_, ?_, ?_, ?_, ?_, ?_, ?_⟩ <;> exact h _ (by decide) (by decide) (by decide) (by decide)
theorem mo_form (h : Mo N N') : N' = msA (msA (msA (msA N 23 (N' 23)) 24 (N' 24)) 25 (N' 25)) 26 (N' 26) := by
  funext b j
  simp only [msA_ap]
  by_cases e1 : b = 26
  · rw [if_pos e1, e1]
  · by_cases e2 : b = 25
    · rw [if_neg e1, if_pos e2, e2]
    · by_cases e3 : b = 24
      · rw [if_neg e1, if_neg e2, if_pos e3, e3]
      · by_cases e4 : b = 23
        · rw [if_neg e1, if_neg e2, if_neg e3, if_pos e4, e4]
        · rw [if_neg e1, if_neg e2, if_neg e3, if_neg e4, h b e4 e3 e2 e1]
theorem mo_w (h : Mo N N') (hW : WW N LS FL) : WW N' LS FL := by
  have hE := mo_ep h
  obtain ⟨hP, hB, hG, hS, hZ, hR⟩ := hW
  have e16 : N' 16 = N 16 := h 16 (by decide) (by decide) (by decide) (by decide)
  have e17 : N' 17 = N 17 := h 17 (by decide) (by decide) (by decide) (by decide)
  have e18 : N' 18 = N 18 := h 18 (by decide) (by decide) (by decide) (by decide)
  have e19 : N' 19 = N 19 := h 19 (by decide) (by decide) (by decide) (by decide)
  have e21 : N' 21 = N 21 := h 21 (by decide) (by decide) (by decide) (by decide)
  have e22 : N' 22 = N 22 := h 22 (by decide) (by decide) (by decide) (by decide)
  have e1 : N' 1 = N 1 := h 1 (by decide) (by decide) (by decide) (by decide)
  refine ⟨ep_p hE (h 12 (by decide) (by decide) (by decide) (by decide)) (h 13 (by decide) (by decide) (by decide) (by decide)) hP, ?_, ep_g hE hG, fun p hp => ?_, ep_z hE e18 hZ, ?_, fun l hl => ?_⟩
  · unfold WB; rw [e1, hE.1]; exact hB
  · rw [ep_sl hE] at hp
    obtain ⟨a1, a2, a3, a4, a5, a6⟩ := hS p hp
    unfold WSp
    rw [ep_w hE, ep_f hE, ep_ul hE, e16, e17, e18]
    refine ⟨a1, a2, a3, a4, ch_congr hE _ (fun _ _ => by rw [e19]) a5, fun i hi => ?_⟩
    rw [ep_u hE]; exact a6 i hi
  · unfold WL; rw [e21, e22]; exact hR.1
  · refine ⟨(hR.2 l hl).1, fun p => ?_⟩
    rw [ep_sl hE, ep_w hE, show wh N' p = wh N p by unfold wh; rw [e16, ep_w hE, hE.2.2.2.2.2.2.2.2.1]]
    exact (hR.2 l hl).2 p
theorem mo_k (h : Mo N N') (hK : KK t x b ca la sa N LS FL) : KK t x b ca la sa N' LS FL := by
  have hE := mo_ep h
  obtain ⟨kH, kB, kC, kV, kN', kI, kS, kL⟩ := hK
  refine ⟨kh_ep hE kH, kb_ep hE (h 1 (by decide) (by decide) (by decide) (by decide)) kB, kc_ep hE kC, kv_ep hE (h 12 (by decide) (by decide) (by decide) (by decide)) (h 13 (by decide) (by decide) (by decide) (by decide)) kV, kn_ep hE kN', ki_ep hE kI, fun p hp => ?_, kl_ep hE kL⟩
  rw [ep_sl hE] at hp
  refine ksp_congr (kS p hp) (fun _ _ => rfl) (fun _ => rfl) (fun _ => rfl) (by rw [h 16 (by decide) (by decide) (by decide) (by decide)]) rfl (ep_w hE p) (ep_f hE _) (fun j => ep_u hE p j) (by rw [hE.2.2.2.2.2.2.1]) (fun j _ => by rw [h 18 (by decide) (by decide) (by decide) (by decide)]) (fun j _ => by rw [h 20 (by decide) (by decide) (by decide) (by decide)])
theorem ab_mag (h : AB t x b ca la sa mg N LS FL hz dz) (hN : Mo N N') (hF : Fe t t' mgF) (hi : ∀ a k, tC t a = 1 + 1 → tI t' a k = tI t a k ∧ tL t' a k = tL t a k) (hM' : WM N' hz') (kP' : KP t' ca mg' dz' N') (kM' : KM t' mg' hz' N') : AB t' x b ca la sa mg' N' LS FL hz' dz' :=
  ⟨mo_w hN h.1, hM', mo_k hN (kk_mag hF hi (wr_gl h.1.2.2.2.2.2) h.2.2.1), kP', kM', hF.2.2 h.2.2.2.2.2⟩
theorem kz_mag (hN : Mo N N') (hF : Fe t t' [gf 1 13, gf 1 14, gf 1 15, gf 1 16, gf 2 0, gf 2 1]) (kC : KC t ca la N) (h : KZ t ca N) : KZ t' ca N' := fun d hd => by
  rw [ep_lv (mo_ep hN)] at hd
  rw [kz_fe hF (by decide) kC h d hd]
  suffices q : lc N' d 32768 = lc N d 32768 by rw [q]
  refine lc_congr 32768 (fun u _ => ?_)
  rw [hN 18 (by decide) (by decide) (by decide) (by decide), hN 14 (by decide) (by decide) (by decide) (by decide), hN 2 (by decide) (by decide) (by decide) (by decide)]
/-- the rows s of the new magazines are the old ones at τ s -/
theorem wm_mv (hN : Mo N N') (hM : WM N hz) (hτ : ∀ s, s < 88 → 0 < hz' s → τ s < 88 ∧ cs (τ s) = cs s ∧ hz' s ≤ hz (τ s) ∧ ∀ k, k < hz' s → hv N' s k = hv N (τ s) k) (hi : ∀ s s', s < 88 → s' < 88 → 0 < hz' s → 0 < hz' s' → τ s = τ s' → s = s') : WM N' hz' := by
  have hE := mo_ep hN
  refine ⟨fun s hs => ⟨?_, fun k hk => ?_⟩, fun s s' k k' h1 h2 h3 h4 h5 => ?_⟩
  · rcases Nat.eq_zero_or_pos (hz' s) with e | e
    · omega
    · obtain ⟨z1, z2, z3, z4⟩ := hτ s hs e
      have := (hM.1 _ z1).1
      omega
  · obtain ⟨z1, z2, z3, z4⟩ := hτ s hs (by omega)
    obtain ⟨p, i, y1, y2, y3, y4, y5⟩ := (hM.1 _ z1).2 k (by omega)
    exact ⟨p, i, by rw [ep_sl hE]; exact y1, by rw [ep_w hE, ← z2]; exact y2, by rw [ep_w hE, ep_f hE]; exact y3, by rw [z4 k hk, ep_u hE]; exact y4, by rw [ep_u hE, hN 18 (by decide) (by decide) (by decide) (by decide)]; exact y5⟩
  · obtain ⟨z1, z2, z3, z4⟩ := hτ s h1 (by omega)
    obtain ⟨w1, w2, w3, w4⟩ := hτ s' h2 (by omega)
    rw [z4 k h3, w4 k' h4] at h5
    obtain ⟨e1, e2⟩ := hM.2 _ _ k k' z1 w1 (by omega) (by omega) h5
    exact ⟨hi s s' h1 h2 (by omega) (by omega) e1, e2⟩
theorem km_mv {js : List Nat} (hF : Fe t t' js) (h0 : gf 2 0 ∉ js) (h1 : gf 2 1 ∉ js) (kM : KM t mg hz N) (hτ : ∀ s, Pr N' hz' s → Pr N hz (τ s) ∧ mg' s = mg (τ s) ∧ hz' s = hz (τ s) ∧ ∀ k, k < hz' s → hv N' s k = hv N (τ s) k) (hi : ∀ s s', Pr N' hz' s → Pr N' hz' s' → τ s = τ s' → s = s') : KM t' mg' hz' N' := by
  have kM' := km_fe hF h0 h1 kM
  refine ⟨fun s hs => ?_, fun s s' hs hs' e => ?_⟩
  · obtain ⟨z1, z2, z3, z4⟩ := hτ s hs
    obtain ⟨a1, a2, a3, a4⟩ := kM'.1 _ z1
    rw [z2]
    exact ⟨a1, a2, by rw [z3]; exact a3, fun k hk => by rw [z4 k hk]; exact a4 k (by omega)⟩
  · obtain ⟨z1, z2, z3, z4⟩ := hτ s hs
    obtain ⟨w1, w2, w3, w4⟩ := hτ s' hs'
    rw [z2, w2] at e
    exact hi s s' hs hs' (kM.2 _ _ z1 w1 e)
/-! the reference's swap -/
def swp (f : Nat → Int) (m k : Nat) : Nat → Int := fun j => if 4 * m ≤ j ∧ j < 4 * m + k then f (j + 4) else if 4 * m + 4 ≤ j ∧ j < 4 * m + 4 + k then f (j - 4) else f j
theorem w4m (hm : m < 64) : wr (4 * (m : Int)) = ((4 * m : Nat) : Int) := by
  rw [show 4 * (m : Int) = ((4 * m : Nat) : Int) by omega]; exact wn (by omega)
theorem w44 (hm : m < 64) : wr (((4 * m : Nat) : Int) + 4) = ((4 * m + 4 : Nat) : Int) := wa (m := 4 * m) (n := 4) (by omega)
theorem sw_lp (hm : m < 63) : ∀ (n k mm : Nat), k + n = 4 → n < mm → g_X6_swap_b2 mm (msA N 24 (swp (N 24) m k)) (m : Int) (k : Int) = some (0, msA (msA N 24 (swp (N 24) m 4)) 23 (fu (fu (N 23) m (N 23 (m + 1))) (m + 1) (N 23 m))) := by
  intro n
  induction n with
  | zero =>
    intro k mm hk hmm
    cases mm with
    | zero => omega
    | succ mm =>
      have e4 : k = 4 := by omega
      subst e4
      show g_X6_swap_s2 _ _ (m : Int) _ = _
      unfold g_X6_swap_s2
      rw [if_pos (by decide), q_mg (show m < mlen 23 by show _ < 64; omega), Option.bind_some, w1 (by omega), q_mg (show m + 1 < mlen 23 by show _ < 64; omega), Option.bind_some, q_ms (show m < mlen 23 by show _ < 64; omega), Option.bind_some, q_ms (show m + 1 < mlen 23 by show _ < 64; omega), Option.bind_some]
      congr 2
      rw [mup_msA, mup_msA, msA_msA, msA_same, msA_ne (show (23 : Nat) ≠ 24 by decide)]
  | succ n ih =>
    intro k mm hk hmm
    cases mm with
    | zero => omega
    | succ mm =>
      show g_X6_swap_s2 _ _ (m : Int) (k : Int) = _
      unfold g_X6_swap_s2
      rw [if_neg (by omega), w4m (by omega), w44 (by omega), wa (by omega), wa (by omega), q_mg (show 4 * m + k < mlen 24 by show _ < 256; omega), Option.bind_some, q_mg (show 4 * m + 4 + k < mlen 24 by show _ < 256; omega), Option.bind_some, q_ms (show 4 * m + k < mlen 24 by show _ < 256; omega), Option.bind_some, q_ms (show 4 * m + 4 + k < mlen 24 by show _ < 256; omega), Option.bind_some, w1 (by omega)]
      have e : mup (mup (msA N 24 (swp (N 24) m k)) 24 (4 * m + k) (msA N 24 (swp (N 24) m k) 24 (4 * m + 4 + k))) 24 (4 * m + 4 + k) (msA N 24 (swp (N 24) m k) 24 (4 * m + k)) = msA N 24 (swp (N 24) m (k + 1)) := by
        rw [mup_msA, mup_msA, msA_msA, msA_same, msA_msA, msA_same]
        congr 1
        funext j
        unfold fu swp
        by_cases c1 : j = 4 * m + 4 + k
        · rw [if_pos c1, if_neg (by omega), if_neg (by omega), if_neg (by omega), if_pos (by omega), c1]
          congr 1
          omega
        · rw [if_neg c1]
          by_cases c2 : j = 4 * m + k
          · rw [if_pos c2, if_neg (by omega), if_neg (by omega), if_pos (by omega), c2]
            congr 1
            omega
          · rw [if_neg c2]
            by_cases c3 : 4 * m ≤ j ∧ j < 4 * m + k
            · rw [if_pos c3, if_pos (by omega)]
            · rw [if_neg c3, if_neg (show ¬ (4 * m ≤ j ∧ j < 4 * m + (k + 1)) by omega)]
              by_cases c4 : 4 * m + 4 ≤ j ∧ j < 4 * m + 4 + k
              · rw [if_pos c4, if_pos (by omega)]
              · rw [if_neg c4, if_neg (by omega)]
      rw [e]
      exact ih (k + 1) mm (by omega) (by omega)
theorem sw_eq (N : Mm) (hm : m < 63) : g_X6_swap N (m : Int) = some (0, msA (msA N 24 (swp (N 24) m 4)) 23 (fu (fu (N 23) m (N 23 (m + 1))) (m + 1) (N 23 m))) := by
  have := sw_lp (N := N) hm 4 0 fuel rfl (by decide)
  have e : msA N 24 (swp (N 24) m 0) = N := by
    have : swp (N 24) m 0 = N 24 := by
      funext j
      unfold swp
      rw [if_neg (by omega), if_neg (by omega)]
    rw [this, msA_id]
  rw [e] at this
  exact this
/-- the class's change of places -/
theorem cp_eq {A B : Nat} (hc : tC t a = 1 + 1) (h13 : 0 ≤ tI t a 13 ∧ tL t a 13 = 4) (h14 : 0 ≤ tI t a 14 ∧ tL t a 14 = 4) (hq : q < 4) (hA : tV t a (gf 1 13) q = (A : Int)) (hB : tV t a (gf 1 14) q = (B : Int)) (cA : tC t A = 2 + 1) (cB : tC t B = 2 + 1) : t_X1_changePlaces t (a : Int) (q : Int) = some (0, tset (tset t a (gf 1 13) q (B : Int)) a (gf 1 14) q (A : Int)) := by
  unfold t_X1_changePlaces
  have hc1 : tC (tset t a (gf 1 13) q (B : Int)) a = 1 + 1 := hc
  rw [q_rf 13 hc, Option.bind_some, q_al hc h13.1 (by omega), Option.bind_some, hA, Option.bind_some, q_rf 14 hc, Option.bind_some, q_al hc h14.1 (by omega), Option.bind_some, hB, q_rs (x := (B : Int)) hc h13.1 (by omega) (Or.inr cB), Option.bind_some, q_rf 14 hc1, Option.bind_some, q_rs (x := (A : Int)) hc1 h14.1 (show q < tL t a 14 by omega) (Or.inr cA), Option.bind_some]
def sg (m s : Nat) : Nat := if s = m then m + 1 else if s = m + 1 then m else s
theorem sg_lt (hm : m < 63) (h : s < 88) : sg m s < 88 ∧ (sg m s < 64 ↔ s < 64) := by
  unfold sg; split <;> (try split) <;> omega
theorem sg_cs (hm : m < 63) (he : m % 2 = 0) : cs (sg m s) = cs s := by
  unfold sg cs
  split
  · rename_i e; rw [if_pos (by omega), if_pos (by omega), e]; omega
  · split
    · rename_i e; rw [if_pos (by omega), if_pos (by omega), e]; omega
    · rfl
theorem sg_inj {s' : Nat} (h : sg m s = sg m s') : s = s' := by
  unfold sg at h
  split at h <;> split at h <;> (try split at h) <;> (try split at h) <;> omega
theorem swap_pair (hB : AB t x b ca la sa mg N LS FL hz dz) (hH : HZ N hz dz) (hc : Lv N c) (hq : q < 4) : ∃ t' N' mg' hz', t_X1_changePlaces t (ca c : Int) (q : Int) = some (0, t') ∧ g_X6_swap N ((2 * (8 * q + c) : Nat) : Int) = some (0, N') ∧ AB t' x b ca la sa mg' N' LS FL hz' dz ∧ HZ N' hz' dz ∧ Mo N N' ∧ Fe t t' [gf 1 13, gf 1 14, gf 1 15, gf 1 16, gf 2 0, gf 2 1] ∧ hz' (2 * (8 * q + c)) = hz (2 * (8 * q + c) + 1) ∧ hz' (2 * (8 * q + c) + 1) = hz (2 * (8 * q + c)) ∧ tC t' = tC t := by
  have hc8 := lv8 hB.1.1 hc
  obtain ⟨hW, hM, hK, kP, kM, hT⟩ := id hB
  have kC := hK.2.2.1
  have kCc := kC.1 c hc
  obtain ⟨p1, p2, p3, p4⟩ := kP c hc
  have r0 := kM.1 _ (pr_m (hz := hz) hc8 hc (q := q) (e := 0) hq (by omega))
  have r1 := kM.1 _ (pr_m (hz := hz) hc8 hc (q := q) (e := 1) hq (by omega))
  rw [Nat.add_zero] at r0
  have e1 := cp_eq kCc.1 kCc.2.2.1.2.1 kCc.2.2.1.2.2.1 hq (p1 q hq).1 (p1 q hq).2 r0.1 r1.1
  generalize hm : 2 * (8 * q + c) = m at *
  have hm63 : m < 63 := by omega
  have e2 := sw_eq N hm63
  have f1 := fe_trans (fe_set t (ca c) (gf 1 13) q (mg (m + 1) : Int)) (fe_set (tset t (ca c) (gf 1 13) q (mg (m + 1) : Int)) (ca c) (gf 1 14) q (mg m : Int))
  have hMo : Mo N (msA (msA N 24 (swp (N 24) m 4)) 23 (fu (fu (N 23) m (N 23 (m + 1))) (m + 1) (N 23 m))) := fun b h1 h2 h3 h4 => by rw [msA_ne h1, msA_ne h2]
  have hlv := ep_lv (mo_ep hMo)
  have g24 : (msA (msA N 24 (swp (N 24) m 4)) 23 (fu (fu (N 23) m (N 23 (m + 1))) (m + 1) (N 23 m))) 24 = swp (N 24) m 4 := by rw [msA_ne (by decide), msA_same]
  have g23 : (msA (msA N 24 (swp (N 24) m 4)) 23 (fu (fu (N 23) m (N 23 (m + 1))) (m + 1) (N 23 m))) 23 = fu (fu (N 23) m (N 23 (m + 1))) (m + 1) (N 23 m) := msA_same _ _ _
  have g25 : (msA (msA N 24 (swp (N 24) m 4)) 23 (fu (fu (N 23) m (N 23 (m + 1))) (m + 1) (N 23 m))) 25 = N 25 := by rw [msA_ne (by decide), msA_ne (by decide)]
  have g26 : (msA (msA N 24 (swp (N 24) m 4)) 23 (fu (fu (N 23) m (N 23 (m + 1))) (m + 1) (N 23 m))) 26 = N 26 := by rw [msA_ne (by decide), msA_ne (by decide)]
  generalize hN' : msA (msA N 24 (swp (N 24) m 4)) 23 (fu (fu (N 23) m (N 23 (m + 1))) (m + 1) (N 23 m)) = N' at *
  have hhv : ∀ s k, k < 4 → hv N' s k = hv N (sg m s) k := fun s k hk => by
    unfold hv
    by_cases e : s < 64
    · rw [if_pos e]
      unfold sg
      split
      · rename_i e1
        rw [if_pos (by omega), g24]
        unfold swp
        rw [if_pos (by omega), e1]
        congr 1; omega
      · split
        · rename_i e0 e1
          rw [if_pos (by omega), g24]
          unfold swp
          rw [if_neg (by omega), if_pos (by omega), e1]
          congr 1; omega
        · rename_i e0 e1
          rw [g24]
          unfold swp
          rw [if_neg (by omega), if_neg (by omega)]
    · have : sg m s = s := by unfold sg; rw [if_neg (by omega), if_neg (by omega)]
      rw [if_neg e, this, if_neg e, g26]
  have h4 : ∀ s, s < 88 → hz s ≤ 4 := fun s hs => (hM.1 s hs).1
  refine ⟨_, N', fun s => mg (sg m s), fun s => hz (sg m s), e1, e2, ab_mag hB hMo (fe_sub f1 (by decide)) (fun _ _ _ => ⟨rfl, rfl⟩) (wm_mv (τ := sg m) hMo hM (fun s hs h0 => ⟨(sg_lt hm63 hs).1, sg_cs hm63 (by omega), Nat.le_refl _, fun k hk => hhv s k (by have := h4 _ (sg_lt hm63 hs).1; omega)⟩) (fun s s' _ _ _ _ e => sg_inj e)) (fun d hd => ?_) (km_mv (τ := sg m) f1 (by decide) (by decide) kM (fun s hs => ⟨⟨(sg_lt hm63 hs.1).1, hs.2.elim (fun z => Or.inl ⟨(sg_lt hm63 hs.1).2.mpr z.1, by rw [sg_cs hm63 (by omega), ← hlv]; exact z.2⟩) Or.inr⟩, rfl, rfl, fun k hk => hhv s k (by have := h4 _ (sg_lt hm63 hs.1).1; omega)⟩) (fun s s' _ _ e => sg_inj e)), ⟨fun s hs => ?_, fun d hd => ⟨?_, fun e he => ?_⟩⟩, hMo, fe_sub f1 (by decide), ?_, ?_, rfl⟩
  · rw [hlv] at hd
    have hd8 := lv8 hW.1 hd
    obtain ⟨y1, y2, y3, y4⟩ := kP d hd
    have c1 := (kC.1 d hd).1
    have sgd : ∀ e, sg m (64 + 3 * d + e) = 64 + 3 * d + e := fun e => by unfold sg; rw [if_neg (by omega), if_neg (by omega)]
    refine ⟨fun q' hq' => ?_, fun e he => ?_, ?_, y4⟩
    · by_cases e : d = c ∧ q' = q
      · obtain ⟨rfl, rfl⟩ := e
        rw [hm]
        have s1 : sg m m = m + 1 := if_pos rfl
        have s2 : sg m (m + 1) = m := by unfold sg; rw [if_neg (by omega), if_pos rfl]
        rw [s1, s2]
        refine ⟨?_, ?_⟩
        · rw [tV_set, if_neg (fun z => by have := z.2.1; revert this; decide), tV_set, if_pos ⟨rfl, rfl, rfl⟩]
        · rw [tV_set, if_pos ⟨rfl, rfl, rfl⟩]
      · have s1 : sg m (2 * (8 * q' + d)) = 2 * (8 * q' + d) := by unfold sg; rw [if_neg (by omega), if_neg (by omega)]
        have s2 : sg m (2 * (8 * q' + d) + 1) = 2 * (8 * q' + d) + 1 := by unfold sg; rw [if_neg (by omega), if_neg (by omega)]
        have hne : ∀ {P Q : Prop}, (ca d = ca c ∧ P ∧ q' = q) → Q := fun z => absurd ⟨ca_inj kC hd hc z.1, z.2.2⟩ e
        rw [s1, s2, tV_set, if_neg (fun z => hne z), tV_set, if_neg (fun z => hne z), tV_set, if_neg (fun z => hne z), tV_set, if_neg (fun z => hne z)]
        exact y1 q' hq'
    · rw [sgd, fe_v f1 c1 (by decide)]; exact y2 e he
    · rw [fe_v f1 c1 (by decide)]; exact y3
  · show N' 23 s = ((hz (sg m s) : Nat) : Int)
    rw [g23]
    have s0 := hH.1 (m + 1) (by omega)
    have s1 := hH.1 m (by omega)
    by_cases e1 : s = m + 1
    · rw [e1, fu_same, s1]
      unfold sg
      rw [if_neg (by omega), if_pos rfl]
    · rw [fu_ne e1]
      by_cases e2 : s = m
      · rw [e2, fu_same, s0]
        unfold sg
        rw [if_pos rfl]
      · rw [fu_ne e2, hH.1 s hs]
        unfold sg
        rw [if_neg e2, if_neg e1]
  · rw [g25]; exact (hH.2 d hd).1
  · show hz (sg m (64 + 3 * d + e)) = _
    have : sg m (64 + 3 * d + e) = 64 + 3 * d + e := by unfold sg; rw [if_neg (by omega), if_neg (by omega)]
    rw [this]; exact (hH.2 d hd).2 e he
  · show hz (sg m m) = _
    rw [show sg m m = m + 1 from if_pos rfl]
  · show hz (sg m (m + 1)) = _
    rw [show sg m (m + 1) = m by unfold sg; rw [if_neg (by omega), if_pos rfl]]
end
