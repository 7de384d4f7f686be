/-! both sides: a magazine's objects come back -/
abbrev mgF : List Nat := [gf 1 10, gf 1 13, gf 1 14, gf 1 15, gf 1 16, gf 2 0, gf 2 1]
def dr (s : Nat) : Nat → Mm → Option Mm
  | 0, N => some N
  | n + 1, N => Option.bind (g_X6_toSlab N (hv N s n)) fun r => dr s n r.2
section
variable {t t' : Th} {x b : Nat} {ca la sa mg : Nat → Nat} {N N' : Mm} {LS FL : Nat → List Nat} {hz dz : Nat → Nat} {p i l c k s n a : Nat}
theorem kk_mag (hF : Fe t t' mgF) (hi : ∀ a k, tC t a = 1 + 1 → tI t' a k = tI t a k ∧ tL t' a k = tL t a k) (hGL : GL N LS) (h : KK t x b ca la sa N LS FL) : KK t' x b ca la sa N LS FL := by
  obtain ⟨kH, kB, kC, kV, kN', kI, kS, kL⟩ := h
  exact ⟨kh_fe hF (by decide) (by decide) (by decide) (by decide) kH, kb_fe hF (by decide) (by decide) kB, kc_fe hF (kcj _ (by decide)) (fun k _ _ a ci ha hci => hi a k (by rw [ha, hci])) kC, kv_fe hF (by decide) (by decide) kC kV, kn_fe hF (by decide) kC kN', ki_fe hF (by decide) (by decide) (by decide) kI, ks_fe hF (by decide) (by decide) (by decide) (by decide) (by decide) kI kS, kl_fe hF (by decide) (by decide) (by decide) (by decide) kC kI (lsm hGL) kL⟩
theorem tl_eq {v : Int} (hc : tC t s = 2 + 1) (hI : 0 ≤ tI t s 0 ∧ tL t s 0 = 4) (hn : tV t s (gf 2 1) 0 = ((n + 1 : Nat) : Int)) (hv : tV t s (gf 2 0) n = v) (h4 : n < 4) : t_X2_takeLast t (s : Int) = some (v, tset t s (gf 2 1) 0 (n : Int)) := by
  have e1 : wr (((n + 1 : Nat) : Int) - 1) = (n : Int) := by
    rw [show (((n + 1 : Nat) : Int) - 1) = (n : Int) by omega]
    exact wn (by omega)
  have hc1 : tC (tset t s (gf 2 1) 0 (n : Int)) s = 2 + 1 := hc
  unfold t_X2_takeLast
  rw [q_gt 1 hc, Option.bind_some, hn, if_pos (by omega), Option.bind_some, e1, q_pt 1 _ hc, Option.bind_some, q_rf 0 hc1, Option.bind_some, q_gt 1 hc1, Option.bind_some, tV_set, if_pos ⟨rfl, rfl, rfl⟩, q_al hc1 hI.1 (show n < tL t s 0 by omega), Option.bind_some, tV_set, if_neg (fun q => by have := q.2.1; revert this; decide), hv]
theorem tl_no (hc : tC t s = 2 + 1) (hn : tV t s (gf 2 1) 0 = 0) : t_X2_takeLast t (s : Int) = some (-1, t) := by
  unfold t_X2_takeLast
  rw [q_gt 1 hc, Option.bind_some, hn, if_neg (by decide)]
/-- the last object of a magazine comes back -/
theorem pop_come (hA : AA t x b ca la sa mg N LS FL hz dz) (hs : s < 88) (hn : hz s = n + 1) : ∃ v t1 t' N' LS' FL', t_X2_takeLast t (mg s : Int) = some (v, t1) ∧ t_X5_comeBack t1 (x : Int) v = some (0, t') ∧ tC t1 x = 5 + 1 ∧ g_X6_toSlab N (hv N s n) = some (0, N') ∧ AA t' x b ca la sa mg N' LS' FL' (fz hz s n) dz ∧ (∀ b, b ≠ 16 → b ≠ 17 → b ≠ 18 → b ≠ 19 → b ≠ 21 → b ≠ 22 → N' b = N b) := by
  obtain ⟨hW, hM, hK, kP, kM, kZ, hT⟩ := hA
  obtain ⟨hP, hB, hG, hS, hZ, hR⟩ := id hW
  have kC := hK.2.2.1
  obtain ⟨m1, m2⟩ := hM.1 s hs
  obtain ⟨p, i, z1, z2, z3, z4, z5⟩ := m2 n (by omega)
  have hprs : Pr N hz s := ⟨hs, Or.inr (by omega)⟩
  obtain ⟨k1, k2, k3, k4⟩ := kM.1 s hprs
  have hf := nf_st hS z1 z3 (by omega)
  have hv8 : tV t (mg s) (gf 2 0) n = ((8 * U N p i : Nat) : Int) := by rw [k4 n (by omega), z4]; omega
  have e1 := tl_eq (n := n) k1 k2 (by rw [k3, hn]) hv8 (by omega)
  have f1 := fe_set t (mg s) (gf 2 1) 0 (n : Int)
  have hI1 : tI (tset t (mg s) (gf 2 1) 0 (n : Int)) = tI t := rfl
  have hL1 : tL (tset t (mg s) (gf 2 1) 0 (n : Int)) = tL t := rfl
  generalize ht1 : tset t (mg s) (gf 2 1) 0 (n : Int) = t1 at e1 f1 hI1 hL1
  have hK1 : KK t1 x b ca la sa N LS FL := kk_mag (fe_sub f1 (by decide)) (fun a k _ => by rw [hI1, hL1]; exact ⟨rfl, rfl⟩) (wr_gl hR) hK
  obtain ⟨t', N', LS', r1, r2, r3, r4, r5, r6, r7, r8, r9, r10, r11, r12⟩ := come_pair hW hK1 z1 z3 hf
  have e24 : N' 24 = N 24 := r6 24 (by decide) (by decide) (by decide) (by decide) (by decide) (by decide)
  have e26 : N' 26 = N 26 := r6 26 (by decide) (by decide) (by decide) (by decide) (by decide) (by decide)
  have e14 : N' 14 = N 14 := r6 14 (by decide) (by decide) (by decide) (by decide) (by decide) (by decide)
  have ehv : ∀ s k, hv N' s k = hv N s k := fun s k => by unfold hv; rw [e24, e26]
  have hlt : ∀ s' k', k' < fz hz s n s' → k' < hz s' ∧ ¬ (s' = s ∧ k' = n) := fun s' k' h => by
    unfold fz at h
    by_cases e : s' = s
    · rw [if_pos e] at h
      exact ⟨by rw [e]; omega, fun q => by omega⟩
    · rw [if_neg e] at h
      exact ⟨h, fun q => e q.1⟩
  have hpr : ∀ s', Pr N' (fz hz s n) s' → Pr N hz s' := fun s' h => ⟨h.1, h.2.elim (fun q => Or.inl ⟨q.1, by rw [← ep_lv r7]; exact q.2⟩) (fun q => Or.inr (hlt s' 0 q).1)⟩
  refine ⟨_, t1, t', N', LS', _, e1, r1, hK1.1.1, by rw [z4]; exact r2, ⟨r3, ⟨fun s' hs' => ⟨?_, fun k' hk' => ?_⟩, fun s1 s2 k1 k2 h1 h2 h3 h4 h5 => ?_⟩, r4, kp_lv (ep_lv r7) (kp_fe (fe_trans f1 r8) (by decide) (by decide) (by decide) (by decide) kC kP), ⟨fun s' hs' => ?_, fun s1 s2 h1 h2 h3 => kM.2 s1 s2 (hpr _ h1) (hpr _ h2) h3⟩, fun d hd => ?_, (fe_trans f1 r8).2.2 hT⟩, r6⟩
  · have h1 := (hM.1 s' hs').1
    unfold fz
    split <;> omega
  · obtain ⟨a1, a2⟩ := hlt s' k' hk'
    obtain ⟨q, j, y1, y2, y3, y4, y5⟩ := (hM.1 s' hs').2 k' a1
    have hne : U N q j ≠ U N p i := fun e => a2 (hM.2 s' s k' n hs' hs a1 (by omega) (by rw [y4, z4, e]))
    refine ⟨q, j, by rw [ep_sl r7]; exact y1, by rw [ep_w r7]; exact y2, by rw [ep_w r7, ep_f r7]; exact y3, by rw [ehv, ep_u r7]; exact y4, ?_⟩
    rw [ep_u r7, r5, fu_ne hne]
    exact y5
  · rw [ehv, ehv] at h5
    exact hM.2 s1 s2 k1 k2 h1 h2 (hlt _ _ h3).1 (hlt _ _ h4).1 h5
  · obtain ⟨b1, b2, b3, b4⟩ := kM.1 s' (hpr s' hs')
    have b1' := fe_c f1 b1
    refine ⟨fe_c r8 b1', ?_, ?_, fun k hk => ?_⟩
    · rw [r10, r11, hI1, hL1]; exact b2
    · rw [fe_v r8 b1' (by decide), ← ht1, tV_set]
      by_cases e : s' = s
      · rw [e, if_pos ⟨rfl, rfl, rfl⟩, fz_same]
      · rw [if_neg (fun q => e (kM.2 s' s (hpr s' hs') hprs q.1)), b3, fz_ne e]
    · rw [fe_v r8 b1' (by decide), fe_v f1 b1 (by decide), ehv]
      exact b4 k (hlt _ _ hk).1
  · rw [ep_lv r7] at hd
    rw [kz_fe (fe_trans f1 r8) (by decide) kC kZ d hd]
    suffices h : lc N' d 32768 = lc N d 32768 by rw [h]
    refine lc_congr 32768 (fun u hu => ?_)
    rw [r7.1, e14, r5]
    by_cases e : u = U N p i
    · rw [e, fu_same, z5]
      constructor <;> (rintro ⟨q, _⟩; omega)
    · rw [fu_ne e]
theorem unload_lp (hs : s < 88) {tot : Nat} (h4 : tot ≤ 4) : ∀ (n : Nat) (t : Th) (N : Mm) (LS FL : Nat → List Nat) (hz : Nat → Nat) (m : Nat), AA t x b ca la sa mg N LS FL hz dz → hz s = n → n ≤ tot → n < m → ∃ t' N' LS' FL', t_X5_unload_b7 m t (x : Int) (mg s : Int) (tot : Int) ((tot - n : Nat) : Int) = some ((tot : Int), t') ∧ dr s n N = some N' ∧ AA t' x b ca la sa mg N' LS' FL' (fz hz s 0) dz ∧ (∀ b, b ≠ 16 → b ≠ 17 → b ≠ 18 → b ≠ 19 → b ≠ 21 → b ≠ 22 → N' b = N b) := by
  intro n
  induction n with
  | zero =>
    intro t N LS FL hz m hA h0 hle hm
    cases m with
    | zero => omega
    | succ m =>
      refine ⟨t, N, LS, FL, ?_, rfl, ?_, fun _ _ _ _ _ _ _ => rfl⟩
      · show t_X5_unload_s7 _ t (x : Int) (mg s : Int) (tot : Int) _ = _
        unfold t_X5_unload_s7
        rw [if_pos (by omega)]
      · have : fz hz s 0 = hz := by
          funext j
          by_cases e : j = s
          · rw [e, fz_same, h0]
          · rw [fz_ne e]
        rw [this]; exact hA
  | succ n ih =>
    intro t N LS FL hz m hA h0 hle hm
    cases m with
    | zero => omega
    | succ m =>
      obtain ⟨v, t1, t2, N2, LS2, FL2, q1, q2, q3, q4, q5, q6⟩ := pop_come hA hs h0
      obtain ⟨t', N', LS', FL', y1, y2, y3, y4⟩ := ih t2 N2 LS2 FL2 (fz hz s n) m q5 (fz_same _ _ _) (by omega) (by omega)
      refine ⟨t', N', LS', FL', ?_, ?_, ?_, fun b h1 h2 h3 h4 h5 h6 => (y4 b h1 h2 h3 h4 h5 h6).trans (q6 b h1 h2 h3 h4 h5 h6)⟩
      · show t_X5_unload_s7 _ t (x : Int) (mg s : Int) (tot : Int) _ = _
        unfold t_X5_unload_s7
        rw [if_neg (by omega), q_ck (hA.2.2.2.2.1.1 s ⟨hs, Or.inr (by omega)⟩).1, Option.bind_some, q1, Option.bind_some]
        dsimp only
        rw [q_ck q3, Option.bind_some, q2, Option.bind_some]
        dsimp only
        rw [w1 (by omega), show tot - (n + 1) + 1 = tot - n by omega]
        exact y1
      · show Option.bind (g_X6_toSlab N (hv N s n)) _ = _
        rw [q4, Option.bind_some]
        exact y2
      · have : fz (fz hz s n) s 0 = fz hz s 0 := by
          funext j
          by_cases e : j = s
          · rw [e, fz_same, fz_same]
          · rw [fz_ne e, fz_ne e, fz_ne e]
        rw [this] at y3; exact y3
theorem unload_eq (hA : AA t x b ca la sa mg N LS FL hz dz) (hs : s < 88) (hp : Pr N hz s) : ∃ t' N' LS' FL', t_X5_unload t (x : Int) (mg s : Int) = some ((hz s : Int), t') ∧ dr s (hz s) N = some N' ∧ AA t' x b ca la sa mg N' LS' FL' (fz hz s 0) dz ∧ (∀ b, b ≠ 16 → b ≠ 17 → b ≠ 18 → b ≠ 19 → b ≠ 21 → b ≠ 22 → N' b = N b) := by
  obtain ⟨k1, k2, k3, k4⟩ := hA.2.2.2.2.1.1 s hp
  have h4 := (hA.2.1.1 s hs).1
  obtain ⟨t', N', LS', FL', y1, y2, y3, y4⟩ := unload_lp hs (tot := hz s) h4 (hz s) t N LS FL hz fuel hA rfl (Nat.le_refl _) (by show _ < 40000; omega)
  refine ⟨t', N', LS', FL', ?_, y2, y3, y4⟩
  unfold t_X5_unload
  rw [q_gt 1 k1, Option.bind_some, k3]
  rw [Nat.sub_self] at y1
  exact y1
theorem eh_lp (hs : s < 64) {tot : Int} : ∀ (n : Nat) (N N' : Mm) (m : Nat), n ≤ 4 → n < m → dr s n N = some N' → g_X6_emptyHeld_b11 m N (s : Int) tot ((n : Int) - 1) = some (tot, mup N' 23 s 0) := by
  intro n
  induction n with
  | zero =>
    intro N N' m _ hm h
    cases m with
    | zero => omega
    | succ m =>
      cases h
      show g_X6_emptyHeld_s11 _ N (s : Int) tot _ = _
      unfold g_X6_emptyHeld_s11
      rw [if_pos (by omega), q_ms (show s < mlen 23 from hs), Option.bind_some]
  | succ n ih =>
    intro N N' m h4 hm h
    cases m with
    | zero => omega
    | succ m =>
      have h' : Option.bind (g_X6_toSlab N (hv N s n)) (fun r => dr s n r.2) = some N' := h
      obtain ⟨r, e1, e2⟩ := bd h'
      show g_X6_emptyHeld_s11 _ N (s : Int) tot _ = _
      unfold g_X6_emptyHeld_s11
      have w4 : wr (4 * (s : Int)) = ((4 * s : Nat) : Int) := by
        rw [show 4 * (s : Int) = ((4 * s : Nat) : Int) by omega]; exact wn (by omega)
      have w5 : wr (((4 * s : Nat) : Int) + (((n + 1 : Nat) : Int) - 1)) = ((4 * s + n : Nat) : Int) := by
        rw [show ((4 * s : Nat) : Int) + (((n + 1 : Nat) : Int) - 1) = ((4 * s + n : Nat) : Int) by omega]; exact wn (by omega)
      have w6 : wr ((((n + 1 : Nat) : Int) - 1) + (-1)) = (n : Int) - 1 := by
        rw [show (((n + 1 : Nat) : Int) - 1) + (-1) = (n : Int) - 1 by omega]; exact wr_eq ⟨by omega, by omega⟩
      rw [if_neg (by omega), w4, w5, q_mg (show 4 * s + n < mlen 24 by show _ < 256; omega), Option.bind_some, show N 24 (4 * s + n) = hv N s n from (if_pos hs).symm, e1, Option.bind_some, w6]
      exact ih r.2 N' m (by omega) (by omega) e2
theorem aa_m {kk j : Nat} {v : Int} (hk : kk = 0 ∨ kk = 23 ∨ kk = 25) (h : AA t x b ca la sa mg N LS FL hz dz) : AA t x b ca la sa mg (mup N kk j v) LS FL hz dz := by
  rcases hk with rfl | rfl | rfl
  all_goals
    obtain ⟨⟨hP, hB, hG, hS, hZ, hR⟩, hM, ⟨kH, kB, kC, kV, kN', kI, kS, kL⟩, kP, kM, kZ, hT⟩ := h
  · have hE : Ep N (mup N 0 j v) := ⟨rfl, rfl, rfl, rfl, rfl, rfl, rfl, rfl, rfl, rfl, rfl, rfl⟩
    refine ⟨⟨ep_p hE rfl rfl hP, hB, ep_g hE hG, fun p hp => ?_, hZ, hR⟩, hM, ⟨kh_ep hE kH, kb_ep hE rfl kB, kc_ep hE kC, kv_ep hE rfl rfl kV, kn_ep hE kN', ki_ep hE kI, kS, kl_ep hE kL⟩, kP, kM, fun c hc => ?_, hT⟩
    · obtain ⟨a1, a2, a3, a4, a5, a6⟩ := hS p hp
      exact ⟨a1, a2, a3, a4, ch_congr hE _ (fun _ _ => rfl) a5, a6⟩
    · rw [kZ c hc, show lc (mup N 0 j v) c 32768 = lc N c 32768 from lc_congr 32768 (fun _ _ => Iff.rfl)]
  · have hE : Ep N (mup N 23 j v) := ⟨rfl, rfl, rfl, rfl, rfl, rfl, rfl, rfl, rfl, rfl, rfl, rfl⟩
    refine ⟨⟨ep_p hE rfl rfl hP, hB, ep_g hE hG, fun p hp => ?_, hZ, hR⟩, hM, ⟨kh_ep hE kH, kb_ep hE rfl kB, kc_ep hE kC, kv_ep hE rfl rfl kV, kn_ep hE kN', ki_ep hE kI, kS, kl_ep hE kL⟩, kP, kM, fun c hc => ?_, hT⟩
    · obtain ⟨a1, a2, a3, a4, a5, a6⟩ := hS p hp
      exact ⟨a1, a2, a3, a4, ch_congr hE _ (fun _ _ => rfl) a5, a6⟩
    · rw [kZ c hc, show lc (mup N 23 j v) c 32768 = lc N c 32768 from lc_congr 32768 (fun _ _ => Iff.rfl)]
  · have hE : Ep N (mup N 25 j v) := ⟨rfl, rfl, rfl, rfl, rfl, rfl, rfl, rfl, rfl, rfl, rfl, rfl⟩
    refine ⟨⟨ep_p hE rfl rfl hP, hB, ep_g hE hG, fun p hp => ?_, hZ, hR⟩, hM, ⟨kh_ep hE kH, kb_ep hE rfl kB, kc_ep hE kC, kv_ep hE rfl rfl kV, kn_ep hE kN', ki_ep hE kI, kS, kl_ep hE kL⟩, kP, kM, fun c hc => ?_, hT⟩
    · obtain ⟨a1, a2, a3, a4, a5, a6⟩ := hS p hp
      exact ⟨a1, a2, a3, a4, ch_congr hE _ (fun _ _ => rfl) a5, a6⟩
    · rw [kZ c hc, show lc (mup N 25 j v) c 32768 = lc N c 32768 from lc_congr 32768 (fun _ _ => Iff.rfl)]
/-- a held magazine is emptied, on both sides -/
theorem eh_pair (hA : AA t x b ca la sa mg N LS FL hz dz) (hH : HZ N hz dz) (hs : s < 64) (hlv : Lv N (cs s)) : ∃ r t' N' LS' FL', t_X5_unload t (x : Int) (mg s : Int) = some (r, t') ∧ g_X6_emptyHeld N (s : Int) = some (r, N') ∧ AA t' x b ca la sa mg N' LS' FL' (fz hz s 0) dz ∧ HZ N' (fz hz s 0) dz ∧ (∀ b, b ≠ 16 → b ≠ 17 → b ≠ 18 → b ≠ 19 → b ≠ 21 → b ≠ 22 → b ≠ 23 → N' b = N b) := by
  obtain ⟨t', N', LS', FL', y1, y2, y3, y4⟩ := unload_eq hA (s := s) (by omega) ⟨by omega, Or.inl ⟨hs, hlv⟩⟩
  have h4 := (hA.2.1.1 s (by omega)).1
  have e23 : N' 23 = N 23 := y4 23 (by decide) (by decide) (by decide) (by decide) (by decide) (by decide)
  have e25 : N' 25 = N 25 := y4 25 (by decide) (by decide) (by decide) (by decide) (by decide) (by decide)
  refine ⟨(hz s : Int), t', mup N' 23 s 0, LS', FL', y1, ?_, aa_m (Or.inr (Or.inl rfl)) y3, ⟨fun s' hs' => ?_, fun c hc => ⟨?_, fun d hd => ?_⟩⟩, fun b h1 h2 h3 h4 h5 h6 h7 => ?_⟩
  · unfold g_X6_emptyHeld
    rw [q_mg (show s < mlen 23 from hs), Option.bind_some, hH.1 s hs, wr_eq (z := (hz s : Int) - 1) ⟨by omega, by omega⟩]
    exact eh_lp hs (hz s) N N' fuel h4 (by show _ < 40000; omega) y2
  · show (if 23 = 23 ∧ s' = s then (0 : Int) else N' 23 s') = _
    by_cases e : s' = s
    · rw [if_pos ⟨rfl, e⟩, e, fz_same]; rfl
    · rw [if_neg (fun q => e q.2), fz_ne e, e23]; exact hH.1 s' hs'
  · show N' 25 c = _
    rw [e25]; exact (hH.2 c hc).1
  · rw [fz_ne (by omega)]; exact (hH.2 c hc).2 d hd
  · funext j
    show (if b = 23 ∧ j = s then (0 : Int) else N' b j) = _
    rw [if_neg (fun q => h7 q.1), y4 b h1 h2 h3 h4 h5 h6]
theorem hz_gone (hG : WG N) (hM : WM N hz) (hs : s < 88) (hlv : ¬ Lv N (cs s)) : hz s = 0 := by
  rcases Nat.eq_zero_or_pos (hz s) with h | h
  · exact h
  · exfalso
    obtain ⟨p, i, z1, z2, -⟩ := (hM.1 s hs).2 0 h
    have := (hG.2 p z1).2.2.1
    rw [z2] at this
    exact hlv this
theorem mup_id {kk j : Nat} {v : Int} (h : N kk j = v) : mup N kk j v = N := by
  funext a i
  show (if a = kk ∧ i = j then v else N a i) = _
  by_cases e : a = kk ∧ i = j
  · rw [if_pos e, e.1, e.2, h]
  · rw [if_neg e]
theorem eh_gone (hH : HZ N hz dz) (hs : s < 64) (h0 : hz s = 0) : g_X6_emptyHeld N (s : Int) = some (0, N) := by
  have h1 := hH.1 s hs
  rw [h0] at h1
  have h1' : N 23 s = 0 := h1
  unfold g_X6_emptyHeld
  rw [q_mg (show s < mlen 23 from hs), Option.bind_some, h1, wr_eq (z := ((0 : Nat) : Int) - 1) ⟨by omega, by omega⟩]
  have := eh_lp hs (tot := ((0 : Nat) : Int)) 0 N N fuel (by omega) (by show _ < 40000; omega) rfl
  rw [mup_id h1'] at this
  exact this
theorem fl_skip {q : Int} (kH : KH t x b ca sa N) : ∀ (n c : Nat) (a : Int) (m : Nat), c + n = 8 → (∀ d, c ≤ d → d < 8 → ¬ Lv N d) → n < m → t_X5_flush_b8 m t (x : Int) q a (c : Int) = some (0, a, t) := by
  obtain ⟨a1, a2, a3, a4, a5, a6, a7⟩ := kH
  intro n
  induction n with
  | zero =>
    intro c a m hc hd hm
    cases m with
    | zero => omega
    | succ m =>
      show t_X5_flush_s8 _ t (x : Int) q a (c : Int) = _
      unfold t_X5_flush_s8
      rw [if_pos (by omega)]
  | succ n ih =>
    intro c a m hc hd hm
    cases m with
    | zero => omega
    | succ m =>
      show t_X5_flush_s8 _ t (x : Int) q a (c : Int) = _
      unfold t_X5_flush_s8 t_X5_flush_j55
      have e := (a7 c (by omega)).2 (hd c (by omega) (by omega))
      rw [if_neg (by omega), q_rf 2 a1, Option.bind_some, q_al a1 a3.1 (by omega), Option.bind_some, e, if_pos (by decide), w1 (by omega)]
      exact ih (c + 1) a m (by omega) (fun d h1 h2 => hd d (by omega) h2) (by omega)
theorem wm2' {q c : Nat} (hq : q < 4) (hc : c < 8) : wr (((2 * (8 * q + c) : Nat) : Int) + 1) = ((2 * (8 * q + c) + 1 : Nat) : Int) := w1 (by omega)
theorem fl_lp {q : Nat} (hq : q < 4) : ∀ (n c : Nat) (t : Th) (N : Mm) (a : Int) (m m' : Nat), inr a → CR x t N → c + n = 8 → (c : Int) ≤ N 3 0 → n < m → n < m' → ∃ r t' N', t_X5_flush_b8 m t (x : Int) (q : Int) a (c : Int) = some (0, r, t') ∧ g_X6_flush_b27 m' N (q : Int) a (c : Int) = some (r, N') ∧ CR x t' N' ∧ N' 0 = N 0 := by
  intro n
  induction n with
  | zero =>
    intro c t N a m m' ha hC hc ht hm hm'
    obtain ⟨b, ca, la, sa, mg, LS, FL, hz, dz, hA, hH⟩ := id hC
    cases m' with
    | zero => omega
    | succ m' =>
      have h8 := hA.1.1.1
      rw [fl_skip hA.2.2.1.1 0 c a m hc (fun d h1 h2 => by omega) hm]
      refine ⟨a, t, N, rfl, ?_, hC, rfl⟩
      show g_X6_flush_s27 _ N (q : Int) a (c : Int) = _
      unfold g_X6_flush_s27
      rw [Option.bind_some, if_pos (by omega)]
  | succ n ih =>
    intro c t N a m m' ha hC hc ht hm hm'
    obtain ⟨b, ca, la, sa, mg, LS, FL, hz, dz, hA, hH⟩ := id hC
    have h8 := hA.1.1.1
    by_cases e : N 3 0 ≤ (c : Int)
    · cases m' with
      | zero => omega
      | succ m' =>
        rw [fl_skip hA.2.2.1.1 (n + 1) c a m hc (fun d h1 h2 => fun hL => by have := hL.1; omega) hm]
        refine ⟨a, t, N, rfl, ?_, hC, rfl⟩
        show g_X6_flush_s27 _ N (q : Int) a (c : Int) = _
        unfold g_X6_flush_s27
        rw [Option.bind_some, if_pos e]
    · cases m with
      | zero => omega
      | succ m =>
        cases m' with
        | zero => omega
        | succ m' =>
          obtain ⟨a1, a2, a3, a4, a5, a6, a7⟩ := hA.2.2.1.1
          have hc8 : c < 8 := by omega
          obtain ⟨s1, s2⟩ := cs_m (q := q) (c := c) (e := 0) hq hc8 (by omega)
          obtain ⟨s3, s4⟩ := cs_m (q := q) (c := c) (e := 1) hq hc8 (by omega)
          rw [Nat.add_zero] at s1 s2
          show ∃ r t' N', t_X5_flush_s8 _ t (x : Int) (q : Int) a (c : Int) = _ ∧ g_X6_flush_s27 _ N (q : Int) a (c : Int) = _ ∧ _
          unfold g_X6_flush_s27 t_X5_flush_s8 t_X5_flush_j55
          rw [Option.bind_some, if_neg e, if_neg (by omega), q_rf 2 a1, Option.bind_some, q_al a1 a3.1 (by omega), Option.bind_some, wm2 hq hc8, wm2' hq hc8]
          by_cases hv : Lv N c
          · obtain ⟨r1, t1, N1, LS1, FL1, y1, y2, y3, y4, y5⟩ := eh_pair hA hH s2 (by rw [s1]; exact hv)
            have e3 : N1 3 = N 3 := y5 3 (by decide) (by decide) (by decide) (by decide) (by decide) (by decide) (by decide)
            have e4 : N1 4 = N 4 := y5 4 (by decide) (by decide) (by decide) (by decide) (by decide) (by decide) (by decide)
            have hv1 : Lv N1 c := by unfold Lv; rw [e3, e4]; exact hv
            obtain ⟨r2, t2, N2, LS2, FL2, z1, z2, z3, z4, z5⟩ := eh_pair y3 y4 s4 (by rw [s3]; exact hv1)
            have kC := hA.2.2.1.2.2.1.1 c hv
            have kC1 := y3.2.2.1.2.2.1.1 c hv1
            have kP := hA.2.2.2.1 c hv
            have kP1 := y3.2.2.2.1 c hv1
            rw [(a7 c (by omega)).1 hv, if_neg (by omega), q_rf 13 kC.1, Option.bind_some, q_al kC.1 kC.2.2.1.2.1.1 (by rw [kC.2.2.1.2.1.2]; exact hq), Option.bind_some, (kP.1 q hq).1, q_ck a1, Option.bind_some, y1, Option.bind_some, y2, Option.bind_some]
            dsimp only
            rw [q_rf 14 kC1.1, Option.bind_some, q_al kC1.1 kC1.2.2.1.2.2.1.1 (by rw [kC1.2.2.1.2.2.1.2]; exact hq), Option.bind_some, (kP1.1 q hq).2, q_ck y3.2.2.1.1.1, Option.bind_some, z1, Option.bind_some, z2, Option.bind_some]
            dsimp only
            rw [w1 (by omega)]
            have e3' : N2 3 = N 3 := (z5 3 (by decide) (by decide) (by decide) (by decide) (by decide) (by decide) (by decide)).trans e3
            obtain ⟨r, t', N', q1, q2, q3, q4⟩ := ih (c + 1) t2 N2 (wr (wr (a + r1) + r2)) m m' (inr_wr _) ⟨b, ca, la, sa, mg, LS2, FL2, _, dz, z3, z4⟩ (by omega) (by rw [e3']; omega) (by omega) (by omega)
            exact ⟨r, t', N', q1, q2, q3, q4.trans ((z5 0 (by decide) (by decide) (by decide) (by decide) (by decide) (by decide) (by decide)).trans (y5 0 (by decide) (by decide) (by decide) (by decide) (by decide) (by decide) (by decide)))⟩
          · have g1 := hz_gone (s := 2 * (8 * q + c)) hA.1.2.2.1 hA.2.1 (by omega) (by rw [s1]; exact hv)
            have g2 := hz_gone (s := 2 * (8 * q + c) + 1) hA.1.2.2.1 hA.2.1 (by omega) (by rw [s3]; exact hv)
            rw [(a7 c (by omega)).2 hv, if_pos (by decide), eh_gone hH s2 g1, Option.bind_some]
            dsimp only
            rw [eh_gone hH s4 g2, Option.bind_some]
            dsimp only
            rw [show wr (wr (a + 0) + 0) = a by rw [Int.add_zero, Int.add_zero, wr_eq ha, wr_eq ha], w1 (by omega)]
            exact ih (c + 1) t N a m m' ha hC (by omega) (by omega) (by omega) (by omega)
theorem o_flush (h : CR x t N) (p0 : Int) : ∃ code rv t' bb N', t_X5_flush t (x : Int) p0 = some (code, rv, t') ∧ (code = 0 ∨ code = 2) ∧ g_X6_flush N p0 = some (bb, N') ∧ N' 0 0 = kL_flush code ∧ (code = 0 → bb = rv) ∧ CR x t' N' := by
  by_cases hq : 0 ≤ p0 ∧ p0 ≤ 3
  · obtain ⟨q, rfl⟩ : ∃ q : Nat, p0 = (q : Int) := ⟨p0.toNat, by omega⟩
    have h0 := cr_0 h 0
    have h3 : (0 : Int) ≤ N 3 0 := by
      obtain ⟨b, ca, la, sa, mg, LS, FL, hz, dz, hA, hH⟩ := h
      exact hA.1.1.1.1
    obtain ⟨r, t', N', y1, y2, y3, y4⟩ := fl_lp (q := q) (by omega) 8 0 t (mup N 0 0 0) 0 fuel fuel ⟨by decide, by decide⟩ h0 rfl h3 (by decide) (by decide)
    refine ⟨0, r, t', r, N', ?_, Or.inl rfl, ?_, by rw [y4]; rfl, fun _ => rfl, y3⟩
    · unfold t_X5_flush
      rw [rp_y (by omega), Option.bind_some]
      dsimp only
      rw [if_pos rfl]
      exact y1
    · unfold g_X6_flush g_X6_flush_j15
      rw [in_y hq, Option.bind_some]
      dsimp only
      rw [if_neg (by decide), rf_0, Option.bind_some]
      dsimp only
      rw [if_pos rfl]
      exact y2
  · refine ⟨2, 0, t, 0, mup N 0 0 1, ?_, Or.inr rfl, ?_, rfl, fun q => (by omega), cr_0 h 1⟩
    · unfold t_X5_flush
      rw [rp_n (by omega), Option.bind_some]
      dsimp only
      rw [if_neg (by decide)]
    · unfold g_X6_flush g_X6_flush_j15
      rw [in_n hq, Option.bind_some]
      dsimp only
      rw [if_pos rfl, rf_p _ (by decide), Option.bind_some]
      dsimp only
      rw [if_neg (by decide)]
/-! the depot -/
/-- a magazine is taken out of the depot -/
theorem td_eq (hc : tC t a = 1 + 1) (h16 : tV t a (gf 1 16) 0 = ((n + 1 : Nat) : Int)) (hI : 0 ≤ tI t a 15 ∧ tL t a 15 = 3) (hn : n < 3) : t_X1_takeFromDepot t (a : Int) = some (tV t a (gf 1 15) n, tset (tset t a (gf 1 16) 0 (n : Int)) a (gf 1 15) n (-1)) := by
  have e1 : wr (((n + 1 : Nat) : Int) - 1) = (n : Int) := by
    rw [show (((n + 1 : Nat) : Int) - 1) = (n : Int) by omega]
    exact wn (by omega)
  have hc1 : tC (tset t a (gf 1 16) 0 (n : Int)) a = 1 + 1 := hc
  unfold t_X1_takeFromDepot
  rw [q_gt 16 hc, Option.bind_some, h16, if_pos (by omega), Option.bind_some, e1, q_pt 16 _ hc, Option.bind_some, q_rf 15 hc1, Option.bind_some, q_gt 16 hc1, Option.bind_some, tV_set, if_pos ⟨rfl, rfl, rfl⟩, q_al hc1 hI.1 (show n < tL t a 15 by omega), Option.bind_some, Option.bind_some, Option.bind_some, q_rs hc1 hI.1 (show n < tL t a 15 by omega) (Or.inl (by decide)), Option.bind_some, tV_set, if_neg (fun q => by have := q.2.1; revert this; decide)]
theorem td_no (hc : tC t a = 1 + 1) (h16 : tV t a (gf 1 16) 0 = 0) : t_X1_takeFromDepot t (a : Int) = some (-1, t) := by
  unfold t_X1_takeFromDepot
  rw [q_gt 16 hc, Option.bind_some, h16, if_neg (by decide)]
/-- the cache's pointer to the last magazine of its depot goes -/
theorem aa_td (hA : AA t x b ca la sa mg N LS FL hz dz) (hc : Lv N c) (hd : dz c = n + 1) : AA (tset (tset t (ca c) (gf 1 16) 0 (n : Int)) (ca c) (gf 1 15) n (-1)) x b ca la sa mg N LS FL hz (fz dz c n) := by
  obtain ⟨hW, hM, hK, kP, kM, kZ, hT⟩ := hA
  have kC := hK.2.2.1
  have f1 := fe_trans (fe_set t (ca c) (gf 1 16) 0 (n : Int)) (fe_set (tset t (ca c) (gf 1 16) 0 (n : Int)) (ca c) (gf 1 15) n (-1))
  refine ⟨hW, hM, kk_mag (fe_sub f1 (by decide)) (fun _ _ _ => ⟨rfl, rfl⟩) (wr_gl hW.2.2.2.2.2) hK, fun d hd' => ?_, km_fe f1 (by decide) (by decide) kM, kz_fe f1 (by decide) kC kZ, f1.2.2 hT⟩
  obtain ⟨p1, p2, p3, p4⟩ := kP d hd'
  have c1 := (kC.1 d hd').1
  refine ⟨fun q hq => ?_, fun e he => ?_, ?_, ?_⟩
  · rw [fe_v f1 c1 (by decide), fe_v f1 c1 (by decide)]; exact p1 q hq
  · rw [tV_set]
    by_cases e1 : d = c
    · rw [e1, fz_same] at he
      rw [if_neg (fun q => by have := q.2.2; omega), tV_set, if_neg (fun q => by have := q.2.1; revert this; decide)]
      exact p2 e (by rw [e1, hd]; omega)
    · rw [fz_ne e1] at he
      rw [if_neg (fun q => e1 (ca_inj kC hd' hc q.1)), tV_set, if_neg (fun q => by have := q.2.1; revert this; decide)]
      exact p2 e he
  · rw [tV_set, if_neg (fun q => by have := q.2.1; revert this; decide), tV_set]
    by_cases e1 : d = c
    · rw [e1, if_pos ⟨rfl, rfl, rfl⟩, fz_same]
    · rw [if_neg (fun q => e1 (ca_inj kC hd' hc q.1)), fz_ne e1]
      exact p3
  · by_cases e1 : d = c
    · rw [e1, fz_same]; rw [e1] at p4; omega
    · rw [fz_ne e1]; exact p4
theorem ed_sg (hc : c < 8) (hd : n < 3) {tot : Int} : ∀ (k : Nat) (N N' : Mm) (m : Nat), k ≤ 4 → dr (64 + 3 * c + n) k N = some N' → g_X6_emptyDepot_b13 (m + k) N (c : Int) tot (((4 * n + k : Nat) : Int) - 1) = g_X6_emptyDepot_b13 m N' (c : Int) tot (((4 * n : Nat) : Int) - 1) := by
  intro k
  induction k with
  | zero => intro N N' m _ h; cases h; rfl
  | succ k ih =>
    intro N N' m h4 h
    have h' : Option.bind (g_X6_toSlab N (hv N (64 + 3 * c + n) k)) (fun r => dr (64 + 3 * c + n) k r.2) = some N' := h
    obtain ⟨r, e1, e2⟩ := bd h'
    show g_X6_emptyDepot_s13 (g_X6_emptyDepot_b13 (m + k)) N (c : Int) tot _ = _
    unfold g_X6_emptyDepot_s13
    have w4 : wr (12 * (c : Int)) = ((12 * c : Nat) : Int) := by
      rw [show 12 * (c : Int) = ((12 * c : Nat) : Int) by omega]; exact wn (by omega)
    have w5 : wr (((12 * c : Nat) : Int) + (((4 * n + (k + 1) : Nat) : Int) - 1)) = ((12 * c + 4 * n + k : Nat) : Int) := by
      rw [show ((12 * c : Nat) : Int) + (((4 * n + (k + 1) : Nat) : Int) - 1) = ((12 * c + 4 * n + k : Nat) : Int) by omega]; exact wn (by omega)
    have w6 : wr ((((4 * n + (k + 1) : Nat) : Int) - 1) + (-1)) = ((4 * n + k : Nat) : Int) - 1 := by
      rw [show (((4 * n + (k + 1) : Nat) : Int) - 1) + (-1) = ((4 * n + k : Nat) : Int) - 1 by omega]; exact wr_eq ⟨by omega, by omega⟩
    have e3 : N 26 (12 * c + 4 * n + k) = hv N (64 + 3 * c + n) k := by
      unfold hv
      rw [if_neg (by omega), show 4 * (64 + 3 * c + n - 64) + k = 12 * c + 4 * n + k by omega]
    rw [if_neg (by omega), w4, w5, q_mg (show 12 * c + 4 * n + k < mlen 26 by show _ < 96; omega), Option.bind_some, e3, e1, Option.bind_some, w6]
    exact ih r.2 N' m (by omega) e2
theorem em_rest (hc : tC t a = 1 + 1) (h16 : tV t a (gf 1 16) 0 = 0) {v : Int} : ∀ (n i m : Nat), i + n = 3 → n < m → t_X5_empty_b11 m t (x : Int) (a : Int) v (i : Int) = some (0, v, t) := by
  intro n
  induction n with
  | zero =>
    intro i m hi hm
    cases m with
    | zero => omega
    | succ m =>
      show t_X5_empty_s11 _ t (x : Int) (a : Int) v (i : Int) = _
      unfold t_X5_empty_s11
      rw [if_pos (by omega)]
  | succ n ih =>
    intro i m hi hm
    cases m with
    | zero => omega
    | succ m =>
      show t_X5_empty_s11 _ t (x : Int) (a : Int) v (i : Int) = _
      unfold t_X5_empty_s11 t_X5_empty_j37
      rw [if_neg (by omega), q_ck hc, Option.bind_some, td_no hc h16, Option.bind_some]
      dsimp only
      rw [if_pos (by decide), w1 (by omega)]
      exact ih (i + 1) m (by omega) (by omega)
theorem em_lp (hc8 : c < 8) {tot : Int} : ∀ (n i : Nat) (t : Th) (N : Mm) (LS FL : Nat → List Nat) (hz dz : Nat → Nat) (v m m' : Nat), AA t x b ca la sa mg N LS FL hz dz → Lv N c → dz c = n → (∀ d, d < n → hz (64 + 3 * c + d) = 4) → (∀ d, n ≤ d → d < 3 → hz (64 + 3 * c + d) = 0) → i + n ≤ 3 → v + 4 * n ≤ 100 → 3 < m + i → 4 * n < m' → ∃ t' N' LS' FL', t_X5_empty_b11 m t (x : Int) (ca c : Int) (v : Int) (i : Int) = some (0, ((v + 4 * n : Nat) : Int), t') ∧ g_X6_emptyDepot_b13 m' N (c : Int) tot (((4 * n : Nat) : Int) - 1) = some (tot, mup N' 25 c 0) ∧ AA t' x b ca la sa mg N' LS' FL' (fun s => if 64 + 3 * c ≤ s ∧ s < 64 + 3 * c + 3 then 0 else hz s) (fz dz c 0) ∧ (∀ b, b ≠ 16 → b ≠ 17 → b ≠ 18 → b ≠ 19 → b ≠ 21 → b ≠ 22 → N' b = N b) := by
  intro n
  induction n with
  | zero =>
    intro i t N LS FL hz dz v m m' hA hv hd h4 h0 hi hv1 hm hm'
    cases m' with
    | zero => omega
    | succ m' =>
      have kC := (hA.2.2.1.2.2.1.1 c hv).1
      have h16 := (hA.2.2.2.1 c hv).2.2.1
      rw [hd] at h16
      refine ⟨t, N, LS, FL, em_rest kC h16 (3 - i) i m (by omega) (by omega), ?_, ?_, fun _ _ _ _ _ _ _ => rfl⟩
      · show g_X6_emptyDepot_s13 _ N (c : Int) tot _ = _
        unfold g_X6_emptyDepot_s13
        rw [if_pos (by omega), q_ms (show c < mlen 25 from hc8), Option.bind_some]
      · have e1 : (fun s => if 64 + 3 * c ≤ s ∧ s < 64 + 3 * c + 3 then 0 else hz s) = hz := by
          funext s
          by_cases e : 64 + 3 * c ≤ s ∧ s < 64 + 3 * c + 3
          · rw [if_pos e]
            have := h0 (s - (64 + 3 * c)) (by omega) (by omega)
            rw [show 64 + 3 * c + (s - (64 + 3 * c)) = s by omega] at this
            exact this.symm
          · rw [if_neg e]
        have e2 : fz dz c 0 = dz := by
          funext d
          by_cases e : d = c
          · rw [e, fz_same, hd]
          · rw [fz_ne e]
        rw [e1, e2]; exact hA
  | succ n ih =>
    intro i t N LS FL hz dz v m m' hA hv hd h4 h0 hi hv1 hm hm'
    cases m with
    | zero => omega
    | succ m =>
      have kCc := hA.2.2.1.2.2.1.1 c hv
      obtain ⟨p1, p2, p3, p4⟩ := hA.2.2.2.1 c hv
      have e15 := p2 n (by omega)
      have hz4 := h4 n (by omega)
      have hA1 := aa_td hA hv hd
      have etd := td_eq (n := n) kCc.1 (by rw [p3, hd]) kCc.2.2.1.2.2.2 (by omega)
      rw [e15] at etd
      generalize ht1 : tset (tset t (ca c) (gf 1 16) 0 (n : Int)) (ca c) (gf 1 15) n (-1) = t1 at hA1 etd
      obtain ⟨t2, N2, LS2, FL2, y1, y2, y3, y4⟩ := unload_eq hA1 (s := 64 + 3 * c + n) (by omega) ⟨by omega, Or.inr (by omega)⟩
      rw [hz4] at y1 y2
      have hv2 : Lv N2 c := by unfold Lv; rw [y4 3 (by decide) (by decide) (by decide) (by decide) (by decide) (by decide), y4 4 (by decide) (by decide) (by decide) (by decide) (by decide) (by decide)]; exact hv
      obtain ⟨t', N', LS', FL', q1, q2, q3, q4⟩ := ih (i + 1) t2 N2 LS2 FL2 _ _ (v + 4) m (m' - 4) y3 hv2 (fz_same _ _ _) (fun d hd => by rw [fz_ne (by omega)]; exact h4 d (by omega)) (fun d h1 h2 => by
        by_cases e : d = n
        · rw [e, fz_same]
        · rw [fz_ne (by omega)]; exact h0 d (by omega) h2) (by omega) (by omega) (by omega) (by omega)
      refine ⟨t', N', LS', FL', ?_, ?_, ?_, fun b h1 h2 h3 h4 h5 h6 => (q4 b h1 h2 h3 h4 h5 h6).trans (y4 b h1 h2 h3 h4 h5 h6)⟩
      · show t_X5_empty_s11 _ t (x : Int) (ca c : Int) (v : Int) (i : Int) = _
        unfold t_X5_empty_s11 t_X5_empty_j37
        rw [if_neg (by omega), q_ck kCc.1, Option.bind_some, etd, Option.bind_some]
        dsimp only
        rw [if_neg (by omega), q_ck hA1.2.2.1.1.1, Option.bind_some, y1, Option.bind_some]
        dsimp only
        rw [w1 (by omega), wa (m := v) (n := 4) (by omega), q1]
        congr 3
        omega
      · have := ed_sg (n := n) hc8 (by omega) (tot := tot) 4 N N2 (m' - 4) (by omega) y2
        rw [show m' - 4 + 4 = m' by omega] at this
        rw [show 4 * (n + 1) = 4 * n + 4 by omega, this]
        exact q2
      · have e1 : (fun s => if 64 + 3 * c ≤ s ∧ s < 64 + 3 * c + 3 then 0 else fz hz (64 + 3 * c + n) 0 s) = (fun s => if 64 + 3 * c ≤ s ∧ s < 64 + 3 * c + 3 then 0 else hz s) := by
          funext s
          by_cases e : 64 + 3 * c ≤ s ∧ s < 64 + 3 * c + 3
          · rw [if_pos e, if_pos e]
          · rw [if_neg e, if_neg e, fz_ne (by omega)]
        have e2 : fz (fz dz c n) c 0 = fz dz c 0 := by
          funext d
          by_cases e : d = c
          · rw [e, fz_same, fz_same]
          · rw [fz_ne e, fz_ne e, fz_ne e]
        rw [e1, e2] at q3
        exact q3
theorem o_empty (h : CR x t N) (p0 : Int) : ∃ code rv t' bb N', t_X5_empty t (x : Int) p0 = some (code, rv, t') ∧ (code = 0 ∨ code = 1) ∧ g_X6_empty N p0 = some (bb, N') ∧ N' 0 0 = kL_empty code ∧ (code = 0 → bb = rv) ∧ CR x t' N' := by
  obtain ⟨b, ca, la, sa, mg, LS, FL, hz, dz, hA, hH⟩ := id h
  have hP := hA.1.1
  have kH := hA.2.2.1.1
  by_cases hcs : ∃ c : Nat, p0 = (c : Int) ∧ Lv N c
  · obtain ⟨c, rfl, hv⟩ := hcs
    have hc8 := lv8 hP hv
    have hA0 := aa_0 hA 0
    obtain ⟨z1, z2⟩ := hH.2 c hc8
    have hd3 := (hA.2.2.2.1 c hv).2.2.2
    obtain ⟨t', N', LS', FL', q1, q2, q3, q4⟩ := em_lp hc8 (tot := ((4 * dz c : Nat) : Int)) (dz c) 0 t (mup N 0 0 0) LS FL hz dz 0 fuel fuel hA0 hv rfl (fun d hd => by rw [z2 d (by omega), if_pos hd]) (fun d h1 h2 => by rw [z2 d h2, if_neg (by omega)]) (by omega) (by omega) (by decide) (by show _ < 40000; omega)
    rw [Nat.zero_add] at q1
    have e23 : N' 23 = N 23 := q4 23 (by decide) (by decide) (by decide) (by decide) (by decide) (by decide)
    have e25 : N' 25 = N 25 := q4 25 (by decide) (by decide) (by decide) (by decide) (by decide) (by decide)
    have e0 : N' 0 = (mup N 0 0 0) 0 := q4 0 (by decide) (by decide) (by decide) (by decide) (by decide) (by decide)
    refine ⟨0, ((4 * dz c : Nat) : Int), t', ((4 * dz c : Nat) : Int), mup N' 25 c 0, ?_, Or.inl rfl, ?_, ?_, fun _ => rfl, b, ca, la, sa, mg, LS', FL', _, _, aa_m (Or.inr (Or.inr rfl)) q3, ⟨fun s hs => ?_, fun d hd => ⟨?_, fun e he => ?_⟩⟩⟩
    · unfold t_X5_empty
      rw [q_ck kH.1, Option.bind_some, kc_y hP kH hv, Option.bind_some]
      dsimp only
      rw [if_pos rfl]
      exact q1
    · unfold g_X6_empty g_X6_empty_j14 g_X6_empty_j29 g_X6_emptyDepot
      have w4 : wr (4 * (dz c : Int)) = ((4 * dz c : Nat) : Int) := by
        rw [show 4 * (dz c : Int) = ((4 * dz c : Nat) : Int) by omega]; exact wn (by omega)
      rw [ic_y hP hv, Option.bind_some]
      dsimp only
      rw [if_neg (by decide), rf_0, Option.bind_some]
      dsimp only
      rw [if_pos rfl, q_mg (show c < mlen 25 from hc8), Option.bind_some, show (mup N 0 0 0) 25 c = N 25 c from rfl, z1, w4, wr_eq (z := ((4 * dz c : Nat) : Int) - 1) ⟨by omega, by omega⟩, q2, Option.bind_some]
    · show N' 0 0 = _
      rw [e0]; rfl
    · show N' 23 s = (((if 64 + 3 * c ≤ s ∧ s < 64 + 3 * c + 3 then 0 else hz s) : Nat) : Int)
      rw [e23, if_neg (by omega)]; exact hH.1 s hs
    · show (if 25 = 25 ∧ d = c then (0 : Int) else N' 25 d) = _
      by_cases e : d = c
      · rw [if_pos ⟨rfl, e⟩, e, fz_same]; rfl
      · rw [if_neg (fun q => e q.2), fz_ne e, e25]; exact (hH.2 d hd).1
    · show (if 64 + 3 * c ≤ 64 + 3 * d + e ∧ 64 + 3 * d + e < 64 + 3 * c + 3 then 0 else hz (64 + 3 * d + e)) = _
      by_cases e1 : d = c
      · rw [if_pos (by omega), e1, fz_same, if_neg (by omega)]
      · rw [if_neg (by omega), fz_ne e1]; exact (hH.2 d hd).2 e he
  · refine ⟨1, 0, t, 0, mup N 0 0 1, ?_, Or.inr rfl, ?_, rfl, fun q => (by omega), cr_0 h 1⟩
    · unfold t_X5_empty
      rw [q_ck kH.1, Option.bind_some, kc_n kH hcs, Option.bind_some]
      dsimp only
      rw [if_neg (by decide)]
    · unfold g_X6_empty g_X6_empty_j14 g_X6_empty_j29
      rw [ic_n hP hcs, Option.bind_some]
      dsimp only
      rw [if_pos rfl, rf_p _ (by decide), Option.bind_some]
      dsimp only
      rw [if_neg (by decide)]
end
