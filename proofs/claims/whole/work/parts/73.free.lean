/-! both sides: free -/
/-- a new magazine -/
theorem newMag {t : Th} : ∃ t2, t_X2_init (tnw t 2) ((tN t : Nat) : Int) = some (0, t2) ∧ tck (tnw t 2) 2 ((tN t : Nat) : Int) = some () ∧ Nw t t2 (tN t) ∧ tN t2 = tN t + 2 ∧ tC t2 (tN t) = 2 + 1 ∧ (0 ≤ tI t2 (tN t) 0 ∧ tL t2 (tN t) 0 = 4) ∧ tV t2 (tN t) (gf 2 1) 0 = 0 := by
  have hC : tC (tnw t 2) (tN t) = 2 + 1 := by rw [tC_nw, if_pos rfl]
  refine ⟨tarr (tnw t 2) (tN t) 2 0 4 (fun _ => if akd 2 0 ≤ 10 then 0 else -1), ?_, q_ck hC, ⟨?_, fun a ha => ⟨?_, fun k => ⟨?_, ?_⟩, fun j i => ?_⟩⟩, ?_, ?_, ⟨?_, ?_⟩, ?_⟩
  · unfold t_X2_init
    rw [q_ck hC, Option.bind_some, show (4 : Int) = ((4 : Nat) : Int) from rfl, q_an hC (Nat.le_refl _), Option.bind_some]
  · rw [tN_ar, tN_nw]; omega
  · rw [tC_ar, tC_nw, if_neg ha]
  · rw [tI_ar, if_neg (fun q => ha q.1), tI_nw, if_neg ha]
  · rw [tL_ar, if_neg (fun q => ha q.1), tL_nw, if_neg ha]
  · rw [tV_ar, if_neg (fun q => ha q.1), tV_nw, if_neg ha]
  · rw [tN_ar, tN_nw]
  · rw [tC_ar]; exact hC
  · rw [tI_ar, if_pos ⟨rfl, rfl⟩]; omega
  · rw [tL_ar, if_pos ⟨rfl, rfl⟩]
  · simp [tV_ar, tV_nw, gf, rfT, tyTab]
section
variable {t t' t1 t3 : Th} {x b : Nat} {ca la sa mg mg' : Nat → Nat} {N N' N0 N1 N3 : Mm} {LS FL : Nat → List Nat} {hz dz hz' dz' τ : Nat → Nat} {p i l c k s n a m q d u : Nat}
theorem if_y (hc : tC t a = 2 + 1) (hn : tV t a (gf 2 1) 0 = (n : Int)) (h : n < 4) : t_X2_isFull t (a : Int) = some (0, t) := by
  unfold t_X2_isFull t_X2_isFull_j13 rtT
  rw [q_gt 1 hc, Option.bind_some, hn, if_pos (by omega), if_pos (Or.inl rfl)]
theorem if_n (hc : tC t a = 2 + 1) (hn : tV t a (gf 2 1) 0 = (n : Int)) (h : ¬ n < 4) : t_X2_isFull t (a : Int) = some (1, t) := by
  unfold t_X2_isFull t_X2_isFull_j13 rtT
  rw [q_gt 1 hc, Option.bind_some, hn, if_neg (by omega), if_pos (Or.inr rfl)]
theorem fr_lp {uu : Int} (hm : m < 63) (hc : c < 8) (hd : d < 3) (h25 : N 25 c = (d : Int)) : ∀ (n k mm : Nat), k + n = 4 → n < mm → g_X6_free_b142 mm (msA N 26 (cpr (N 26) (N 24) (12 * c + 4 * d) (4 * m + 4) k)) uu (c : Int) (m : Int) (k : Int) = Option.bind (g_X6_swap (mup (mup (msA N 26 (cpr (N 26) (N 24) (12 * c + 4 * d) (4 * m + 4) 4)) 25 c ((d + 1 : Nat) : Int)) 23 (m + 1) 0) (m : Int)) fun r44 => g_X6_free_j218 r44.2 uu (c : Int) (m : Int) := by
  intro n
  induction n with
  | zero =>
    intro k mm hk hmm
    cases mm with
    | zero => omega
    | succ mm =>
      have e4 : k = 4 := by omega
      subst e4
      have g25 : (msA N 26 (cpr (N 26) (N 24) (12 * c + 4 * d) (4 * m + 4) 4)) 25 c = (d : Int) := by rw [msA_ne (by decide)]; exact h25
      show g_X6_free_s142 _ _ uu (c : Int) (m : Int) _ = _
      unfold g_X6_free_s142
      rw [if_pos (by decide), q_mg (show c < mlen 25 from hc), Option.bind_some, g25, w1 (by omega), q_ms (show c < mlen 25 from hc), Option.bind_some, w1 (by omega), q_ms (show m + 1 < mlen 23 by show _ < 64; omega), Option.bind_some]
  | succ n ih =>
    intro k mm hk hmm
    cases mm with
    | zero => omega
    | succ mm =>
      have g25 : (msA N 26 (cpr (N 26) (N 24) (12 * c + 4 * d) (4 * m + 4) k)) 25 c = (d : Int) := by rw [msA_ne (by decide)]; exact h25
      have g24 : (msA N 26 (cpr (N 26) (N 24) (12 * c + 4 * d) (4 * m + 4) k)) 24 = N 24 := msA_ne (by decide)
      show g_X6_free_s142 _ _ uu (c : Int) (m : Int) (k : Int) = _
      unfold g_X6_free_s142
      rw [if_neg (by omega), q_mg (show c < mlen 25 from hc), Option.bind_some, g25, w12 hc hd (by omega), w4m (by omega), w44 (by omega), wa (by omega), q_mg (show 4 * m + 4 + k < mlen 24 by show _ < 256; omega), Option.bind_some, g24, q_ms (show 12 * c + 4 * d + k < mlen 26 by show _ < 96; omega), Option.bind_some, w1 (by omega), mup_msA, msA_msA, msA_same, cpr_s]
      exact ih (k + 1) mm (by omega) (by omega)
/-- both are full, the depot isn't -/
theorem dput_pair {addr uu : Int} (hB : AB t x b ca la sa mg N LS FL hz dz) (hH : HZ N hz dz) (hc : Lv N c) (hq : q < 4) (h0 : hz (2 * (8 * q + c)) = 4) (h1 : hz (2 * (8 * q + c) + 1) = 4) (hd : dz c < 3) : ∃ t' N' mg' hz' dz', t_X1_putIntoMagazines t (ca c : Int) (q : Int) addr = t_X1_putIntoMagazines_j90 t' (ca c : Int) (q : Int) addr ∧ g_X6_free_b142 fuel N uu (c : Int) ((2 * (8 * q + c) : Nat) : Int) 0 = g_X6_free_j218 N' uu (c : Int) ((2 * (8 * q + c) : Nat) : Int) ∧ AB t' x b ca la sa mg' N' LS FL hz' dz' ∧ HZ N' hz' dz' ∧ Mo N N' ∧ Fe t t' [gf 1 13, gf 1 14, gf 1 15, gf 1 16, gf 2 0, gf 2 1] := by
  have hc8 := lv8 hB.1.1 hc
  obtain ⟨hW, hM, hK, kP, kM, hT⟩ := id hB
  have kC := hK.2.2.1
  have kCc := kC.1 c hc
  obtain ⟨p1, p2, p3, p4⟩ := kP c hc
  have pr0 := pr_m (hz := hz) hc8 hc (q := q) (e := 0) hq (by omega)
  have pr1 := pr_m (hz := hz) hc8 hc (q := q) (e := 1) hq (by omega)
  rw [Nat.add_zero] at pr0
  have r0 := kM.1 _ pr0
  have r1 := kM.1 _ pr1
  obtain ⟨z1, z2⟩ := hH.2 c hc8
  have l13 : q < tL t (ca c) 13 := by rw [kCc.2.2.1.2.1.2]; exact hq
  have l14 : q < tL t (ca c) 14 := by rw [kCc.2.2.1.2.2.1.2]; exact hq
  have l15 : dz c < tL t (ca c) 15 := by rw [kCc.2.2.1.2.2.2.2]; exact hd
  have hA0 : tC t (tN t) = 0 := by
    rcases Nat.eq_zero_or_pos (tC t (tN t)) with e | e
    · exact e
    · have := hT (tN t) (by omega)
      omega
  have hcA : ∀ a, tC t a ≠ 0 → a ≠ tN t := fun a ha e => ha (by rw [e]; exact hA0)
  generalize hm : 2 * (8 * q + c) = m at *
  generalize hdd : dz c = d at *
  have hm63 : m < 63 := by omega
  have fa := fe_trans (fe_trans (fe_set t (ca c) (gf 1 15) d (mg (m + 1) : Int)) (fe_set (tset t (ca c) (gf 1 15) d (mg (m + 1) : Int)) (ca c) (gf 1 16) 0 ((d + 1 : Nat) : Int))) (fe_set (tset (tset t (ca c) (gf 1 15) d (mg (m + 1) : Int)) (ca c) (gf 1 16) 0 ((d + 1 : Nat) : Int)) (ca c) (gf 1 14) q (mg m : Int))
  have Cc : tC (tset (tset (tset t (ca c) (gf 1 15) d (mg (m + 1) : Int)) (ca c) (gf 1 16) 0 ((d + 1 : Nat) : Int)) (ca c) (gf 1 14) q (mg m : Int)) = tC t := rfl
  have Ic : tI (tset (tset (tset t (ca c) (gf 1 15) d (mg (m + 1) : Int)) (ca c) (gf 1 16) 0 ((d + 1 : Nat) : Int)) (ca c) (gf 1 14) q (mg m : Int)) = tI t := rfl
  have Lc : tL (tset (tset (tset t (ca c) (gf 1 15) d (mg (m + 1) : Int)) (ca c) (gf 1 16) 0 ((d + 1 : Nat) : Int)) (ca c) (gf 1 14) q (mg m : Int)) = tL t := rfl
  have Nc : tN (tset (tset (tset t (ca c) (gf 1 15) d (mg (m + 1) : Int)) (ca c) (gf 1 16) 0 ((d + 1 : Nat) : Int)) (ca c) (gf 1 14) q (mg m : Int)) = tN t := rfl
  have Vc : ∀ a j i, tV (tset (tset (tset t (ca c) (gf 1 15) d (mg (m + 1) : Int)) (ca c) (gf 1 16) 0 ((d + 1 : Nat) : Int)) (ca c) (gf 1 14) q (mg m : Int)) a j i = if a = ca c ∧ j = gf 1 14 ∧ i = q then (mg m : Int) else if a = ca c ∧ j = gf 1 16 ∧ i = 0 then ((d + 1 : Nat) : Int) else if a = ca c ∧ j = gf 1 15 ∧ i = d then (mg (m + 1) : Int) else tV t a j i := fun a j i => rfl
  have hcl : ∀ (h : Option (Int × Th)), (∀ t2, t_X2_init (tnw (tset (tset (tset t (ca c) (gf 1 15) d (mg (m + 1) : Int)) (ca c) (gf 1 16) 0 ((d + 1 : Nat) : Int)) (ca c) (gf 1 14) q (mg m : Int)) 2) ((tN t : Nat) : Int) = some (0, t2) → tI t2 (ca c) = tI t (ca c) → tL t2 (ca c) = tL t (ca c) → tC t2 (ca c) = 1 + 1 → tC t2 (tN t) = 2 + 1 → t_X1_putIntoMagazines_j90 (tset t2 (ca c) (gf 1 13) q (tN t : Int)) (ca c : Int) (q : Int) addr = h) → (∃ t2, t_X2_init (tnw (tset (tset (tset t (ca c) (gf 1 15) d (mg (m + 1) : Int)) (ca c) (gf 1 16) 0 ((d + 1 : Nat) : Int)) (ca c) (gf 1 14) q (mg m : Int)) 2) ((tN t : Nat) : Int) = some (0, t2) ∧ tck (tnw (tset (tset (tset t (ca c) (gf 1 15) d (mg (m + 1) : Int)) (ca c) (gf 1 16) 0 ((d + 1 : Nat) : Int)) (ca c) (gf 1 14) q (mg m : Int)) 2) 2 ((tN t : Nat) : Int) = some () ∧ tI t2 (ca c) = tI t (ca c) ∧ tL t2 (ca c) = tL t (ca c) ∧ tC t2 (ca c) = 1 + 1 ∧ tC t2 (tN t) = 2 + 1) → t_X1_putIntoMagazines t (ca c : Int) (q : Int) addr = h := by
    intro h hh hex
    obtain ⟨t2, i1, i2, i3, i4, i5, i6⟩ := hex
    rw [← hh t2 i1 i3 i4 i5 i6]
    unfold t_X1_putIntoMagazines
    have c15 : tC (tset t (ca c) (gf 1 15) d (mg (m + 1) : Int)) (ca c) = 1 + 1 := kCc.1
    have c16 : tC (tset (tset t (ca c) (gf 1 15) d (mg (m + 1) : Int)) (ca c) (gf 1 16) 0 ((d + 1 : Nat) : Int)) (ca c) = 1 + 1 := kCc.1
    have c14 : tC (tset (tset (tset t (ca c) (gf 1 15) d (mg (m + 1) : Int)) (ca c) (gf 1 16) 0 ((d + 1 : Nat) : Int)) (ca c) (gf 1 14) q (mg m : Int)) (ca c) = 1 + 1 := kCc.1
    have v16 : tV (tset t (ca c) (gf 1 15) d (mg (m + 1) : Int)) (ca c) (gf 1 16) 0 = (d : Int) := by
      rw [tV_set, if_neg (fun z => by have := z.2.1; revert this; decide)]; exact p3
    have v13 : tV (tset (tset t (ca c) (gf 1 15) d (mg (m + 1) : Int)) (ca c) (gf 1 16) 0 ((d + 1 : Nat) : Int)) (ca c) (gf 1 13) q = (mg m : Int) := by
      rw [tV_set, if_neg (fun z => by have := z.2.1; revert this; decide), tV_set, if_neg (fun z => by have := z.2.1; revert this; decide), (p1 q hq).1, hm]
    have x1 := (p1 q hq).1
    have x2 := (p1 q hq).2
    rw [hm] at x1 x2
    rw [q_rf 13 kCc.1, Option.bind_some, q_al kCc.1 kCc.2.2.1.2.1.1 l13, Option.bind_some, x1, q_ck r0.1, Option.bind_some, if_n r0.1 r0.2.2.1 (by omega), Option.bind_some]
    dsimp only
    rw [if_neg (by decide), q_rf 14 kCc.1, Option.bind_some, q_al kCc.1 kCc.2.2.1.2.2.1.1 l14, Option.bind_some, x2, q_ck r1.1, Option.bind_some, if_n r1.1 r1.2.2.1 (by omega), Option.bind_some]
    dsimp only
    rw [if_pos (by decide), q_gt 16 kCc.1, Option.bind_some, p3, if_neg (by omega), q_rf 15 kCc.1, Option.bind_some, Option.bind_some, q_rf 14 kCc.1, Option.bind_some, q_al kCc.1 kCc.2.2.1.2.2.1.1 l14, Option.bind_some, x2, q_rs (x := (mg (m + 1) : Int)) kCc.1 kCc.2.2.1.2.2.2.1 l15 (Or.inr r1.1), Option.bind_some, q_gt 16 c15, Option.bind_some, v16, w1 (by omega), q_pt 16 _ c15, Option.bind_some, q_rf 14 c16, Option.bind_some, q_rf 13 c16, Option.bind_some, q_al c16 kCc.2.2.1.2.1.1 l13, Option.bind_some, v13, q_rs (x := (mg m : Int)) c16 kCc.2.2.1.2.2.1.1 l14 (Or.inr r0.1), Option.bind_some, q_rf 13 c14, Option.bind_some, q_no, Option.bind_some, Nc, i2, Option.bind_some, i1, Option.bind_some]
    dsimp only
    rw [Ic, ← i3, q_rs (x := ((tN t : Nat) : Int)) i5 (by rw [i3]; exact kCc.2.2.1.2.1.1) (by rw [i4]; exact l13) (Or.inr (by rw [Int.toNat_natCast]; exact i6)), Option.bind_some]
  generalize htc : tset (tset (tset t (ca c) (gf 1 15) d (mg (m + 1) : Int)) (ca c) (gf 1 16) 0 ((d + 1 : Nat) : Int)) (ca c) (gf 1 14) q (mg m : Int) = tc at *
  obtain ⟨t2, i1, i2, i3, i4, i5, i6, i7⟩ := newMag (t := tc)
  rw [Nc] at i1 i2 i3 i4 i5 i6 i7
  have hcc : ca c ≠ tN t := hcA _ (by rw [kCc.1]; decide)
  obtain ⟨j1, j2, j3⟩ := i3.2 (ca c) hcc
  have j4 : tI t2 (ca c) = tI t (ca c) := by funext k; rw [(j2 k).1, Ic]
  have j5 : tL t2 (ca c) = tL t (ca c) := by funext k; rw [(j2 k).2, Lc]
  have evT := hcl _ (fun t2' w1 _ _ _ _ => by rw [i1] at w1; cases w1; rfl) ⟨t2, i1, i2, j4, j5, by rw [j1, Cc]; exact kCc.1, i5⟩
  have fb : Fe tc t2 [] := nw_fe i3 (by rw [Cc]; exact hA0) (by rw [i4]; omega) []
  have f2 := fe_trans (fe_trans fa fb) (fe_set t2 (ca c) (gf 1 13) q ((tN t : Nat) : Int))
  have V2 : ∀ a j i, a ≠ tN t → tV (tset t2 (ca c) (gf 1 13) q ((tN t : Nat) : Int)) a j i = if a = ca c ∧ j = gf 1 13 ∧ i = q then ((tN t : Nat) : Int) else tV tc a j i := fun a j i ha => by
    rw [tV_set, (i3.2 a ha).2.2]
  -- the reference
  have hMo : ∃ N', g_X6_free_b142 fuel N uu (c : Int) (m : Int) 0 = g_X6_free_j218 N' uu (c : Int) (m : Int) ∧ Mo N N' ∧ N' 24 = swp (N 24) m 4 ∧ N' 23 = fu (fu (fu (N 23) (m + 1) 0) m 0) (m + 1) (N 23 m) ∧ N' 25 = fu (N 25) c ((d + 1 : Nat) : Int) ∧ N' 26 = cpr (N 26) (N 24) (12 * c + 4 * d) (4 * m + 4) 4 := by
    have := fr_lp (N := N) (uu := uu) (m := m) hm63 hc8 hd z1 4 0 fuel rfl (by decide)
    rw [cpr_0, msA_id] at this
    have hx : ∀ Na : Mm, g_X6_swap Na (m : Int) = _ := fun Na => sw_eq Na hm63
    rw [hx, Option.bind_some] at this
    dsimp only at this
    refine ⟨_, this, fun b h1 h2 h3 h4 => ?_, ?_, ?_, ?_, ?_⟩
    · rw [msA_ne h1, msA_ne h2, mup_msA, msA_ne h1, mup_msA, msA_ne h3, msA_ne h4]
    · rw [msA_ne (by decide), msA_same, mup_msA, msA_ne (by decide), mup_msA, msA_ne (by decide), msA_ne (by decide)]
    · rw [msA_same, mup_msA, msA_same, mup_msA, msA_ne (by decide), msA_ne (by decide), fu_same, fu_ne (by omega)]
    · rw [msA_ne (by decide), msA_ne (by decide), mup_msA, msA_ne (by decide), mup_msA, msA_same, msA_ne (by decide)]
    · rw [msA_ne (by decide), msA_ne (by decide), mup_msA, msA_ne (by decide), mup_msA, msA_ne (by decide), msA_same]
  obtain ⟨N', evG, hMo, g24, g23, g25, g26⟩ := hMo
  have hlv := ep_lv (mo_ep hMo)
  have hz0 : ∀ s, fz (fz (fz hz (64 + 3 * c + d) 4) (m + 1) 4) m 0 s = if s = m then 0 else if s = m + 1 then 4 else if s = 64 + 3 * c + d then 4 else hz s := fun s => rfl
  have mg0 : ∀ s, fz (fz (fz mg (64 + 3 * c + d) (mg (m + 1))) (m + 1) (mg m)) m (tN t) s = if s = m then tN t else if s = m + 1 then mg m else if s = 64 + 3 * c + d then mg (m + 1) else mg s := fun s => rfl
  have hτ : ∀ s, (if s = m + 1 then m else if s = 64 + 3 * c + d then m + 1 else s) = if s = m + 1 then m else if s = 64 + 3 * c + d then m + 1 else s := fun s => rfl
  have hhv : ∀ s k, s ≠ m → k < 4 → hv N' s k = hv N (if s = m + 1 then m else if s = 64 + 3 * c + d then m + 1 else s) k := fun s k hs hk => by
    unfold hv
    by_cases e1 : s = m + 1
    · rw [if_pos (by omega), if_pos e1, if_pos (by omega), g24]
      unfold swp
      rw [if_neg (by omega), if_pos (by omega)]
      congr 1; omega
    · rw [if_neg e1]
      by_cases e2 : s = 64 + 3 * c + d
      · rw [if_neg (by omega), if_pos e2, if_pos (by omega), g26]
        unfold cpr
        rw [if_pos (by omega)]
        congr 1; omega
      · rw [if_neg e2]
        by_cases e : s < 64
        · rw [if_pos e, if_pos e, g24]
          unfold swp
          rw [if_neg (by omega), if_neg (by omega)]
        · rw [if_neg e, if_neg e, g26]
          unfold cpr
          rw [if_neg (by omega)]
  have h4 : ∀ s, s < 88 → hz s ≤ 4 := fun s hs => (hM.1 s hs).1
  have hzn : ∀ s, s < 88 → s ≠ m → fz (fz (fz hz (64 + 3 * c + d) 4) (m + 1) 4) m 0 s = hz (if s = m + 1 then m else if s = 64 + 3 * c + d then m + 1 else s) := fun s hs hne => by
    rw [hz0, if_neg hne]
    by_cases e1 : s = m + 1
    · rw [if_pos e1, if_pos e1, h0]
    · rw [if_neg e1, if_neg e1]
      by_cases e2 : s = 64 + 3 * c + d
      · rw [if_pos e2, if_pos e2, h1]
      · rw [if_neg e2, if_neg e2]
  have hsm : ∀ s, s < 88 → s ≠ m → (if s = m + 1 then m else if s = 64 + 3 * c + d then m + 1 else s) < 88 ∧ cs (if s = m + 1 then m else if s = 64 + 3 * c + d then m + 1 else s) = cs s ∧ (s ≠ m + 1 → s ≠ 64 + 3 * c + d → (if s = m + 1 then m else if s = 64 + 3 * c + d then m + 1 else s) = s) := fun s hs hne => by
    by_cases e1 : s = m + 1
    · rw [if_pos e1]
      exact ⟨by omega, by unfold cs; rw [if_pos (by omega), if_pos (by omega)]; omega, fun z => absurd e1 z⟩
    · rw [if_neg e1]
      by_cases e2 : s = 64 + 3 * c + d
      · rw [if_pos e2]
        exact ⟨by omega, by unfold cs; rw [if_pos (by omega), if_neg (by omega)]; omega, fun _ z => absurd e2 z⟩
      · rw [if_neg e2]; exact ⟨hs, rfl, fun _ _ => rfl⟩
  have hinj : ∀ s s', s ≠ m → s' ≠ m → (if s = m + 1 then m else if s = 64 + 3 * c + d then m + 1 else s) = (if s' = m + 1 then m else if s' = 64 + 3 * c + d then m + 1 else s') → s = s' := fun s s' h1 h2 e => by
    split at e <;> split at e <;> (try split at e) <;> (try split at e) <;> omega
  have hprs : ∀ s, s ≠ m → Pr N' (fz (fz (fz hz (64 + 3 * c + d) 4) (m + 1) 4) m 0) s → Pr N hz (if s = m + 1 then m else if s = 64 + 3 * c + d then m + 1 else s) := fun s hne hs => by
    obtain ⟨w1, w2⟩ := hs
    refine ⟨(hsm s w1 hne).1, ?_⟩
    rw [hzn s w1 hne, hlv] at w2
    by_cases e1 : s = m + 1
    · rw [if_pos e1, h0]; exact Or.inr (by omega)
    · by_cases e2 : s = 64 + 3 * c + d
      · rw [if_neg e1, if_pos e2, h1]; exact Or.inr (by omega)
      · rw [(hsm s w1 hne).2.2 e1 e2] at w2 ⊢; exact w2
  have hmgn : ∀ s, s ≠ m → fz (fz (fz mg (64 + 3 * c + d) (mg (m + 1))) (m + 1) (mg m)) m (tN t) s = mg (if s = m + 1 then m else if s = 64 + 3 * c + d then m + 1 else s) := fun s hne => by
    rw [mg0, if_neg hne]
    by_cases e1 : s = m + 1
    · rw [if_pos e1, if_pos e1]
    · rw [if_neg e1, if_neg e1]
      by_cases e2 : s = 64 + 3 * c + d
      · rw [if_pos e2, if_pos e2]
      · rw [if_neg e2, if_neg e2]
  refine ⟨_, N', fz (fz (fz mg (64 + 3 * c + d) (mg (m + 1))) (m + 1) (mg m)) m (tN t), fz (fz (fz hz (64 + 3 * c + d) 4) (m + 1) 4) m 0, fz dz c (d + 1), evT, evG, ab_mag hB hMo (fe_sub f2 (by decide)) (fun a k ha => ?_) (wm_mv (τ := fun s => if s = m + 1 then m else if s = 64 + 3 * c + d then m + 1 else s) hMo hM (fun s hs hp => ?_) (fun s s' hs hs' hp hp' e => ?_)) (fun d' hd' => ?_) ⟨fun s hs => ?_, fun s s' hs hs' e => ?_⟩, ⟨fun s hs => ?_, fun d' hd' => ⟨?_, fun e he => ?_⟩⟩, hMo, fe_sub f2 (by decide)⟩
  · have hne : a ≠ tN t := hcA a (by rw [ha]; decide)
    rw [tI_set, tL_set, ((i3.2 a hne).2.1 k).1, ((i3.2 a hne).2.1 k).2, Ic, Lc]
    exact ⟨rfl, rfl⟩
  · have hne : s ≠ m := fun e => by rw [hz0, if_pos e] at hp; omega
    obtain ⟨w1, w2, w3⟩ := hsm s hs hne
    refine ⟨w1, w2, by rw [hzn s hs hne]; exact Nat.le_refl _, fun k hk => hhv s k hne ?_⟩
    rw [hzn s hs hne] at hk
    have := h4 _ w1
    omega
  · exact hinj s s' (fun e => by rw [hz0, if_pos e] at hp; omega) (fun e => by rw [hz0, if_pos e] at hp'; omega) e
  · rw [hlv] at hd'
    have hd8 := lv8 hW.1 hd'
    obtain ⟨y1, y2, y3, y4⟩ := kP d' hd'
    have cd := (kC.1 d' hd').1
    have cdn : ca d' ≠ tN t := hcA _ (by rw [cd]; decide)
    have inj : ca d' = ca c → d' = c := fun z => ca_inj kC hd' hc z
    refine ⟨fun q' hq' => ⟨?_, ?_⟩, fun e he => ?_, ?_, ?_⟩
    · rw [V2 _ _ _ cdn]
      by_cases e : d' = c ∧ q' = q
      · rw [if_pos ⟨by rw [e.1], rfl, e.2⟩, e.1, e.2, hm, mg0, if_pos rfl]
      · rw [if_neg (fun z => e ⟨inj z.1, z.2.2⟩), Vc, if_neg (fun z => by have := z.2.1; revert this; decide), if_neg (fun z => by have := z.2.1; revert this; decide), if_neg (fun z => by have := z.2.1; revert this; decide), mg0, if_neg (by omega), if_neg (by omega), if_neg (by omega)]
        exact (y1 q' hq').1
    · rw [V2 _ _ _ cdn, if_neg (fun z => by have := z.2.1; revert this; decide), Vc]
      by_cases e : d' = c ∧ q' = q
      · rw [if_pos ⟨by rw [e.1], rfl, e.2⟩, e.1, e.2, hm, mg0, if_neg (by omega), if_pos rfl]
      · rw [if_neg (fun z => e ⟨inj z.1, z.2.2⟩), if_neg (fun z => by have := z.2.1; revert this; decide), if_neg (fun z => by have := z.2.1; revert this; decide), mg0, if_neg (by omega), if_neg (by omega), if_neg (by omega)]
        exact (y1 q' hq').2
    · rw [show fz (fz (fz mg (64 + 3 * c + d) (mg (m + 1))) (m + 1) (mg m)) m (tN t) (64 + 3 * d' + e) = if 64 + 3 * d' + e = 64 + 3 * c + d then mg (m + 1) else mg (64 + 3 * d' + e) by rw [mg0, if_neg (by omega), if_neg (by omega)], V2 _ _ _ cdn, if_neg (fun z => by have := z.2.1; revert this; decide), Vc, if_neg (fun z => by have := z.2.1; revert this; decide), if_neg (fun z => by have := z.2.1; revert this; decide)]
      by_cases e1 : d' = c
      · rw [e1, fz_same] at he
        by_cases e2 : e = d
        · rw [if_pos ⟨by rw [e1], rfl, e2⟩, if_pos (by omega)]
        · rw [if_neg (fun z => e2 z.2.2), if_neg (by omega)]
          exact y2 e (by rw [e1, hdd]; omega)
      · rw [fz_ne e1] at he
        have hde : dz d' ≤ 3 := y4
        rw [if_neg (fun z => e1 (inj z.1)), if_neg (by omega)]
        exact y2 e he
    · rw [V2 _ _ _ cdn, if_neg (fun z => by have := z.2.1; revert this; decide), Vc, if_neg (fun z => by have := z.2.1; revert this; decide)]
      by_cases e1 : d' = c
      · rw [if_pos ⟨by rw [e1], rfl, rfl⟩, e1, fz_same]
      · rw [if_neg (fun z => e1 (inj z.1)), if_neg (fun z => e1 (inj z.1)), fz_ne e1]
        exact y3
    · by_cases e1 : d' = c
      · rw [e1, fz_same]; omega
      · rw [fz_ne e1]; exact y4
  · by_cases e : s = m
    · rw [e, mg0, if_pos rfl, hz0, if_pos rfl]
      refine ⟨i5, i6, ?_, fun k hk => by omega⟩
      rw [tV_set, if_neg (fun z => hcc z.1.symm)]
      exact i7
    · obtain ⟨b1, b2, b3, b4⟩ := kM.1 _ (hprs s e hs)
      have w1 := (hsm s hs.1 e).1
      rw [hmgn s e, hzn s hs.1 e]
      have bn := hcA _ (show tC t (mg (if s = m + 1 then m else if s = 64 + 3 * c + d then m + 1 else s)) ≠ 0 by rw [b1]; decide)
      refine ⟨fe_c f2 b1, ?_, ?_, fun k hk => ?_⟩
      · rw [fe_i f2 b1 (by decide), fe_l f2 b1 (by decide)]; exact b2
      · rw [fe_v f2 b1 (by decide)]; exact b3
      · rw [fe_v f2 b1 (by decide), hhv s k e (by have := h4 _ w1; omega)]; exact b4 k hk
  · by_cases e1 : s = m <;> by_cases e2 : s' = m
    · omega
    · exfalso
      have b1 := (kM.1 _ (hprs s' e2 hs')).1
      rw [e1, mg0, if_pos rfl, hmgn s' e2] at e
      exact hcA _ (by rw [b1]; decide) e.symm
    · exfalso
      have b1 := (kM.1 _ (hprs s e1 hs)).1
      rw [e2, hmgn s e1, mg0, if_pos rfl] at e
      exact hcA _ (by rw [b1]; decide) e
    · rw [hmgn s e1, hmgn s' e2] at e
      exact hinj s s' e1 e2 (kM.2 _ _ (hprs s e1 hs) (hprs s' e2 hs') e)
  · rw [g23, hz0]
    have s1 := hH.1 m (by omega)
    rw [h0] at s1
    by_cases e1 : s = m
    · rw [e1, fu_ne (by omega), fu_same, if_pos rfl]; rfl
    · rw [if_neg e1]
      by_cases e2 : s = m + 1
      · rw [e2, fu_same, if_pos rfl]; exact s1
      · rw [fu_ne e2, fu_ne e1, fu_ne e2, if_neg e2, if_neg (by omega)]; exact hH.1 s hs
  · rw [g25]
    by_cases e1 : d' = c
    · rw [e1, fu_same, fz_same]
    · rw [fu_ne e1, fz_ne e1]; exact (hH.2 d' hd').1
  · rw [hz0, if_neg (by omega), if_neg (by omega)]
    have := (hH.2 d' hd').2 e he
    by_cases e1 : d' = c
    · rw [e1, fz_same]
      rw [e1, hdd] at this
      by_cases e2 : e = d
      · rw [if_pos (by omega), if_pos (by omega)]
      · rw [if_neg (by omega), this]
        by_cases e3 : e < d
        · rw [if_pos (by omega), if_pos (by omega)]
        · rw [if_neg (by omega), if_neg (by omega)]
    · rw [fz_ne e1, if_neg (by omega)]; exact this
end
