/-! a cache is told: both sides -/
def mc (N : Mm) (c : Nat) (v5 v6 v7 v8 v9 v10 v11 : Int) : Mm := mup (mup (mup (mup (mup (mup (mup (mup N 5 c v5) 6 c v6) 7 c v7) 8 c v8) 9 c v9) 10 c v10) 11 c v11) 3 0 ((c + 1 : Nat) : Int)
def laC (L la : Nat → Nat) (c : Nat) : Nat → Nat := fun l => if l / 3 = c then L (l % 3) else la l
def mgC (M mg : Nat → Nat) (c : Nat) : Nat → Nat := fun s => if s < 64 ∧ cs s = c then M (2 * (s / 16) + s % 2) else mg s
theorem lc_zero {N : Mm} {c : Nat} : ∀ n, (∀ u, u < n → ¬ (N 18 u = 2 ∧ N 14 (N 2 (u / 128)).toNat = (c : Int))) → lc N c n = 0 := by
  intro n
  induction n with
  | zero => intro _; rfl
  | succ n ih =>
    intro h
    unfold lc
    rw [ih (fun u hu => h u (by omega)), if_neg (h n (by omega))]
section
variable {t t2 : Th} {x b : Nat} {ca la sa mg : Nat → Nat} {N : Mm} {LS FL : Nat → List Nat} {hz dz L M : Nat → Nat} {F : Nat → Int} {p i l c k s n d : Nat} {v5 v6 v7 v8 v9 v10 v11 : Int}
theorem laC_y (h : l / 3 = c) : laC L la c l = L (l % 3) := if_pos h
theorem laC_n (h : ¬ l / 3 = c) : laC L la c l = la l := if_neg h
theorem mgC_y (h : s < 64 ∧ cs s = c) : mgC M mg c s = M (2 * (s / 16) + s % 2) := if_pos h
theorem mgC_n (h : ¬ (s < 64 ∧ cs s = c)) : mgC M mg c s = mg s := if_neg h
theorem mc_ot {b : Nat} (h : b ≠ 3 ∧ b ≠ 5 ∧ b ≠ 6 ∧ b ≠ 7 ∧ b ≠ 8 ∧ b ≠ 9 ∧ b ≠ 10 ∧ b ≠ 11) : mc N c v5 v6 v7 v8 v9 v10 v11 b = N b := by
  obtain ⟨h1, h2, h3, h4, h5, h6, h7, h8⟩ := h
  funext j
  simp [mc, mup_ap, h1, h2, h3, h4, h5, h6, h7, h8]
theorem mc_d {b : Nat} (h : b ≠ 3) (hd : d ≠ c) : mc N c v5 v6 v7 v8 v9 v10 v11 b d = N b d := by
  simp [mc, mup_ap, h, hd]
theorem mc_3 : mc N c v5 v6 v7 v8 v9 v10 v11 3 0 = ((c + 1 : Nat) : Int) := by simp [mc, mup_ap]
theorem mc_5 : mc N c v5 v6 v7 v8 v9 v10 v11 5 c = v5 := by simp [mc, mup_ap]
theorem mc_6 : mc N c v5 v6 v7 v8 v9 v10 v11 6 c = v6 := by simp [mc, mup_ap]
theorem mc_7 : mc N c v5 v6 v7 v8 v9 v10 v11 7 c = v7 := by simp [mc, mup_ap]
theorem mc_8 : mc N c v5 v6 v7 v8 v9 v10 v11 8 c = v8 := by simp [mc, mup_ap]
theorem mc_9 : mc N c v5 v6 v7 v8 v9 v10 v11 9 c = v9 := by simp [mc, mup_ap]
theorem mc_10 : mc N c v5 v6 v7 v8 v9 v10 v11 10 c = v10 := by simp [mc, mup_ap]
theorem mc_11 : mc N c v5 v6 v7 v8 v9 v10 v11 11 c = v11 := by simp [mc, mup_ap]
theorem cache_ok (hA : AA t x b ca la sa mg N LS FL hz dz) (hH : HZ N hz dz) (hc : N 3 0 = (c : Int)) (hc8 : c < 8) (hw5 : 8 ≤ v5 ∧ v5 ≤ v9) {o a s f : Nat} (h7 : v7 = (o : Int) ∧ o ≤ 3) (h6 : v6 = 8 * (a : Int) ∧ 1 ≤ a ∧ a ≤ 8) (h9 : v9 = 8 * (s : Int) ∧ 1 ≤ s) (h10 : v10 = (f : Int) ∧ 1 ≤ f) (h11 : 0 < v11) (hfit : ∀ k : Nat, (k : Int) < v11 → k * a + f * s ≤ 128 * 2 ^ o) (hC : Cst t t2 (tN t) 3 8 F L M) (hF : F 0 = (c : Int) ∧ F 1 = v5 ∧ F 2 = v6 ∧ F 3 = v7 ∧ F 4 = v8 ∧ F 5 = v9 ∧ F 6 = v10 ∧ F 7 = v11 ∧ F 8 = 0 ∧ F 9 = 0 ∧ F 10 = 0 ∧ F 11 = 0 ∧ F 16 = 0) : AA (tset (tset t2 x (gf 5 2) c (tN t : Int)) x (gf 5 3) 0 ((c + 1 : Nat) : Int)) x b (fz ca c (tN t)) (laC L la c) sa (mgC M mg c) (mc N c v5 v6 v7 v8 v9 v10 v11) LS FL hz dz ∧ HZ (mc N c v5 v6 v7 v8 v9 v10 v11) hz dz := by
  obtain ⟨⟨hP, hB, hG, hS, hZ, hR⟩, hM, ⟨kH, kB, kC, kV, kN', kI, kS, kL⟩, kP, kM, kZ, hT⟩ := hA
  have e : ∀ b, (b ≠ 3 ∧ b ≠ 5 ∧ b ≠ 6 ∧ b ≠ 7 ∧ b ≠ 8 ∧ b ≠ 9 ∧ b ≠ 10 ∧ b ≠ 11) → mc N c v5 v6 v7 v8 v9 v10 v11 b = N b := fun b h => mc_ot h
  have ed : ∀ d, d ≠ c → ∀ b, b ≠ 3 → mc N c v5 v6 v7 v8 v9 v10 v11 b d = N b d := fun d hd b hb => mc_d hb hd
  have c3 := mc_3 (N := N) (c := c) (v5 := v5) (v6 := v6) (v7 := v7) (v8 := v8) (v9 := v9) (v10 := v10) (v11 := v11)
  have c5 := mc_5 (N := N) (c := c) (v5 := v5) (v6 := v6) (v7 := v7) (v8 := v8) (v9 := v9) (v10 := v10) (v11 := v11)
  have c6 := mc_6 (N := N) (c := c) (v5 := v5) (v6 := v6) (v7 := v7) (v8 := v8) (v9 := v9) (v10 := v10) (v11 := v11)
  have c7 := mc_7 (N := N) (c := c) (v5 := v5) (v6 := v6) (v7 := v7) (v8 := v8) (v9 := v9) (v10 := v10) (v11 := v11)
  have c8 := mc_8 (N := N) (c := c) (v5 := v5) (v6 := v6) (v7 := v7) (v8 := v8) (v9 := v9) (v10 := v10) (v11 := v11)
  have c9 := mc_9 (N := N) (c := c) (v5 := v5) (v6 := v6) (v7 := v7) (v8 := v8) (v9 := v9) (v10 := v10) (v11 := v11)
  have c10 := mc_10 (N := N) (c := c) (v5 := v5) (v6 := v6) (v7 := v7) (v8 := v8) (v9 := v9) (v10 := v10) (v11 := v11)
  have c11 := mc_11 (N := N) (c := c) (v5 := v5) (v6 := v6) (v7 := v7) (v8 := v8) (v9 := v9) (v10 := v10) (v11 := v11)
  generalize mc N c v5 v6 v7 v8 v9 v10 v11 = N' at e ed c3 c5 c6 c7 c8 c9 c10 c11 ⊢
  have e1 := e 1 (by decide)
  have e2 := e 2 (by decide)
  have e4 := e 4 (by decide)
  have e12 := e 12 (by decide)
  have e13 := e 13 (by decide)
  have e14 := e 14 (by decide)
  have e15 := e 15 (by decide)
  have e16 := e 16 (by decide)
  have e17 := e 17 (by decide)
  have e18 := e 18 (by decide)
  have e19 := e 19 (by decide)
  have e20 := e 20 (by decide)
  have e21 := e 21 (by decide)
  have e22 := e 22 (by decide)
  have e23 := e 23 (by decide)
  have e24 := e 24 (by decide)
  have e25 := e 25 (by decide)
  have e26 := e 26 (by decide)
  obtain ⟨y4, y12, y13⟩ := hP.2.2 c (by omega)
  have hnl : ¬ Lv N c := fun h => by have := h.1; omega
  have hlv : ∀ d, Lv N' d ↔ (Lv N d ∨ d = c) := fun d => by
    unfold Lv
    rw [c3, e4]
    constructor
    · rintro ⟨h1, h2⟩
      by_cases q : d = c
      · exact Or.inr q
      · exact Or.inl ⟨by omega, h2⟩
    · rintro (⟨h1, h2⟩ | q)
      · exact ⟨by omega, h2⟩
      · rw [q]; exact ⟨by omega, y4⟩
  have hne : ∀ p, Sl N p → wN N p ≠ c := fun p hp q => hnl (by have := (hG.2 p hp).2.2.1; rw [q] at this; exact this)
  have hw : ∀ p, wN N' p = wN N p := fun p => by unfold wN; rw [e14]
  have hkk : ∀ p, kN N' p = kN N p := fun p => by unfold kN; rw [e15]
  have hsl : ∀ p, Sl N' p = Sl N p := fun p => by unfold Sl; rw [e2]
  have hff : ∀ d, d ≠ c → fN N' d = fN N d := fun d hd => by unfold fN; rw [ed d hd 10 (by decide)]
  have hoo : ∀ d, d ≠ c → oN N' d = oN N d := fun d hd => by unfold oN; rw [ed d hd 7 (by decide)]
  have hU : ∀ p, Sl N p → ∀ i, U N' p i = U N p i := fun p hp i => by
    unfold U aN sN
    rw [hw, hkk, ed _ (hne p hp) 6 (by decide), ed _ (hne p hp) 9 (by decide)]
  have hUL : ∀ p, Sl N p → ∀ xs, UL N' p xs = UL N p xs := fun p hp xs => by
    cases xs with
    | nil => rfl
    | cons i r => show (U N' p i : Int) = (U N p i : Int); rw [hU p hp]
  have hwh : ∀ p, Sl N p → wh N' p = wh N p := fun p hp => by unfold wh; rw [e16, hw, ed _ (hne p hp) 10 (by decide)]
  have hvv : ∀ s k, hv N' s k = hv N s k := fun s k => by unfold hv; rw [e24, e26]
  have hLS : ∀ l, l < 24 → l / 3 = c → LS l = [] := fun l hl hlc => List.eq_nil_iff_forall_not_mem.mpr (fun p hp => by
    obtain ⟨q1, q2⟩ := ((hR.2 l hl).2 p).mp hp
    have := wh_lt (N := N) (p := p)
    exact hne p q1 (by omega))
  have hz0 : ∀ s, s < 88 → cs s = c → hz s = 0 := fun s hs q => hz_gone hG hM hs (by rw [q]; exact hnl)
  have hd0 : dz c = 0 := by
    have h1 := (hH.2 c hc8).2 0 (by decide)
    have h2 := hz0 (64 + 3 * c + 0) (by omega) (by unfold cs; rw [if_neg (by omega)]; omega)
    rw [h2] at h1
    by_cases q : 0 < dz c
    · rw [if_pos q] at h1; omega
    · omega
  obtain ⟨⟨q1, q2, q3⟩, q4, q5, q6, q7, ⟨q8, q9⟩, q10, q11⟩ := hC
  have f3 : Fe t2 (tset (tset t2 x (gf 5 2) c (tN t : Int)) x (gf 5 3) 0 ((c + 1 : Nat) : Int)) [gf 5 2, gf 5 3] := fe_sub (fe_trans (fe_set _ _ _ _ _) (fe_set _ _ _ _ _)) (by decide)
  have FF : Fe t (tset (tset t2 x (gf 5 2) c (tN t : Int)) x (gf 5 3) 0 ((c + 1 : Nat) : Int)) [gf 5 2, gf 5 3] := fe_sub (fe_trans q5 f3) (by decide)
  have hI3 : tI (tset (tset t2 x (gf 5 2) c (tN t : Int)) x (gf 5 3) 0 ((c + 1 : Nat) : Int)) = tI t2 := rfl
  have hL3 : tL (tset (tset t2 x (gf 5 2) c (tN t : Int)) x (gf 5 3) 0 ((c + 1 : Nat) : Int)) = tL t2 := rfl
  have hC3 : tC (tset (tset t2 x (gf 5 2) c (tN t : Int)) x (gf 5 3) 0 ((c + 1 : Nat) : Int)) = tC t2 := rfl
  have hN3 : tN (tset (tset t2 x (gf 5 2) c (tN t : Int)) x (gf 5 3) 0 ((c + 1 : Nat) : Int)) = tN t2 := rfl
  have v53 : tV (tset (tset t2 x (gf 5 2) c (tN t : Int)) x (gf 5 3) 0 ((c + 1 : Nat) : Int)) x (gf 5 3) 0 = ((c + 1 : Nat) : Int) := by rw [tV_set, if_pos ⟨rfl, rfl, rfl⟩]
  have v52 : ∀ d, tV (tset (tset t2 x (gf 5 2) c (tN t : Int)) x (gf 5 3) 0 ((c + 1 : Nat) : Int)) x (gf 5 2) d = if d = c then (tN t : Int) else tV t x (gf 5 2) d := fun d => by
    rw [tV_set, if_neg (fun z => by have := z.2.1; revert this; decide), tV_set]
    by_cases z : d = c
    · rw [if_pos ⟨rfl, rfl, z⟩, if_pos z]
    · rw [if_neg (fun z' => z z'.2.2), if_neg z, fe_v q5 kH.1 (by decide)]
  generalize tset (tset t2 x (gf 5 2) c (tN t : Int)) x (gf 5 3) 0 ((c + 1 : Nat) : Int) = t' at f3 FF hI3 hL3 hC3 hN3 v53 v52 ⊢
  have kC1 : KC t' ca la N := kc_fe FF (kcj _ (by decide)) (fun k h1 h2 a ci ha hci => by
    have hj : gf ci k ∉ [gf 5 2, gf 5 3] := by
      rw [hci]
      intro z
      have : gf 1 k = gf 5 2 ∨ gf 1 k = gf 5 3 := by simpa using z
      unfold gf at this
      omega
    exact ⟨fe_i FF ha hj, fe_l FF ha hj⟩) kC
  have va : ∀ k, k < 17 → k ≠ 12 → k ≠ 13 → k ≠ 14 → k ≠ 15 → tV t' (tN t) (gf 1 k) 0 = F k := fun k h1 h2 h3 h4 h5 => by
    rw [fe_v f3 q3 (by
      intro z
      have : gf 1 k = gf 5 2 ∨ gf 1 k = gf 5 3 := by simpa using z
      unfold gf at this
      omega)]
    exact q7 k h1 h2 h3 h4 h5
  obtain ⟨F0, F1, F2, F3, F4, F5, F6, F7, F8, F9, F10, F11, F16⟩ := hF
  have hold : ∀ b, tC t b ≠ 0 → b < tN t := hT
  refine ⟨⟨⟨⟨by rw [c3]; omega, fun d hd => ?_, fun d hd => ?_⟩, ?_, ⟨fun q hq => ?_, fun p hp => ?_⟩, fun p hp => ?_, fun u hu h => ?_, ?_, fun l hl => ?_⟩, ⟨fun s hs => ⟨(hM.1 s hs).1, fun k hk => ?_⟩, fun s s' k k' h1 h2 h3 h4 h5 => ?_⟩, ⟨?_, ?_, ⟨fun d hd => ?_, fun l l' h1 h2 h3 => ?_⟩, fun d hd => ?_, fun d hd => ?_, fun p hp => ?_, fun p hp => ?_, fun l hl hv => ?_⟩, fun d hd => ?_, ⟨fun s hs => ?_, fun s s' hs hs' h => ?_⟩, fun d hd => ?_, ?_⟩, ?_⟩
  · -- WPc
    rw [c3] at hd
    by_cases z : d = c
    · subst z
      unfold WPc oN aN sN fN
      rw [c5, c6, c7, c9, c10, c11, e12, y12]
      have n7 : v7.toNat = o := by omega
      have n6 : v6.toNat / 8 = a := by omega
      have n9 : v9.toNat / 8 = s := by omega
      have n10 : v10.toNat = f := by omega
      rw [n7, n6, n9, n10]
      exact ⟨h7, h6, h9, h10, hw5, ⟨by omega, h11⟩, hfit⟩
    · have := hP.2.1 d (by omega)
      unfold WPc oN aN sN fN at *
      rw [ed d z 5 (by decide), ed d z 6 (by decide), ed d z 7 (by decide), ed d z 9 (by decide), ed d z 10 (by decide), ed d z 11 (by decide), ed d z 12 (by decide)]
      exact this
  · rw [c3] at hd
    rw [e4, e12, e13]
    exact hP.2.2 d (by omega)
  · unfold WB; rw [e1, e2]; exact hB
  · rw [e2]
    rcases hG.1 q hq with h | ⟨p, h1, h2, h3, h4⟩
    · exact Or.inl h
    · exact Or.inr ⟨p, by rw [hsl]; exact h1, h2, h3, by rw [hw, hoo _ (hne p h1)]; exact h4⟩
  · rw [hsl] at hp
    obtain ⟨z1, z2, z3, z4⟩ := hG.2 p hp
    unfold SPp
    rw [hw, hkk, e14, e15, hoo _ (hne p hp), ed _ (hne p hp) 11 (by decide), e2]
    exact ⟨z1, z2, (hlv _).mpr (Or.inl z3), z4⟩
  · rw [hsl] at hp
    obtain ⟨a1, a2, a3, a4, a5, a6⟩ := hS p hp
    unfold WSp
    rw [hw, hff _ (hne p hp), e16, e17, e18, hUL p hp]
    refine ⟨a1, a2, a3, a4, ch_q (hU p hp) _ (fun j _ => by rw [e19]) a5, fun i hi => ?_⟩
    rw [hU p hp]; exact a6 i hi
  · rw [e18] at h
    obtain ⟨p, i, z1, z2, z3⟩ := hZ u hu h
    exact ⟨p, i, by rw [hsl]; exact z1, by rw [hw, hff _ (hne p z1)]; exact z2, by rw [hU p z1]; exact z3⟩
  · unfold WL; rw [e21, e22]; exact hR.1
  · refine ⟨(hR.2 l hl).1, fun p => ?_⟩
    rw [(hR.2 l hl).2 p, hsl, hw]
    exact ⟨fun h => ⟨h.1, by rw [hwh p h.1]; exact h.2⟩, fun h => ⟨h.1, by rw [← hwh p h.1]; exact h.2⟩⟩
  · obtain ⟨p, i, z1, z2, z3, z4, z5⟩ := (hM.1 s hs).2 k hk
    exact ⟨p, i, by rw [hsl]; exact z1, by rw [hw]; exact z2, by rw [hw, hff _ (hne p z1)]; exact z3, by rw [hvv, hU p z1]; exact z4, by rw [hU p z1, e18]; exact z5⟩
  · rw [hvv, hvv] at h5
    exact hM.2 s s' k k' h1 h2 h3 h4 h5
  · -- KH
    obtain ⟨a1, a2, a3, a4, a5, a6, a7⟩ := kH
    refine ⟨fe_c FF a1, by rw [hI3, hL3, fe_i q5 a1 (by decide), fe_l q5 a1 (by decide)]; exact a2, by rw [hI3, hL3, fe_i q5 a1 (by decide), fe_l q5 a1 (by decide)]; exact a3, by rw [fe_v FF a1 (by decide)]; exact a4, by rw [v53, c3], fun q hq => by rw [fe_v FF a1 (by decide), e2]; exact a6 q hq, fun d hd => ⟨fun h => ?_, fun h => ?_⟩⟩
    · rw [v52]
      by_cases z : d = c
      · rw [if_pos z, z, fz_same]
      · rw [if_neg z, fz_ne z]
        exact (a7 d hd).1 (((hlv d).mp h).resolve_right z)
    · have z : d ≠ c := fun z => h ((hlv d).mpr (Or.inr z))
      rw [v52, if_neg z]
      exact (a7 d hd).2 (fun z' => h ((hlv d).mpr (Or.inl z')))
  · have := kb_fe FF (by decide) (by decide) kB
    unfold KB at *
    rw [e1, e2]
    exact this
  · -- KC
    by_cases z : d = c
    · subst z
      unfold KCc
      rw [fz_same, c5, c6, c7, c8, c9, c10, c11, hC3, hI3, hL3, va 0 (by decide) (by decide) (by decide) (by decide) (by decide), va 1 (by decide) (by decide) (by decide) (by decide) (by decide), va 2 (by decide) (by decide) (by decide) (by decide) (by decide), va 3 (by decide) (by decide) (by decide) (by decide) (by decide), va 4 (by decide) (by decide) (by decide) (by decide) (by decide), va 5 (by decide) (by decide) (by decide) (by decide) (by decide), va 6 (by decide) (by decide) (by decide) (by decide) (by decide), va 7 (by decide) (by decide) (by decide) (by decide) (by decide)]
      refine ⟨q3, ⟨F0, F1, F2, F3, F4, F5, F6, F7⟩, q6, fun w hw => ?_⟩
      obtain ⟨w1, w2, w3, w4⟩ := q8 w hw
      have g1 : (3 * d + w) / 3 = d := by omega
      have g2 : (3 * d + w) % 3 = w := by omega
      rw [laC_y g1, g2, fe_v f3 q3 (by decide)]
      exact ⟨w1, w2⟩
    · have hd' := ((hlv d).mp hd).resolve_right z
      have k1 := kC1.1 d hd'
      unfold KCc at *
      rw [fz_ne z, ed d z 5 (by decide), ed d z 6 (by decide), ed d z 7 (by decide), ed d z 8 (by decide), ed d z 9 (by decide), ed d z 10 (by decide), ed d z 11 (by decide)]
      refine ⟨k1.1, k1.2.1, k1.2.2.1, fun w hw => ?_⟩
      rw [laC_n (by omega)]
      exact k1.2.2.2 w hw
  · have hla : ∀ l, Lv N (l / 3) → la l < tN t := fun l h => by
      have k1 := ((kC.1 _ h).2.2.2 (l % 3) (by omega)).2
      rw [show 3 * (l / 3) + l % 3 = l by omega] at k1
      exact hold _ (by omega)
    by_cases z1 : l / 3 = c
    · have w1 := q8 (l % 3) (by omega)
      by_cases z2 : l' / 3 = c
      · rw [laC_y z1, laC_y z2] at h3
        have := q9 (l % 3) (l' % 3) (by omega) (by omega) h3
        omega
      · rw [laC_y z1, laC_n z2] at h3
        have := hla l' (((hlv _).mp h2).resolve_right z2)
        omega
    · by_cases z2 : l' / 3 = c
      · have w1 := q8 (l' % 3) (by omega)
        rw [laC_n z1, laC_y z2] at h3
        have := hla l (((hlv _).mp h1).resolve_right z1)
        omega
      · rw [laC_n z1, laC_n z2] at h3
        exact kC.2 l l' (((hlv _).mp h1).resolve_right z1) (((hlv _).mp h2).resolve_right z2) h3
  · -- KV
    by_cases z : d = c
    · subst z
      rw [fz_same, va 8 (by decide) (by decide) (by decide) (by decide) (by decide), va 11 (by decide) (by decide) (by decide) (by decide) (by decide), F8, F11, e12, e13, y12, y13]
      exact ⟨rfl, rfl⟩
    · have hd' := ((hlv d).mp hd).resolve_right z
      rw [fz_ne z, e12, e13]
      exact kv_fe FF (by decide) (by decide) kC kV d hd'
  · -- KN
    by_cases z : d = c
    · subst z
      rw [fz_same, va 9 (by decide) (by decide) (by decide) (by decide) (by decide), F9, hLS (3 * d) (by omega) (by omega), hLS (3 * d + 1) (by omega) (by omega), hLS (3 * d + 2) (by omega) (by omega)]
      rfl
    · have hd' := ((hlv d).mp hd).resolve_right z
      rw [fz_ne z]
      exact kn_fe FF (by decide) kC kN' d hd'
  · rw [hsl] at hp
    rw [hw, fz_ne (hne p hp), e15]
    exact ki_fe FF (by decide) (by decide) (by decide) kI p hp
  · rw [hsl] at hp
    exact ksp_congr (ks_fe FF (by decide) (by decide) (by decide) (by decide) (by decide) kI kS p hp) (fun _ _ => rfl) (fun _ => rfl) (fun _ => rfl) (by rw [e16]) rfl (hw p) (hff _ (hne p hp)) (hU p hp) (ed _ (hne p hp) 8 (by decide)) (fun _ _ => by rw [e18]) (fun _ _ => by rw [e20])
  · -- KL
    unfold KLl
    by_cases z : l / 3 = c
    · obtain ⟨w1, w2, w3, w4⟩ := q8 (l % 3) (by omega)
      rw [laC_y z, hLS l hl z, fe_v f3 w2 (by decide)]
      exact ⟨w3, trivial, fun p hp => by cases hp⟩
    · rw [laC_n z]
      exact kl_fe FF (by decide) (by decide) (by decide) (by decide) kC kI (lsm (wr_gl hR)) kL l hl (((hlv _).mp hv).resolve_right z)
  · -- KP
    by_cases z : d = c
    · subst z
      rw [fz_same, va 16 (by decide) (by decide) (by decide) (by decide) (by decide), F16, hd0]
      refine ⟨fun q hq => ?_, fun e he => by omega, rfl, by omega⟩
      obtain ⟨g1, g2⟩ := cs_m (q := q) (c := d) (e := 0) hq hc8 (by omega)
      obtain ⟨g3, g4⟩ := cs_m (q := q) (c := d) (e := 1) hq hc8 (by omega)
      rw [Nat.add_zero] at g1 g2
      have m0 := (q10 (2 * q) (by omega)).1
      have m1 := (q10 (2 * q + 1) (by omega)).1
      rw [show 13 + 2 * q % 2 = 13 by omega, show 2 * q / 2 = q by omega] at m0
      rw [show 13 + (2 * q + 1) % 2 = 14 by omega, show (2 * q + 1) / 2 = q by omega] at m1
      rw [mgC_y ⟨g2, g1⟩, mgC_y ⟨g4, g3⟩, fe_v f3 q3 (by decide), fe_v f3 q3 (by decide), show 2 * (2 * (8 * q + d) / 16) + 2 * (8 * q + d) % 2 = 2 * q by omega, show 2 * ((2 * (8 * q + d) + 1) / 16) + (2 * (8 * q + d) + 1) % 2 = 2 * q + 1 by omega]
      exact ⟨m0, m1⟩
    · have hd' := ((hlv d).mp hd).resolve_right z
      have hd8 := lv8 hP hd'
      obtain ⟨k1, k2, k3, k4⟩ := kp_fe FF (by decide) (by decide) (by decide) (by decide) kC kP d hd'
      rw [fz_ne z]
      refine ⟨fun q hq => ?_, fun e he => ?_, k3, k4⟩
      · obtain ⟨g1, g2⟩ := cs_m (q := q) (c := d) (e := 0) hq hd8 (by omega)
        obtain ⟨g3, g4⟩ := cs_m (q := q) (c := d) (e := 1) hq hd8 (by omega)
        rw [Nat.add_zero] at g1
        rw [mgC_n (fun y => z (g1.symm.trans y.2)), mgC_n (fun y => z (g3.symm.trans y.2))]
        exact k1 q hq
      · rw [mgC_n (fun y => by omega)]
        exact k2 e he
  · -- KM
    by_cases z : s < 64 ∧ cs s = c
    · have hs16 : 2 * (s / 16) + s % 2 < 8 := by omega
      obtain ⟨m1, m2, m3, m4, m5⟩ := q10 _ hs16
      rw [mgC_y z, hz0 s hs.1 z.2, fe_v f3 m2 (by decide), hC3, hI3, hL3]
      exact ⟨m2, m3, m4, fun k hk => by omega⟩
    · have hp : Pr N hz s := ⟨hs.1, by
        rcases hs.2 with ⟨y1, y2⟩ | y
        · rcases (hlv _).mp y2 with y3 | y3
          · exact Or.inl ⟨y1, y3⟩
          · exact absurd ⟨y1, y3⟩ z
        · exact Or.inr y⟩
      rw [mgC_n z]
      have := (km_fe FF (by decide) (by decide) kM).1 s hp
      simp only [hvv]
      exact this
  · have hpr : ∀ s, Pr N' hz s → ¬ (s < 64 ∧ cs s = c) → Pr N hz s := fun s hs z => ⟨hs.1, by
      rcases hs.2 with ⟨y1, y2⟩ | y
      · rcases (hlv _).mp y2 with y3 | y3
        · exact Or.inl ⟨y1, y3⟩
        · exact absurd ⟨y1, y3⟩ z
      · exact Or.inr y⟩
    have hmg : ∀ s, Pr N hz s → mg s < tN t := fun s hs => hold _ (by have := (kM.1 s hs).1; omega)
    have hnw : ∀ s, s < 64 → tN t < M (2 * (s / 16) + s % 2) := fun s hs => (q10 _ (by omega)).2.2.2.2
    by_cases z1 : s < 64 ∧ cs s = c
    · by_cases z2 : s' < 64 ∧ cs s' = c
      · rw [mgC_y z1, mgC_y z2] at h
        have := q11 _ _ (by omega) (by omega) h
        have g1 := z1.2
        have g2 := z2.2
        unfold cs at g1 g2
        rw [if_pos z1.1] at g1
        rw [if_pos z2.1] at g2
        omega
      · rw [mgC_y z1, mgC_n z2] at h
        have := hmg s' (hpr s' hs' z2)
        have := hnw s z1.1
        omega
    · by_cases z2 : s' < 64 ∧ cs s' = c
      · rw [mgC_n z1, mgC_y z2] at h
        have := hmg s (hpr s hs z1)
        have := hnw s' z2.1
        omega
      · rw [mgC_n z1, mgC_n z2] at h
        exact kM.2 s s' (hpr s hs z1) (hpr s' hs' z2) h
  · -- KZ
    have hlc : ∀ d, lc N' d 32768 = lc N d 32768 := fun d => lc_congr 32768 (fun u _ => by rw [e18, e14, e2])
    rw [hlc]
    by_cases z : d = c
    · subst z
      rw [fz_same, va 10 (by decide) (by decide) (by decide) (by decide) (by decide), F10, lc_zero 32768 (fun u hu q => ?_)]
      · rfl
      · obtain ⟨p, i, z1, z2, z3⟩ := hZ u hu (by omega)
        have := own_u hP hG z1 z2
        rw [← z3, q.2] at this
        exact hne p z1 (by omega)
    · have hd' := ((hlv d).mp hd).resolve_right z
      rw [fz_ne z]
      exact kz_fe FF (by decide) kC kZ d hd'
  · intro a ha
    rw [hC3] at ha
    rw [hN3]
    exact q4 a ha
  · unfold HZ
    rw [e23, e25]
    exact hH
end
