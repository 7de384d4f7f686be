/-! both sides: allocate -/
section
variable {t t' t1 t3 : Th} {x b : Nat} {ca la sa mg mg' : Nat → Nat} {N N' N1 N3 : Mm} {LS FL : Nat → List Nat} {hz dz hz' dz' τ : Nat → Nat} {p i l c k s n a m q d u : Nat}
def cpr (f g : Nat → Int) (o src k : Nat) : Nat → Int := fun j => if o ≤ j ∧ j < o + k then g (src + (j - o)) else f j
theorem cpr_0 (f g : Nat → Int) (o src : Nat) : cpr f g o src 0 = f := by
  funext j
  unfold cpr
  rw [if_neg (by omega)]
theorem cpr_s (f g : Nat → Int) (o src k : Nat) : fu (cpr f g o src k) (o + k) (g (src + k)) = cpr f g o src (k + 1) := by
  funext j
  unfold cpr fu
  by_cases e : j = o + k
  · rw [if_pos e, if_pos (by omega), e]
    congr 1; omega
  · rw [if_neg e]
    show (if o ≤ j ∧ j < o + k then g (src + (j - o)) else f j) = _
    by_cases e2 : o ≤ j ∧ j < o + k
    · rw [if_pos e2, if_pos (by omega)]
    · rw [if_neg e2, if_neg (by omega)]
theorem w12 (hc : c < 8) (hd : d < 3) (hk : k < 4) : wr (wr (wr (12 * (c : Int)) + wr (4 * (d : Int))) + (k : Int)) = ((12 * c + 4 * d + k : Nat) : Int) := by
  rw [show 12 * (c : Int) = ((12 * c : Nat) : Int) by omega, wn (by omega), show 4 * (d : Int) = ((4 * d : Nat) : Int) by omega, wn (by omega), wa (by omega), wa (by omega)]
theorem al_lp (hm : m < 64) (hc : c < 8) (hd : d < 3) (h25 : N 25 c = (d : Int)) : ∀ (n k mm : Nat), k + n = 4 → n < mm → g_X6_allocate_b100 mm (msA N 24 (cpr (N 24) (N 26) (4 * m) (12 * c + 4 * d) k)) (c : Int) (m : Int) (k : Int) = g_X6_allocate_j151 (mup (msA N 24 (cpr (N 24) (N 26) (4 * m) (12 * c + 4 * d) 4)) 23 m 4) (c : Int) (m : Int) := by
  intro n
  induction n with
  | zero =>
    intro k mm hk hmm
    cases mm with
    | zero => omega
    | succ mm =>
      have e4 : k = 4 := by omega
      subst e4
      show g_X6_allocate_s100 _ _ (c : Int) (m : Int) _ = _
      unfold g_X6_allocate_s100
      rw [if_pos (by decide), q_ms (show m < mlen 23 from hm), Option.bind_some]
  | succ n ih =>
    intro k mm hk hmm
    cases mm with
    | zero => omega
    | succ mm =>
      have g25 : (msA N 24 (cpr (N 24) (N 26) (4 * m) (12 * c + 4 * d) k)) 25 c = (d : Int) := by rw [msA_ne (by decide)]; exact h25
      have g26 : (msA N 24 (cpr (N 24) (N 26) (4 * m) (12 * c + 4 * d) k)) 26 = N 26 := msA_ne (by decide)
      show g_X6_allocate_s100 _ _ (c : Int) (m : Int) (k : Int) = _
      unfold g_X6_allocate_s100
      rw [if_neg (by omega), q_mg (show c < mlen 25 from hc), Option.bind_some, g25, w12 hc hd (by omega), q_mg (show 12 * c + 4 * d + k < mlen 26 by show _ < 96; omega), Option.bind_some, g26, w4m hm, wa (by omega), q_ms (show 4 * m + k < mlen 24 by show _ < 256; omega), Option.bind_some, w1 (by omega), mup_msA, msA_msA, msA_same, cpr_s]
      exact ih (k + 1) mm (by omega) (by omega)
/-- LOADED and PREVIOUS are empty, the depot has some -/
theorem depot_pair (hB : AB t x b ca la sa mg N LS FL hz dz) (hH : HZ N hz dz) (hc : Lv N c) (hq : q < 4) (h0 : hz (2 * (8 * q + c)) = 0) (hd : dz c = n + 1) : ∃ t' N' mg' hz' dz', t_X1_takeFromMagazines_j32 t (ca c : Int) (q : Int) = t_X1_takeFromMagazines_j69 t' (ca c : Int) (q : Int) ∧ g_X6_allocate_j69 N (c : Int) ((2 * (8 * q + c) : Nat) : Int) = g_X6_allocate_j151 N' (c : Int) ((2 * (8 * q + c) : Nat) : Int) ∧ AB t' x b ca la sa mg' N' LS FL hz' dz' ∧ HZ N' hz' dz' ∧ Mo N N' ∧ Fe t t' [gf 1 13, gf 1 14, gf 1 15, gf 1 16, gf 2 0, gf 2 1] := by
  have hc8 := lv8 hB.1.1 hc
  obtain ⟨hW, hM, hK, kP, kM, hT⟩ := id hB
  have kC := hK.2.2.1
  have kCc := kC.1 c hc
  obtain ⟨p1, p2, p3, p4⟩ := kP c hc
  have r0 := kM.1 _ (pr_m (hz := hz) hc8 hc (q := q) (e := 0) hq (by omega))
  rw [Nat.add_zero] at r0
  obtain ⟨z1, z2⟩ := hH.2 c hc8
  have hs0 : hz (64 + 3 * c + n) = 4 := by rw [z2 n (by omega), if_pos (by omega)]
  have hpr0 : Pr N hz (64 + 3 * c + n) := ⟨by omega, Or.inr (by omega)⟩
  have m0 := kM.1 _ hpr0
  have etd := td_eq (n := n) kCc.1 (by rw [p3, hd]) kCc.2.2.1.2.2.2 (by omega)
  rw [p2 n (by omega)] at etd
  have f1 := fe_trans (fe_set t (ca c) (gf 1 16) 0 (n : Int)) (fe_set (tset t (ca c) (gf 1 16) 0 (n : Int)) (ca c) (gf 1 15) n (-1))
  have c1t : tC (tset (tset t (ca c) (gf 1 16) 0 (n : Int)) (ca c) (gf 1 15) n (-1)) (ca c) = 1 + 1 := kCc.1
  have i1t : 0 ≤ tI (tset (tset t (ca c) (gf 1 16) 0 (n : Int)) (ca c) (gf 1 15) n (-1)) (ca c) 13 := kCc.2.2.1.2.1.1
  have l1t : q < tL (tset (tset t (ca c) (gf 1 16) 0 (n : Int)) (ca c) (gf 1 15) n (-1)) (ca c) 13 := by show q < tL t (ca c) 13; rw [kCc.2.2.1.2.1.2]; exact hq
  have C1 : tC (tset (tset t (ca c) (gf 1 16) 0 (n : Int)) (ca c) (gf 1 15) n (-1)) = tC t := rfl
  have V1 : ∀ a j i, tV (tset (tset t (ca c) (gf 1 16) 0 (n : Int)) (ca c) (gf 1 15) n (-1)) a j i = if a = ca c ∧ j = gf 1 15 ∧ i = n then -1 else if a = ca c ∧ j = gf 1 16 ∧ i = 0 then (n : Int) else tV t a j i := fun a j i => rfl
  have I1 : tI (tset (tset t (ca c) (gf 1 16) 0 (n : Int)) (ca c) (gf 1 15) n (-1)) = tI t := rfl
  have L1 : tL (tset (tset t (ca c) (gf 1 16) 0 (n : Int)) (ca c) (gf 1 15) n (-1)) = tL t := rfl
  generalize ht1 : tset (tset t (ca c) (gf 1 16) 0 (n : Int)) (ca c) (gf 1 15) n (-1) = t1 at etd f1 c1t i1t l1t C1 V1 I1 L1
  have f2 := fe_trans f1 (fe_set t1 (ca c) (gf 1 13) q (mg (64 + 3 * c + n) : Int))
  have evT : t_X1_takeFromMagazines_j32 t (ca c : Int) (q : Int) = t_X1_takeFromMagazines_j69 (tset t1 (ca c) (gf 1 13) q (mg (64 + 3 * c + n) : Int)) (ca c : Int) (q : Int) := by
    unfold t_X1_takeFromMagazines_j32 t_X1_takeFromMagazines_j68
    rw [q_rf 13 kCc.1, Option.bind_some, q_al kCc.1 kCc.2.2.1.2.1.1 (by rw [kCc.2.2.1.2.1.2]; exact hq), Option.bind_some, (p1 q hq).1, q_gt 1 r0.1, Option.bind_some, r0.2.2.1, h0, if_neg (by decide), q_ck kCc.1, Option.bind_some, etd, Option.bind_some]
    dsimp only
    rw [q_rf 13 c1t, Option.bind_some, if_pos (by omega), q_rs (x := (mg (64 + 3 * c + n) : Int)) c1t i1t l1t (Or.inr (by rw [C1]; exact m0.1)), Option.bind_some]
  generalize hm : 2 * (8 * q + c) = m at *
  have hm63 : m < 63 := by omega
  have h23m := hH.1 m (by omega)
  rw [h0] at h23m
  have evG : g_X6_allocate_j69 N (c : Int) (m : Int) = g_X6_allocate_j151 (mup (msA (mup N 25 c (n : Int)) 24 (cpr (N 24) (N 26) (4 * m) (12 * c + 4 * n) 4)) 23 m 4) (c : Int) (m : Int) := by
    unfold g_X6_allocate_j69
    have w9 : wr (((n + 1 : Nat) : Int) - 1) = (n : Int) := by
      rw [show (((n + 1 : Nat) : Int) - 1) = (n : Int) by omega]
      exact wn (by omega)
    have g25 : (mup N 25 c (n : Int)) 25 c = (n : Int) := if_pos ⟨rfl, rfl⟩
    have := al_lp (N := mup N 25 c (n : Int)) (m := m) (c := c) (d := n) (by omega) hc8 (by omega) g25 4 0 fuel rfl (by decide)
    rw [cpr_0, msA_id] at this
    rw [q_mg (show m < mlen 23 by show _ < 64; omega), Option.bind_some, h23m, if_neg (by decide), q_mg (show c < mlen 25 from hc8), Option.bind_some, z1, hd, if_neg (by omega), Option.bind_some, w9, q_ms (show c < mlen 25 from hc8), Option.bind_some]
    exact this
  have hMo : Mo N (mup (msA (mup N 25 c (n : Int)) 24 (cpr (N 24) (N 26) (4 * m) (12 * c + 4 * n) 4)) 23 m 4) := fun b h1 h2 h3 h4 => by
    rw [mup_msA, msA_ne h1, msA_ne h2, mup_msA, msA_ne h3]
  have g24 : (mup (msA (mup N 25 c (n : Int)) 24 (cpr (N 24) (N 26) (4 * m) (12 * c + 4 * n) 4)) 23 m 4) 24 = cpr (N 24) (N 26) (4 * m) (12 * c + 4 * n) 4 := by rw [mup_msA, msA_ne (by decide), msA_same]
  have g23 : (mup (msA (mup N 25 c (n : Int)) 24 (cpr (N 24) (N 26) (4 * m) (12 * c + 4 * n) 4)) 23 m 4) 23 = fu (N 23) m 4 := by rw [mup_msA, msA_same, msA_ne (by decide), mup_msA, msA_ne (by decide)]
  have g25 : (mup (msA (mup N 25 c (n : Int)) 24 (cpr (N 24) (N 26) (4 * m) (12 * c + 4 * n) 4)) 23 m 4) 25 = fu (N 25) c (n : Int) := by rw [mup_msA, msA_ne (by decide), msA_ne (by decide), mup_msA, msA_same]
  have g26 : (mup (msA (mup N 25 c (n : Int)) 24 (cpr (N 24) (N 26) (4 * m) (12 * c + 4 * n) 4)) 23 m 4) 26 = N 26 := by rw [mup_msA, msA_ne (by decide), msA_ne (by decide), mup_msA, msA_ne (by decide)]
  generalize hN' : mup (msA (mup N 25 c (n : Int)) 24 (cpr (N 24) (N 26) (4 * m) (12 * c + 4 * n) 4)) 23 m 4 = N' at *
  have hlv := ep_lv (mo_ep hMo)
  have hz0 : ∀ s, fz (fz hz (64 + 3 * c + n) 0) m 4 s = if s = m then 4 else if s = 64 + 3 * c + n then 0 else hz s := fun s => rfl
  have hhv : ∀ s k, k < 4 → hv N' s k = hv N (if s = m then 64 + 3 * c + n else s) k := fun s k hk => by
    unfold hv
    by_cases e1 : s = m
    · rw [if_pos (by omega), if_pos e1, if_neg (by omega), g24]
      unfold cpr
      rw [if_pos (by omega)]
      congr 1; omega
    · rw [if_neg e1]
      by_cases e : s < 64
      · rw [if_pos e, if_pos e, g24]
        unfold cpr
        rw [if_neg (by omega)]
      · rw [if_neg e, if_neg e, g26]
  have h4 : ∀ s, s < 88 → hz s ≤ 4 := fun s hs => (hM.1 s hs).1
  refine ⟨_, N', fz mg m (mg (64 + 3 * c + n)), fz (fz hz (64 + 3 * c + n) 0) m 4, fz dz c n, evT, evG, ab_mag hB hMo (fe_sub f2 (by decide)) (fun a k _ => by rw [tI_set, tL_set, I1, L1]; exact ⟨rfl, rfl⟩) (wm_mv (τ := fun s => if s = m then 64 + 3 * c + n else s) hMo hM (fun s hs hp => ?_) (fun s s' hs hs' hp hp' e => ?_)) (fun d hd' => ?_) (km_mv (τ := fun s => if s = m then 64 + 3 * c + n else s) f2 (by decide) (by decide) kM (fun s hs => ?_) (fun s s' hs hs' e => ?_)), ⟨fun s hs => ?_, fun d hd' => ⟨?_, fun e he => ?_⟩⟩, hMo, fe_sub f2 (by decide)⟩
  · rw [hz0] at hp
    by_cases e1 : s = m
    · rw [if_pos e1]
      refine ⟨by omega, ?_, ?_, fun k hk => ?_⟩
      · unfold cs; rw [if_neg (by omega), if_pos (by omega), e1]; omega
      · rw [hz0, if_pos e1, hs0]; exact Nat.le_refl _
      · rw [hhv s k (by rw [hz0, if_pos e1] at hk; exact hk), if_pos e1]
    · rw [if_neg e1] at hp ⊢
      have e2 : s ≠ 64 + 3 * c + n := fun z => by rw [if_pos z] at hp; omega
      refine ⟨hs, rfl, ?_, fun k hk => ?_⟩
      · rw [hz0, if_neg e1, if_neg e2]; exact Nat.le_refl _
      · rw [hz0, if_neg e1, if_neg e2] at hk
        rw [hhv s k (by have := h4 s hs; omega), if_neg e1]
  · rw [hz0] at hp hp'
    by_cases e1 : s = m <;> by_cases e2 : s' = m
    · omega
    · rw [if_pos e1, if_neg e2] at e
      rw [if_neg e2, if_pos e.symm] at hp'; omega
    · rw [if_neg e1, if_pos e2] at e
      rw [if_neg e1, if_pos e] at hp; omega
    · rw [if_neg e1, if_neg e2] at e; exact e
  · rw [hlv] at hd'
    have hd8 := lv8 hW.1 hd'
    obtain ⟨y1, y2, y3, y4⟩ := kP d hd'
    have cd := (kC.1 d hd').1
    refine ⟨fun q' hq' => ?_, fun e he => ?_, ?_, ?_⟩
    · refine ⟨?_, ?_⟩
      · by_cases e : d = c ∧ q' = q
        · obtain ⟨rfl, rfl⟩ := e
          rw [hm, fz_same, tV_set, if_pos ⟨rfl, rfl, rfl⟩]
        · rw [fz_ne (by omega), tV_set, if_neg (fun z => e ⟨ca_inj kC hd' hc z.1, z.2.2⟩), fe_v f1 cd (by decide)]
          exact (y1 q' hq').1
      · rw [fz_ne (by omega), fe_v f2 cd (by decide)]
        exact (y1 q' hq').2
    · rw [fz_ne (by omega), tV_set, if_neg (fun z => by have := z.2.1; revert this; decide), V1]
      by_cases e1 : d = c
      · rw [e1, fz_same] at he
        rw [if_neg (fun z => by have := z.2.2; omega), if_neg (fun z => by have := z.2.1; revert this; decide)]
        exact y2 e (by rw [e1, hd]; omega)
      · rw [fz_ne e1] at he
        rw [if_neg (fun z => e1 (ca_inj kC hd' hc z.1)), if_neg (fun z => by have := z.2.1; revert this; decide)]
        exact y2 e he
    · rw [tV_set, if_neg (fun z => by have := z.2.1; revert this; decide), V1, if_neg (fun z => by have := z.2.1; revert this; decide)]
      by_cases e1 : d = c
      · rw [e1, fz_same, if_pos ⟨rfl, rfl, rfl⟩]
      · rw [fz_ne e1, if_neg (fun z => e1 (ca_inj kC hd' hc z.1))]
        exact y3
    · by_cases e1 : d = c
      · rw [e1, fz_same]; omega
      · rw [fz_ne e1]; exact y4
  · obtain ⟨hs1, hs2⟩ := hs
    rw [hz0, hlv] at hs2
    by_cases e1 : s = m
    · rw [if_pos e1]
      refine ⟨hpr0, by rw [e1, fz_same], by rw [hz0, if_pos e1, hs0], fun k hk => ?_⟩
      rw [hhv s k (by rw [hz0, if_pos e1] at hk; exact hk), if_pos e1]
    · rw [if_neg e1] at hs2 ⊢
      have e2 : s ≠ 64 + 3 * c + n := fun z => by
        rw [if_pos z] at hs2
        rcases hs2 with w | w
        · omega
        · omega
      rw [if_neg e2] at hs2
      refine ⟨⟨hs1, hs2⟩, fz_ne e1, by rw [hz0, if_neg e1, if_neg e2], fun k hk => ?_⟩
      rw [hz0, if_neg e1, if_neg e2] at hk
      rw [hhv s k (by have := h4 s hs1; omega), if_neg e1]
  · obtain ⟨hs1, hs2⟩ := hs
    obtain ⟨hs1', hs2'⟩ := hs'
    rw [hz0] at hs2 hs2'
    by_cases e1 : s = m <;> by_cases e2 : s' = m
    · omega
    · rw [if_pos e1, if_neg e2] at e
      rw [if_neg e2, if_pos e.symm] at hs2'
      rcases hs2' with w | w <;> omega
    · rw [if_neg e1, if_pos e2] at e
      rw [if_neg e1, if_pos e] at hs2
      rcases hs2 with w | w <;> omega
    · rw [if_neg e1, if_neg e2] at e; exact e
  · rw [g23, hz0]
    by_cases e1 : s = m
    · rw [e1, fu_same, if_pos rfl]; rfl
    · rw [fu_ne e1, if_neg e1, if_neg (by omega)]; exact hH.1 s hs
  · rw [g25]
    by_cases e1 : d = c
    · rw [e1, fu_same, fz_same]
    · rw [fu_ne e1, fz_ne e1]; exact (hH.2 d hd').1
  · rw [hz0, if_neg (by omega)]
    have := (hH.2 d hd').2 e he
    by_cases e1 : d = c
    · rw [e1, fz_same]
      rw [e1, hd] at this
      by_cases e2 : e = n
      · rw [if_pos (by omega), if_neg (by omega)]
      · rw [if_neg (by omega), this]
        by_cases e3 : e < n
        · rw [if_pos (by omega), if_pos e3]
        · rw [if_neg (by omega), if_neg e3]
    · rw [fz_ne e1, if_neg (by omega)]; exact this
end
