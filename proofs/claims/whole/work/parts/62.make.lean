/-! both sides: a slab is made -/
def tnw (t : Th) (ci : Nat) : Th := (fun b => if b = tN t then ci + 1 else t.1 b, fun b k => if b = tN t then -1 else t.2.1 b k, fun b k => if b = tN t then 0 else t.2.2.1 b k, fun b k i => if b = tN t then (if rfT ci (k - 32 * ci) then -1 else 0) else t.2.2.2.1 b k i, tN t + 1)
theorem q_no (t : Th) (ci : Nat) : tno t ci = some (tnw t ci) := rfl
theorem tC_nw (t : Th) (ci a : Nat) : tC (tnw t ci) a = if a = tN t then ci + 1 else tC t a := rfl
theorem tI_nw (t : Th) (ci a k : Nat) : tI (tnw t ci) a k = if a = tN t then -1 else tI t a k := rfl
theorem tL_nw (t : Th) (ci a k : Nat) : tL (tnw t ci) a k = if a = tN t then 0 else tL t a k := rfl
theorem tV_nw (t : Th) (ci a k i : Nat) : tV (tnw t ci) a k i = if a = tN t then (if rfT ci (k - 32 * ci) then -1 else 0) else tV t a k i := rfl
theorem tN_nw (t : Th) (ci : Nat) : tN (tnw t ci) = tN t + 1 := rfl
theorem tC_ar (t : Th) (a ci k n : Nat) (f : Nat → Int) (b : Nat) : tC (tarr t a ci k n f) b = tC t b := rfl
theorem tI_ar (t : Th) (a ci k n : Nat) (f : Nat → Int) (b j : Nat) : tI (tarr t a ci k n f) b j = if b = a ∧ j = k then (tN t : Int) else tI t b j := rfl
theorem tL_ar (t : Th) (a ci k n : Nat) (f : Nat → Int) (b j : Nat) : tL (tarr t a ci k n f) b j = if b = a ∧ j = k then n else tL t b j := rfl
theorem tV_ar (t : Th) (a ci k n : Nat) (f : Nat → Int) (b j i : Nat) : tV (tarr t a ci k n f) b j i = if b = a ∧ j = gf ci k then f i else tV t b j i := rfl
theorem tN_ar (t : Th) (a ci k n : Nat) (f : Nat → Int) : tN (tarr t a ci k n f) = tN t + 1 := rfl
theorem q_an {t : Th} {ci k bound a n : Nat} (ha : tC t a = ci + 1) (hn : n ≤ bound) : tan t ci k bound (a : Int) (n : Int) = some (tarr t a ci k n (fun _ => if akd ci k ≤ 10 then 0 else -1)) := by
  unfold tan
  rw [if_pos ⟨⟨by omega, by omega⟩, by omega, by rw [Int.toNat_natCast]; exact ha⟩, Int.toNat_natCast, Int.toNat_natCast]
/-- only the address s is new -/
def Nw (t t' : Th) (s : Nat) : Prop := tN t ≤ tN t' ∧ (∀ a, a ≠ s → tC t' a = tC t a ∧ (∀ k, tI t' a k = tI t a k ∧ tL t' a k = tL t a k) ∧ ∀ j i, tV t' a j i = tV t a j i)
theorem nw_fe {t t' : Th} {s : Nat} (h : Nw t t' s) (hs : tC t s = 0) (hlt : s < tN t') (js : List Nat) : Fe t t' js := by
  refine ⟨h.1, fun a ci ha => ?_, fun hT a ha => ?_⟩
  · have hne : a ≠ s := fun e => by rw [e, hs] at ha; omega
    obtain ⟨e1, e2, e3⟩ := h.2 a hne
    exact ⟨e1.trans ha, fun k _ => ⟨(e2 k).1, (e2 k).2, fun i => e3 _ _⟩⟩
  · by_cases e : a = s
    · rw [e]; exact hlt
    · rw [(h.2 a e).1] at ha
      have := hT a ha
      have := h.1
      omega
def slabL (f : Nat) : Nat := if f < 4 then f else 4
/-- a new slab object -/
theorem newSlab {t : Th} {ca f p : Nat} {col : Int} (hs : tC t (tN t) = 0) (hc : tC t ca = 1 + 1) (h6 : tV t ca (gf 1 6) 0 = (f : Int)) (hf : 1 ≤ f) : ∃ t2, t_X3_init (tnw t 3) ((tN t : Nat) : Int) (ca : Int) (p : Int) col = some (0, t2) ∧ Nw t t2 (tN t) ∧ tN t < tN t2 ∧ tC t2 (tN t) = 3 + 1 ∧ tV t2 (tN t) (gf 3 0) 0 = (ca : Int) ∧ tV t2 (tN t) (gf 3 1) 0 = (p : Int) ∧ tV t2 (tN t) (gf 3 2) 0 = col ∧ tV t2 (tN t) (gf 3 3) 0 = 0 ∧ tV t2 (tN t) (gf 3 4) 0 = -1 ∧ tV t2 (tN t) (gf 3 7) 0 = 0 ∧ tV t2 (tN t) (gf 3 8) 0 = -1 ∧ (0 ≤ tI t2 (tN t) 9 ∧ tL t2 (tN t) 9 = slabL f) ∧ (0 ≤ tI t2 (tN t) 10 ∧ tL t2 (tN t) 10 = slabL f) := by
  have hne : ca ≠ tN t := fun e => by rw [e, hs] at hc; omega
  have hC : tC (tnw t 3) (tN t) = 3 + 1 := by rw [tC_nw, if_pos rfl]
  have hcC : tC (tnw t 3) ca = 1 + 1 := by rw [tC_nw, if_neg hne]; exact hc
  have e1 : imx 1 (imn 4 (f : Int)) = ((slabL f : Nat) : Int) := by
    unfold imx imn slabL
    by_cases e : f < 4
    · rw [if_pos (show (f : Int) < 4 by omega), if_pos e]
      split <;> omega
    · rw [if_neg (show ¬ (f : Int) < 4 by omega), if_neg e]
      decide
  have e2 : slabL f ≤ 4 := by unfold slabL; split <;> omega
  generalize ht0 : tset (tset (tset (tset (tset (tnw t 3) (tN t) (gf 3 4) 0 (-1)) (tN t) (gf 3 8) 0 (-1)) (tN t) (gf 3 0) 0 (ca : Int)) (tN t) (gf 3 1) 0 (p : Int)) (tN t) (gf 3 2) 0 col = t0
  have h0C : tC t0 = tC (tnw t 3) := by rw [← ht0]; rfl
  have h0N : tN t0 = tN t + 1 := by rw [← ht0]; rfl
  have h06 : tV t0 ca (gf 1 6) 0 = (f : Int) := by
    rw [← ht0]
    simp [tV_set, tV_nw, hne, h6]
  refine ⟨tarr (tarr t0 (tN t) 3 9 (slabL f) (fun _ => if akd 3 9 ≤ 10 then 0 else -1)) (tN t) 3 10 (slabL f) (fun _ => if akd 3 10 ≤ 10 then 0 else -1), ?_, ⟨?_, fun a ha => ⟨?_, fun k => ⟨?_, ?_⟩, fun j i => ?_⟩⟩, ?_, ?_, ?_, ?_, ?_, ?_, ?_, ?_, ?_, ⟨?_, ?_⟩, ?_, ?_⟩
  · unfold t_X3_init
    rw [q_ck hC, Option.bind_some, q_pt 4 _ hC, Option.bind_some, q_pt 8 _ (show tC (tset (tnw t 3) (tN t) (gf 3 4) 0 (-1)) (tN t) = 3 + 1 from hC), Option.bind_some, q_pt 0 _ (show tC (tset (tset (tnw t 3) (tN t) (gf 3 4) 0 (-1)) (tN t) (gf 3 8) 0 (-1)) (tN t) = 3 + 1 from hC), Option.bind_some, q_pt 1 _ (show tC (tset (tset (tset (tnw t 3) (tN t) (gf 3 4) 0 (-1)) (tN t) (gf 3 8) 0 (-1)) (tN t) (gf 3 0) 0 (ca : Int)) (tN t) = 3 + 1 from hC), Option.bind_some, q_pt 2 _ (show tC (tset (tset (tset (tset (tnw t 3) (tN t) (gf 3 4) 0 (-1)) (tN t) (gf 3 8) 0 (-1)) (tN t) (gf 3 0) 0 (ca : Int)) (tN t) (gf 3 1) 0 (p : Int)) (tN t) = 3 + 1 from hC), Option.bind_some, ht0, q_gt 6 (show tC t0 ca = 1 + 1 by rw [h0C]; exact hcC), Option.bind_some, h06, e1, q_an (show tC t0 (tN t) = 3 + 1 by rw [h0C]; exact hC) e2, Option.bind_some, q_an (show tC (tarr t0 (tN t) 3 9 (slabL f) (fun _ => if akd 3 9 ≤ 10 then 0 else -1)) (tN t) = 3 + 1 by rw [tC_ar, h0C]; exact hC) e2, Option.bind_some]
  · rw [tN_ar, tN_ar, h0N]; omega
  · rw [tC_ar, tC_ar, h0C, tC_nw, if_neg ha]
  · rw [tI_ar, if_neg (fun q => ha q.1), tI_ar, if_neg (fun q => ha q.1), ← ht0]
    show tI (tnw t 3) a k = _
    rw [tI_nw, if_neg ha]
  · rw [tL_ar, if_neg (fun q => ha q.1), tL_ar, if_neg (fun q => ha q.1), ← ht0]
    show tL (tnw t 3) a k = _
    rw [tL_nw, if_neg ha]
  · rw [tV_ar, if_neg (fun q => ha q.1), tV_ar, if_neg (fun q => ha q.1), ← ht0]
    simp [tV_set, tV_nw, ha]
  · rw [tN_ar, tN_ar, h0N]; omega
  · rw [tC_ar, tC_ar, h0C]; exact hC
  · rw [← ht0]; simp [tV_ar, tV_set, tV_nw, gf]
  · rw [← ht0]; simp [tV_ar, tV_set, tV_nw, gf]
  · rw [← ht0]; simp [tV_ar, tV_set, tV_nw, gf]
  · rw [← ht0]; simp [tV_ar, tV_set, tV_nw, gf, rfT, tyTab]
  · rw [← ht0]; simp [tV_ar, tV_set, tV_nw, gf]
  · rw [← ht0]; simp [tV_ar, tV_set, tV_nw, gf, rfT, tyTab]
  · rw [← ht0]; simp [tV_ar, tV_set, tV_nw, gf]
  · rw [tI_ar, if_neg (fun q => by omega), tI_ar, if_pos ⟨rfl, rfl⟩]; omega
  · rw [tL_ar, if_neg (fun q => by omega), tL_ar, if_pos ⟨rfl, rfl⟩]
  · rw [tI_ar, if_pos ⟨rfl, rfl⟩]; omega
  · rw [tL_ar, if_pos ⟨rfl, rfl⟩]
section
variable {t : Th} {x b : Nat} {ca la sa mg : Nat → Nat} {N N' : Mm} {LS FL : Nat → List Nat} {hz dz : Nat → Nat} {p i l c k : Nat}
def fz (f : Nat → Nat) (i v : Nat) : Nat → Nat := fun j => if j = i then v else f j
theorem fz_same (f : Nat → Nat) (i v : Nat) : fz f i v i = v := if_pos rfl
theorem fz_ne {f : Nat → Nat} {i v j : Nat} (h : j ≠ i) : fz f i v j = f j := if_neg h
/-- on a block that was taken -/
theorem make_on (hA : AA t x b ca la sa mg N LS FL hz dz) (hc : Lv N c) (hp : p < 256) (hk : N 1 p = (k : Int)) (hok : oN N c ≤ k) : ∃ t' N', t_X5_makeSlab_j34 (tset (tvA t b (gf 0 0) (hl (fu (tV t b (gf 0 0)) p (-1)) p (oN N c) (k - oN N c))) b (gf 0 1) 0 (wr (tV t b (gf 0 1) 0 - ((2 ^ oN N c : Nat) : Int)))) (x : Int) (ca c : Int) (p : Int) = some ((tN t : Int), t') ∧ g_X6_makeSlab_j31 (msA N 1 (hl (fu (N 1) p (-1)) p (oN N c) (k - oN N c))) (c : Int) (p : Int) = some (1, N') ∧ AA t' x b ca la (fz sa p (tN t)) mg N' (lu LS (3 * c + 2) (p :: LS (3 * c + 2))) (lu FL p (List.range' 0 (fN N c))) hz dz ∧ Sl N' p ∧ wh N' p = 2 ∧ ∀ b, b ≠ 1 → b ≠ 2 → b ≠ 12 → b ≠ 14 → b ≠ 15 → b ≠ 16 → b ≠ 17 → b ≠ 18 → b ≠ 19 → b ≠ 20 → b ≠ 21 → b ≠ 22 → N' b = N b := by
  obtain ⟨⟨hP, hB, hG, hS, hZ, hR⟩, hM, ⟨kH, kB, kC, kV, kN', kI, kS, kL⟩, kP, kM, kZ, hT⟩ := hA
  have hc8 : c < 8 := by have := hP.1; have := hc.1; omega
  have hPc := hP.2.1 c hc.1
  obtain ⟨i1, i2, i3, i4, i5, i6⟩ := take_inv hB.1 hB.2.1 hB.2.2 hp hk hok
  have hfl := fn_le hPc
  have hd6 := hPc.2.2.2.2.2.1
  generalize hN1 : msA N 1 (hl (fu (N 1) p (-1)) p (oN N c) (k - oN N c)) = N1
  have e11 : N1 1 = hl (fu (N 1) p (-1)) p (oN N c) (k - oN N c) := by rw [← hN1, msA_same]
  have eN1 : ∀ b, b ≠ 1 → N1 b = N b := fun b h => by rw [← hN1, msA_ne h]
  have hE1 : Ep N N1 := by
    refine ⟨?_, ?_, ?_, ?_, ?_, ?_, ?_, ?_, ?_, ?_, ?_, ?_⟩ <;> exact eN1 _ (by decide)
  have hP1 := ep_p hE1 (eN1 12 (by decide)) (eN1 13 (by decide)) hP
  have hG1 := ep_g hE1 hG
  have hB1 : WB N1 := by unfold WB; rw [e11, eN1 2 (by decide)]; exact ⟨i1, i2, i3⟩
  have hS1 : WS N1 FL := fun q hq => by
    rw [ep_sl hE1] at hq
    obtain ⟨a1, a2, a3, a4, a5, a6⟩ := hS q hq
    unfold WSp
    rw [ep_w hE1, ep_f hE1, ep_ul hE1, eN1 16 (by decide), eN1 17 (by decide)]
    refine ⟨a1, a2, a3, a4, ch_congr hE1 _ (fun _ _ => by rw [eN1 19 (by decide)]) a5, fun j hj => ?_⟩
    rw [ep_u hE1, eN1 18 (by decide)]
    exact a6 j hj
  have hZ1 := ep_z hE1 (eN1 18 (by decide)) hZ
  have hR1 : WR N1 LS := by
    refine ⟨fun l hl => ?_, fun l hl => ⟨(hR.2 l hl).1, fun q => ?_⟩⟩
    · rw [eN1 21 (by decide), eN1 22 (by decide)]; exact hR.1 l hl
    · rw [(hR.2 l hl).2 q, ep_sl hE1, ep_w hE1]
      unfold wh
      rw [eN1 16 (by decide), eN1 10 (by decide), ep_w hE1]
  have hM1 : WM N1 hz := by
    have hvv : ∀ s k, hv N1 s k = hv N s k := fun s k => by unfold hv; rw [eN1 24 (by decide), eN1 26 (by decide)]
    unfold WM
    simp only [ep_sl hE1, ep_w hE1, ep_f hE1, ep_u hE1, hvv, eN1 18 (by decide)]
    exact hM
  have ho1 : oN N1 c = oN N c := ep_o hE1 c
  obtain ⟨N', n1, n2, n3, n4, n5, n6, n7, n8, n9, n10, n11, n12⟩ := makeSlab_eq (N := N1) (c := c) (p := p) hP1 hB1 hG1 hS1 hZ1 hR1 hM1 (by rw [ep_lv hE1]; exact hc) hp (by rw [ho1]; exact i5) (by rw [ho1]; exact i6) (fun q h1 h2 => by
    rw [ho1] at h2
    rw [eN1 2 (by decide), e11]
    exact i4 q h1 h2)
  rw [ep_f hE1] at n2 n6
  have hnS : ¬ Sl N p := by rw [← ep_sl hE1]; exact n10
  have hb : ∀ b, b ≠ 1 → b ≠ 2 → b ≠ 12 → b ≠ 14 → b ≠ 15 → b ≠ 16 → b ≠ 17 → b ≠ 18 → b ≠ 19 → b ≠ 20 → b ≠ 21 → b ≠ 22 → N' b = N b := fun b h1 h2 h3 h4 h5 h6 h7 h8 h9 h10 h11 h12 => by
    rw [n2 b h11 h12]
    unfold m3 m2 m1
    rw [msA_ne h9, msA_ne h10, msA_ne h8, msA_ne h7, msA_ne h6, msA_ne h3, msA_ne h5, msA_ne h4, msA_ne h2]
    exact eN1 b h1
  have e2 : ∀ q, N' 2 q = if p ≤ q ∧ q < p + 2 ^ oN N c then (p : Int) else N 2 q := fun q => by
    rw [n2 2 (by decide) (by decide)]
    show (if p ≤ q ∧ q < p + 2 ^ oN N1 c then (p : Int) else N1 2 q) = _
    rw [ho1, eN1 2 (by decide)]
  have e12 : N' 12 = fu (N 12) c (if N 12 c + 1 = N 11 c then 0 else N 12 c + 1) := by
    rw [n2 12 (by decide) (by decide)]
    show fu (N1 12) c (if N1 12 c + 1 = N1 11 c then 0 else N1 12 c + 1) = _
    rw [eN1 12 (by decide), eN1 11 (by decide)]
  have e14 : N' 14 = fu (N 14) p c := by
    rw [n2 14 (by decide) (by decide)]
    show fu (N1 14) p c = _
    rw [eN1 14 (by decide)]
  have e15 : N' 15 = fu (N 15) p (N 12 c) := by
    rw [n2 15 (by decide) (by decide)]
    show fu (N1 15) p (N1 12 c) = _
    rw [eN1 15 (by decide), eN1 12 (by decide)]
  have e16 : N' 16 = fu (N 16) p 0 := by
    rw [n2 16 (by decide) (by decide)]
    show fu (N1 16) p 0 = _
    rw [eN1 16 (by decide)]
  have e18 : N' 18 = zr (N 18) (U (m1 N1 c p) p) (fun _ => 1) (fN N c) := by
    rw [n2 18 (by decide) (by decide)]
    show zr (N1 18) (U (m1 N1 c p) p) (fun _ => 1) (fN N c) = _
    rw [eN1 18 (by decide)]
  have e20 : N' 20 = zr (N 20) (U (m1 N1 c p) p) (fun _ => N 8 c) (fN N c) := by
    rw [n2 20 (by decide) (by decide)]
    show zr (N1 20) (U (m1 N1 c p) p) (fun _ => N1 8 c) (fN N c) = _
    rw [eN1 20 (by decide), eN1 8 (by decide)]
  have hw' : ∀ q, wN N' q = if q = p then c else wN N q := fun q => by
    unfold wN
    rw [e14]
    unfold fu
    split <;> simp
  have hff : ∀ d, fN N' d = fN N d := fun d => by unfold fN; rw [hb 10 (by decide) (by decide) (by decide) (by decide) (by decide) (by decide) (by decide) (by decide) (by decide) (by decide) (by decide) (by decide)]
  have hoo : ∀ d, oN N' d = oN N d := fun d => by unfold oN; rw [hb 7 (by decide) (by decide) (by decide) (by decide) (by decide) (by decide) (by decide) (by decide) (by decide) (by decide) (by decide) (by decide)]
  have hlv : ∀ d, Lv N' d = Lv N d := fun d => by unfold Lv; rw [hb 3 (by decide) (by decide) (by decide) (by decide) (by decide) (by decide) (by decide) (by decide) (by decide) (by decide) (by decide) (by decide), hb 4 (by decide) (by decide) (by decide) (by decide) (by decide) (by decide) (by decide) (by decide) (by decide) (by decide) (by decide) (by decide)]
  have hu' : ∀ q, q ≠ p → ∀ j, U N' q j = U N q j := fun q hq j => by
    unfold U kN aN sN
    rw [hw', if_neg hq, e15, fu_ne hq, hb 6 (by decide) (by decide) (by decide) (by decide) (by decide) (by decide) (by decide) (by decide) (by decide) (by decide) (by decide) (by decide), hb 9 (by decide) (by decide) (by decide) (by decide) (by decide) (by decide) (by decide) (by decide) (by decide) (by decide) (by decide) (by decide)]
  have hEm : Ep (m1 N1 c p) N' := by
    refine ⟨?_, ?_, ?_, ?_, ?_, ?_, ?_, ?_, ?_, ?_, ?_, ?_⟩ <;> exact n2 _ (by decide) (by decide)
  have hup : ∀ j, U (m1 N1 c p) p j = U N' p j := fun j => (ep_u hEm p j).symm
  have hsl' : ∀ q, Sl N' q ↔ (Sl N q ∨ q = p) := fun q => by
    rw [ep_sl hEm, m1_sl (N := N1) (c := c) (fun q h1 h2 => by rw [ho1] at h2; rw [eN1 2 (by decide)]; exact (i4 q h1 h2).1) hp q, ep_sl hE1]
  have hne' : ∀ q, Sl N q → q ≠ p := fun q hq e => hnS (e ▸ hq)
  have hwp : wN N' p = c := by rw [hw', if_pos rfl]
  have hout : ∀ q j, Sl N q → j < fN N (wN N q) → ∀ i, i < fN N c → U N q j ≠ U (m1 N1 c p) p i := fun q j hq hj i hi => by
    rw [← hu' q (hne' q hq), hup]
    exact u_ne n3 n5 n11 (by rw [hwp, hff]; exact hi) ((hsl' q).mpr (Or.inl hq)) (by rw [hw', if_neg (hne' q hq), hff]; exact hj) (fun z => hne' q hq z.1)
  have hinj : ∀ j k, j < fN N c → k < fN N c → U (m1 N1 c p) p j = U (m1 N1 c p) p k → j = k := fun j k hj hk q => by
    rw [hup, hup] at q
    exact (u_inj n3 n5 n11 (by rw [hwp, hff]; exact hj) n11 (by rw [hwp, hff]; exact hk) q).2
  -- the class
  generalize ht1 : tset (tvA t b (gf 0 0) (hl (fu (tV t b (gf 0 0)) p (-1)) p (oN N c) (k - oN N c))) b (gf 0 1) 0 (wr (tV t b (gf 0 1) 0 - ((2 ^ oN N c : Nat) : Int))) = t1
  have f1 : Fe t t1 [gf 0 0, gf 0 1] := by rw [← ht1]; exact fe_sub (fe_trans (fe_tvA _ _ _ _) (fe_set _ _ _ _ _)) (by decide)
  have t1C : tC t1 = tC t := by rw [← ht1]; rfl
  have t1I : tI t1 = tI t := by rw [← ht1]; rfl
  have t1L : tL t1 = tL t := by rw [← ht1]; rfl
  have t1N : tN t1 = tN t := by rw [← ht1]; rfl
  have hfresh : tC t1 (tN t1) = 0 := by
    rw [t1C, t1N]
    by_cases e : tC t (tN t) = 0
    · exact e
    · have := hT _ e; omega
  obtain ⟨kc1, kc2, kc3, kc4⟩ := kC.1 c hc
  have h16 : tV t1 (ca c) (gf 1 6) 0 = (fN N c : Int) := by rw [fe_v f1 kc1 (by decide), kc2.2.2.2.2.2.2.1]; exact hPc.2.2.2.1.1
  have h18 : tV t1 (ca c) (gf 1 8) 0 = N 12 c := by rw [fe_v f1 kc1 (by decide)]; exact (kV c hc).1
  have h17 : tV t1 (ca c) (gf 1 7) 0 = N 11 c := by rw [fe_v f1 kc1 (by decide)]; exact kc2.2.2.2.2.2.2.2
  have hcne : ca c ≠ tN t1 := fun e => by rw [← e, t1C, kc1] at hfresh; omega
  obtain ⟨t2, s0, s1, s2, s3, s4, s5, s6, s7, s8, s9, s10, s11, s12⟩ := newSlab (t := t1) (ca := ca c) (f := fN N c) (p := p) (col := N 12 c) hfresh (by rw [t1C]; exact kc1) h16 hPc.2.2.2.1.2
  have f2 : Fe t1 t2 [] := nw_fe s1 hfresh s2 []
  have kc12 : tC t2 (ca c) = 1 + 1 := by rw [(s1.2 _ hcne).1, t1C]; exact kc1
  generalize hnc : (if N 12 c + 1 = N 11 c then (0 : Int) else N 12 c + 1) = nc at e12
  have hsl9 : tV t2 (ca c) (gf 1 9) 0 = tV t (ca c) (gf 1 9) 0 := by
    rw [(s1.2 _ hcne).2.2, fe_v f1 kc1 (by decide)]
  generalize ht4 : tset (tset t2 (ca c) (gf 1 8) 0 nc) (ca c) (gf 1 9) 0 (wr (tV t (ca c) (gf 1 9) 0 + 1)) = t4
  have f4 : Fe t2 t4 [gf 1 8, gf 1 9] := by rw [← ht4]; exact fe_sub (fe_trans (fe_set _ _ _ _ _) (fe_set _ _ _ _ _)) (by decide)
  have t4C : tC t4 = tC t2 := by rw [← ht4]; rfl
  have t4I : tI t4 = tI t2 := by rw [← ht4]; rfl
  have t4L : tL t4 = tL t2 := by rw [← ht4]; rfl
  have F4 : Fe t t4 [gf 0 0, gf 0 1, gf 1 8, gf 1 9] := fe_sub (fe_trans (fe_trans f1 f2) f4) (by decide)
  -- slabs' identity and the lists at t4
  have kC4 : KC t4 ca la N' := by
    have hk4 : KC t4 ca la N := kc_fe F4 (kcj _ (by decide)) (fun k _ _ a ci h1 h2 => by
      have hane : a ≠ tN t1 := fun e => by rw [← e, t1C, h1] at hfresh; omega
      rw [t4I, t4L, ((s1.2 a hane).2.1 k).1, ((s1.2 a hane).2.1 k).2, t1I, t1L]
      exact ⟨rfl, rfl⟩) kC
    unfold KC KCc at *
    simp only [hlv]
    rw [hb 5 (by decide) (by decide) (by decide) (by decide) (by decide) (by decide) (by decide) (by decide) (by decide) (by decide) (by decide) (by decide), hb 6 (by decide) (by decide) (by decide) (by decide) (by decide) (by decide) (by decide) (by decide) (by decide) (by decide) (by decide) (by decide), hb 7 (by decide) (by decide) (by decide) (by decide) (by decide) (by decide) (by decide) (by decide) (by decide) (by decide) (by decide) (by decide), hb 8 (by decide) (by decide) (by decide) (by decide) (by decide) (by decide) (by decide) (by decide) (by decide) (by decide) (by decide) (by decide), hb 9 (by decide) (by decide) (by decide) (by decide) (by decide) (by decide) (by decide) (by decide) (by decide) (by decide) (by decide) (by decide), hb 10 (by decide) (by decide) (by decide) (by decide) (by decide) (by decide) (by decide) (by decide) (by decide) (by decide) (by decide) (by decide), hb 11 (by decide) (by decide) (by decide) (by decide) (by decide) (by decide) (by decide) (by decide) (by decide) (by decide) (by decide) (by decide)]
    exact hk4
  have kI4 : KI t4 (fz sa p (tN t1)) ca N' := fun q hq => by
    by_cases e : q = p
    · subst e
      rw [fz_same, hwp, e15, fu_same]
      exact ⟨by rw [t4C]; exact s3, by rw [fe_v f4 s3 (by decide)]; exact s4, by rw [fe_v f4 s3 (by decide)]; exact s5, by rw [fe_v f4 s3 (by decide)]; exact s6⟩
    · have hq' : Sl N q := ((hsl' q).mp hq).resolve_right e
      rw [fz_ne e, hw', if_neg e, e15, fu_ne e]
      exact ki_fe F4 (by decide) (by decide) (by decide) kI q hq'
  have hGL0 := wr_gl hR
  have hGL : GL N' LS := fun l hl => by
    obtain ⟨y1, y2, y3⟩ := hGL0 l hl
    refine ⟨y1, fun q hq => ?_, y3⟩
    have := y2 q hq
    exact ⟨(hsl' q).mpr (Or.inl this.1), by rw [hw', if_neg (hne' q this.1)]; exact this.2⟩
  have hmap : ∀ l, l < 24 → (LS l).map (fz sa p (tN t1)) = (LS l).map sa := fun l hl => by
    refine List.map_congr_left (fun q hq => fz_ne (hne' q ((hGL0 l hl).2.1 q hq).1))
  have kL4 : KL t4 (fz sa p (tN t1)) la N' LS := fun l hl hv => by
    rw [hlv] at hv
    have := kl_fe F4 (by decide) (by decide) (by decide) (by decide) kC kI (lsm hGL0) kL l hl hv
    unfold KLl at *
    rw [hmap l hl]
    refine ⟨this.1, this.2.1, fun q hq => ?_⟩
    rw [fz_ne (hne' q ((hGL0 l hl).2.1 q hq).1)]
    exact this.2.2 q hq
  have hno : ∀ l', l' < 24 → p ∉ LS l' := fun l' hl' h => hnS ((hGL0 l' hl').2.1 p h).1
  have hkd : t_X3_kind t4 (fz sa p (tN t1) p : Int) = some (2, t4) := by
    have := kd_eq n3 n5 kC4 kI4 n11 0 (by rw [fz_same, fe_v f4 s3 (by decide)]; exact s7) ⟨by omega, by omega⟩
    rw [this, if_pos rfl]
  obtain ⟨t5, r1, r2, r3, r4, r5, r6, r7⟩ := relist_new (c := c) (p := p) kC4 kI4 kL4 hGL hc8 (by rw [hlv]; exact hc) n11 hno (by rw [fz_same, fe_v f4 s3 (by decide)]; exact s8) hkd
  rw [fz_same] at r1
  have kC5 := kc_same r3 (kcj _ (by decide)) r5 r6 kC4
  have kI5 := ki_fe r3 (by decide) (by decide) (by decide) kI4
  have F5 : Fe t t5 [gf 0 0, gf 0 1, gf 1 8, gf 1 9, gf 3 4, gf 3 5, gf 3 6, gf 4 0] := fe_sub (fe_trans F4 r3) (by decide)
  have hx5 : tC t5 x = 5 + 1 := fe_c F5 kH.1
  have hsp := setPages_eq (t := t5) (x := x) (s := tN t1) (o := oN N c) (c := ca c) (p := p) (v := ((tN t1 : Nat) : Int)) hx5 (by rw [fe_i F5 kH.1 (by decide)]; exact kH.2.1.1) (by rw [fe_l F5 kH.1 (by decide)]; exact kH.2.1.2) (by have := (kI5 p n11).1; rw [fz_same] at this; exact this) (by have := (kI5 p n11).2.2.1; rw [fz_same] at this; exact this) (by have := (kI5 p n11).2.1; rw [fz_same, hwp] at this; exact this) (kC5.1 c (by rw [hlv]; exact hc)).1 (by rw [(kC5.1 c (by rw [hlv]; exact hc)).2.1.2.2.2.1, hb 7 (by decide) (by decide) (by decide) (by decide) (by decide) (by decide) (by decide) (by decide) (by decide) (by decide) (by decide) (by decide)]; exact hPc.1.1) hPc.1.2 i6 (Or.inr (by rw [Int.toNat_natCast]; have := (kI5 p n11).1; rw [fz_same] at this; exact this))
  generalize ht6 : tvA t5 x (gf 5 1) (rg (tV t5 x (gf 5 1)) p (2 ^ oN N c) ((tN t1 : Nat) : Int)) = t6 at hsp
  have f6 : Fe t5 t6 [gf 5 1] := by rw [← ht6]; exact fe_tvA _ _ _ _
  have t6C : tC t6 = tC t5 := by rw [← ht6]; rfl
  have t6I : tI t6 = tI t5 := by rw [← ht6]; rfl
  have t6L : tL t6 = tL t5 := by rw [← ht6]; rfl
  have F6 : Fe t t6 [gf 0 0, gf 0 1, gf 1 8, gf 1 9, gf 3 4, gf 3 5, gf 3 6, gf 4 0, gf 5 1] := fe_sub (fe_trans F5 f6) (by decide)
  have kC6 := kc_same f6 (kcj _ (by decide)) t6I t6L kC5
  have kI6 := ki_fe f6 (by decide) (by decide) (by decide) kI5
  refine ⟨t6, N', ?_, n1, ⟨⟨n3, n4, n5, n6, n7, n8⟩, n9, ⟨?_, ?_, kC6, ?_, ?_, by rw [← t1N]; exact kI6, ?_, ?_⟩, ?_, ?_, ?_, F6.2.2 hT⟩, n11, n12, hb⟩
  · unfold t_X5_makeSlab_j34 t_X5_makeSlab_j79
    have hdd : ∀ w : Int, w = nc → (Option.bind (tpt t2 1 8 (ca c : Int) w) fun h18 => Option.bind (tgt h18 1 9 (ca c : Int)) fun v19 => Option.bind (tpt h18 1 9 (ca c : Int) (wr (v19 + 1))) fun h20 => Option.bind (tck h20 1 (ca c : Int)) fun u22 => Option.bind (t_X1_relist h20 (ca c : Int) ((tN t1 : Nat) : Int)) fun r21 => Option.bind (tck r21.2 5 (x : Int)) fun u24 => Option.bind (t_X5_setPages r21.2 (x : Int) ((tN t1 : Nat) : Int) ((tN t1 : Nat) : Int)) fun r23 => some (((tN t1 : Nat) : Int), r23.2)) = some ((tN t : Int), t6) := fun w hw => by
      rw [hw, q_pt 8 _ kc12, Option.bind_some, q_gt 9 (show tC (tset t2 (ca c) (gf 1 8) 0 nc) (ca c) = 1 + 1 from kc12), Option.bind_some, tV_set, if_neg (fun q => by have := q.2.1; revert this; decide), hsl9, q_pt 9 _ (show tC (tset t2 (ca c) (gf 1 8) 0 nc) (ca c) = 1 + 1 from kc12), Option.bind_some, ht4, q_ck (show tC t4 (ca c) = 1 + 1 by rw [t4C]; exact kc12), Option.bind_some, r1, Option.bind_some]
      dsimp only
      rw [q_ck hx5, Option.bind_some, hsp, Option.bind_some, t1N]
    rw [if_pos (by omega), q_no, Option.bind_some, q_gt 8 (show tC (tnw t1 3) (ca c) = 1 + 1 by rw [tC_nw, if_neg hcne, t1C]; exact kc1), Option.bind_some, tV_nw, if_neg hcne, h18, q_ck (show tC (tnw t1 3) (tN t1) = 3 + 1 by rw [tC_nw, if_pos rfl]), Option.bind_some, s0, Option.bind_some]
    dsimp only
    rw [q_gt 8 kc12, Option.bind_some, (s1.2 _ hcne).2.2, h18, q_gt 7 kc12, Option.bind_some, (s1.2 _ hcne).2.2, h17, wr_eq (z := N 12 c + 1) ⟨by omega, by omega⟩, Option.bind_some]
    by_cases e : N 11 c ≤ N 12 c + 1
    · rw [if_pos e]
      exact hdd 0 (by rw [← hnc, if_pos (by omega)])
    · rw [if_neg e]
      exact hdd _ (by rw [← hnc, if_neg (by omega)]; exact wr_eq ⟨by omega, by omega⟩)
  · obtain ⟨a1, a2, a3, a4, a5, a6, a7⟩ := kH
    refine ⟨fe_c F6 a1, by rw [t6I, t6L, fe_i F5 a1 (by decide), fe_l F5 a1 (by decide)]; exact a2, by rw [fe_i F6 a1 (by decide), fe_l F6 a1 (by decide)]; exact a3, by rw [fe_v F6 a1 (by decide)]; exact a4, by rw [fe_v F6 a1 (by decide), hb 3 (by decide) (by decide) (by decide) (by decide) (by decide) (by decide) (by decide) (by decide) (by decide) (by decide) (by decide) (by decide)]; exact a5, fun q hq => ?_, fun d hd => by rw [hlv, fe_v F6 a1 (by decide)]; exact a7 d hd⟩
    have : tV t6 x (gf 5 1) q = rg (tV t5 x (gf 5 1)) p (2 ^ oN N c) ((tN t1 : Nat) : Int) q := by rw [← ht6, tV_same]
    rw [this, e2]
    unfold rg
    by_cases e : p ≤ q ∧ q < p + 2 ^ oN N c
    · rw [if_pos e, if_pos e, if_neg (by omega), Int.toNat_natCast, fz_same, t1N]
    · rw [if_neg e, if_neg e, fe_v F5 a1 (by decide), a6 q hq]
      by_cases e3 : N 2 q < 0
      · rw [if_pos e3, if_pos e3]
      · rw [if_neg e3, if_neg e3]
        rcases hG.1 q hq with h | ⟨p', z1, z2, z3, z4⟩
        · omega
        · rw [z2, Int.toNat_natCast, fz_ne (hne' p' z1)]
  · have hcn : cn (N' 2) 256 = cn (N 2) 256 + 2 ^ oN N c := by
      have := cn_add (f := N 2) (g := N' 2) (p := p) (m := 2 ^ oN N c) 256 (fun q _ hq => by rw [e2, if_neg hq]) (fun q h1 h2 => by
        rw [e2, if_pos ⟨h1, h2⟩]
        exact ⟨(i4 q h1 h2).1, by omega⟩)
      rw [this, if_neg (by omega)]
      split <;> omega
    have hle := cn_le (N' 2) 256
    have F26 : Fe t1 t6 [gf 1 8, gf 1 9, gf 3 4, gf 3 5, gf 3 6, gf 4 0, gf 5 1] := fe_sub (fe_trans (fe_trans (fe_trans f2 f4) r3) f6) (by decide)
    have hb1 : tC t1 b = 0 + 1 := by rw [t1C]; exact kB.1
    refine ⟨fe_c F26 hb1, ?_, fun q hq => ?_, ?_⟩
    · rw [fe_i F26 hb1 (by decide), fe_l F26 hb1 (by decide), t1I, t1L]; exact kB.2.1
    · rw [fe_v F26 hb1 (by decide), n2 1 (by decide) (by decide)]
      show _ = N1 1 q
      rw [e11, ← ht1, tV_set, if_neg (fun q => by have := q.2.1; revert this; decide), tV_same]
      exact hl_congr _ _ _ (fun j hj => by unfold fu; rw [kB.2.2.1 j hj]) q hq
    · rw [fe_v F26 hb1 (by decide), ← ht1, tV_set, if_pos ⟨rfl, rfl, rfl⟩, kB.2.2.2, wr_eq ⟨by omega, by omega⟩]
      omega
  · intro d hd
    rw [hlv] at hd
    obtain ⟨y1, y2⟩ := kV d hd
    have yC := (kC.1 d hd).1
    have yne : ca d ≠ tN t1 := fun e => by rw [← e, t1C, yC] at hfresh; omega
    have g8 : tV t6 (ca d) (gf 1 8) 0 = tV t4 (ca d) (gf 1 8) 0 := fe_v (fe_trans r3 f6) (show tC t4 (ca d) = 1 + 1 from fe_c F4 yC) (by decide) 0
    have g11 : tV t6 (ca d) (gf 1 11) 0 = tV t (ca d) (gf 1 11) 0 := fe_v F6 yC (by decide) 0
    rw [g8, g11, hb 13 (by decide) (by decide) (by decide) (by decide) (by decide) (by decide) (by decide) (by decide) (by decide) (by decide) (by decide) (by decide), ← ht4, tV_set, if_neg (fun q => by have := q.2.1; revert this; decide), tV_set, e12]
    refine ⟨?_, y2⟩
    by_cases e : d = c
    · rw [e, if_pos ⟨rfl, rfl, rfl⟩, fu_same]
    · rw [if_neg (fun q => e (ca_inj kC hd hc q.1)), fu_ne e, (s1.2 _ yne).2.2, fe_v f1 yC (by decide)]; exact y1
  · intro d hd
    rw [hlv] at hd
    have y1 := kN' d hd
    have yC := (kC.1 d hd).1
    have yne : ca d ≠ tN t1 := fun e => by rw [← e, t1C, yC] at hfresh; omega
    have g9 : tV t6 (ca d) (gf 1 9) 0 = tV t4 (ca d) (gf 1 9) 0 := fe_v (fe_trans r3 f6) (show tC t4 (ca d) = 1 + 1 from fe_c F4 yC) (by decide) 0
    rw [g9, ← ht4, tV_set]
    by_cases e : d = c
    · subst e
      have hbd : ∀ l, l < 24 → (LS l).length ≤ 256 := fun l hl => (hR.1 l hl).2.1
      have h1 := hbd (3 * d) (by omega)
      have h2 := hbd (3 * d + 1) (by omega)
      have h3 := hbd (3 * d + 2) (by omega)
      rw [if_pos ⟨rfl, rfl, rfl⟩, y1, wr_eq ⟨by omega, by omega⟩, lu_same, lu_ne (by omega), lu_ne (by omega), List.length_cons]
      omega
    · rw [if_neg (fun q => e (ca_inj kC hd hc q.1)), tV_set, if_neg (fun q => by have := q.2.1; revert this; decide), (s1.2 _ yne).2.2, fe_v f1 yC (by decide), lu_ne (by omega), lu_ne (by omega), lu_ne (by omega)]
      exact y1
  · intro q hq
    rw [← t1N]
    by_cases e : q = p
    · subst e
      have F26 : Fe t2 t6 [gf 1 8, gf 1 9, gf 3 4, gf 3 5, gf 3 6, gf 4 0, gf 5 1] := fe_sub (fe_trans (fe_trans f4 r3) f6) (by decide)
      unfold KSp
      rw [fz_same, lu_same, hwp, hff, e16, fu_same, fe_v F26 s3 (by decide), fe_v F26 s3 (by decide), fe_v F26 s3 (by decide), fe_i F26 s3 (by decide), fe_l F26 s3 (by decide), fe_i F26 s3 (by decide), fe_l F26 s3 (by decide)]
      refine ⟨s7, 0, slabL (fN N c), [], rfl, ⟨by omega, by omega, ?_, ?_⟩, s9, s10, s11, s12, trivial, fun j hj => (by cases hj), fun j hj => by omega, fun j hj => by omega, fun j _ h2 => ?_⟩
      · have := hPc.2.2.2.1.2; unfold slabL; split <;> omega
      · unfold slabL; split <;> omega
      · rw [← hup, e20, zr_in _ hinj j h2, hb 8 (by decide) (by decide) (by decide) (by decide) (by decide) (by decide) (by decide) (by decide) (by decide) (by decide) (by decide) (by decide)]
    · have hq' : Sl N q := ((hsl' q).mp hq).resolve_right e
      have h6 := ks_fe F6 (by decide) (by decide) (by decide) (by decide) (by decide) kI kS q hq'
      have hsq : fz sa p (tN t1) q = sa q := fz_ne e
      have h7 : KSp t6 (fz sa p (tN t1)) N FL q := by unfold KSp at *; rw [hsq]; exact h6
      refine ksp_congr h7 (fun _ _ => rfl) (fun _ => rfl) (fun _ => rfl) (by rw [e16, fu_ne e]) (lu_ne e) (by rw [hw', if_neg e]) (hff _) (hu' q e) (by rw [hb 8 (by decide) (by decide) (by decide) (by decide) (by decide) (by decide) (by decide) (by decide) (by decide) (by decide) (by decide) (by decide)]) (fun j hj => ?_) (fun j hj => ?_)
      · rw [e18, zr_out _ (hout q j hq' hj)]
      · rw [e20, zr_out _ (hout q j hq' hj)]
  · rw [← t1N]
    have hm6 : ∀ l', l' < 24 → ∀ q, q ∈ lu LS (3 * c + 2) (p :: LS (3 * c + 2)) l' → Sl N' q := fun l' hl' q hq => (((n8.2 l' hl').2 q).mp hq).1
    exact kl_fe f6 (by decide) (by decide) (by decide) (by decide) kC5 kI5 hm6 r2
  · exact kp_lv hlv (kp_fe F6 (by decide) (by decide) (by decide) (by decide) kC kP)
  · exact km_lv hlv (hb 24 (by decide) (by decide) (by decide) (by decide) (by decide) (by decide) (by decide) (by decide) (by decide) (by decide) (by decide) (by decide)) (hb 26 (by decide) (by decide) (by decide) (by decide) (by decide) (by decide) (by decide) (by decide) (by decide) (by decide) (by decide) (by decide)) (km_fe F6 (by decide) (by decide) kM)
  · intro d hd
    rw [hlv] at hd
    rw [kz_fe F6 (by decide) kC kZ d hd]
    suffices h : lc N' d 32768 = lc N d 32768 by rw [h]
    refine lc_congr 32768 (fun u hu => ?_)
    by_cases e : ∃ i, i < fN N c ∧ u = U (m1 N1 c p) p i
    · obtain ⟨i, h1, h2⟩ := e
      have z1 : N' 18 u = 1 := by rw [h2, e18, zr_in _ hinj i h1]
      have z2 : N 18 u ≠ 2 := fun z => by
        obtain ⟨q, j, y1, y2, y3⟩ := hZ u hu (by omega)
        exact hout q j y1 y2 i h1 (by rw [← y3, ← h2])
      constructor
      · rintro ⟨q, _⟩; omega
      · rintro ⟨q, _⟩; exact absurd q z2
    · have z1 : N' 18 u = N 18 u := by rw [e18, zr_out _ (fun j hj q => e ⟨j, hj, q⟩)]
      rw [z1]
      by_cases e3 : N 18 u = 2
      · obtain ⟨q, j, y1, y2, y3⟩ := hZ u hu (by omega)
        have y4 := (u_pg hP hG y1 y2).1
        rw [← y3] at y4
        have : N' 2 (u / 128) = N 2 (u / 128) := by
          rw [e2, if_neg]
          rintro ⟨w1, w2⟩
          have := (i4 _ w1 w2).1
          omega
        rw [this, y4, Int.toNat_natCast, e14, fu_ne (hne' q y1)]
      · exact ⟨fun z => absurd z.1 e3, fun z => absurd z.1 e3⟩
end
