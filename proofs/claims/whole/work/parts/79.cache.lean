/-! a new cache -/
def Cst (t0 t : Th) (a nl nm : Nat) (F : Nat → Int) (L M : Nat → Nat) : Prop :=
  (tN t0 ≤ a ∧ a < tN t ∧ tC t a = 1 + 1) ∧ (∀ b, tC t b ≠ 0 → b < tN t) ∧ Fe t0 t [] ∧
  ((0 ≤ tI t a 12 ∧ tL t a 12 = 3) ∧ (0 ≤ tI t a 13 ∧ tL t a 13 = 4) ∧ (0 ≤ tI t a 14 ∧ tL t a 14 = 4) ∧ 0 ≤ tI t a 15 ∧ tL t a 15 = 3) ∧
  (∀ k, k < 17 → k ≠ 12 → k ≠ 13 → k ≠ 14 → k ≠ 15 → tV t a (gf 1 k) 0 = F k) ∧
  ((∀ w, w < nl → tV t a (gf 1 12) w = (L w : Int) ∧ tC t (L w) = 4 + 1 ∧ tV t (L w) (gf 4 0) 0 = -1 ∧ a < L w) ∧ ∀ w w', w < nl → w' < nl → L w = L w' → w = w') ∧
  ((∀ j, j < nm → tV t a (gf 1 (13 + j % 2)) (j / 2) = (M j : Int) ∧ tC t (M j) = 2 + 1 ∧ (0 ≤ tI t (M j) 0 ∧ tL t (M j) 0 = 4) ∧ tV t (M j) (gf 2 1) 0 = 0 ∧ a < M j) ∧ ∀ j j', j < nm → j' < nm → M j = M j' → j = j')
section
variable {t t0 t' : Th} {a nl nm k K i w n : Nat} {F : Nat → Int} {L M : Nat → Nat} {v z : Int}
theorem nw_nw (t : Th) (ci : Nat) : Nw t (tnw t ci) (tN t) := by
  refine ⟨by rw [tN_nw]; omega, fun b hb => ⟨?_, fun k => ⟨?_, ?_⟩, fun j i => ?_⟩⟩
  · rw [tC_nw, if_neg hb]
  · rw [tI_nw, if_neg hb]
  · rw [tL_nw, if_neg hb]
  · rw [tV_nw, if_neg hb]
/-- a field's value -/
theorem st_pt (hT0 : ∀ b, tC t0 b ≠ 0 → b < tN t0) (h : Cst t0 t a nl nm F L M) (k : Nat) (v : Int) (hk : k < 17 ∧ k ≠ 12 ∧ k ≠ 13 ∧ k ≠ 14 ∧ k ≠ 15) : ∃ T, tpt t 1 k (a : Int) v = some T ∧ Cst t0 T a nl nm (fu F k v) L M := by
  obtain ⟨⟨a1, a2, a3⟩, a4, a5, a6, a7, ⟨a8, a9⟩, a10, a11⟩ := h
  have hne : ∀ j m, j ≠ gf 1 k → tV (tset t a (gf 1 k) 0 v) a j m = tV t a j m := fun j m hj => by rw [tV_set, if_neg (fun q => hj q.2.1)]
  have hne2 : ∀ b j m, b ≠ a → tV (tset t a (gf 1 k) 0 v) b j m = tV t b j m := fun b j m hb => by rw [tV_set, if_neg (fun q => hb q.1)]
  refine ⟨tset t a (gf 1 k) 0 v, q_pt k v a3, ⟨a1, a2, a3⟩, a4, ⟨a5.1, fun b ci hb => ⟨(a5.2.1 b ci hb).1, fun j hj => ?_⟩, fun _ => a4⟩, a6, fun j h1 h2 h3 h4 h5 => ?_, ⟨fun w hw => ?_, a9⟩, fun j hj => ?_, a11⟩
  · obtain ⟨q1, q2, q3⟩ := (a5.2.1 b ci hb).2 j hj
    have hb' : b ≠ a := fun e => by have := hT0 b (by omega); omega
    exact ⟨q1, q2, fun i => by rw [hne2 b _ _ hb']; exact q3 i⟩
  · by_cases e : j = k
    · subst e; rw [tV_set, if_pos ⟨rfl, rfl, rfl⟩, fu_same]
    · rw [hne _ _ (by unfold gf; omega), fu_ne e]; exact a7 j h1 h2 h3 h4 h5
  · obtain ⟨q1, q2, q3, q4⟩ := a8 w hw
    exact ⟨by rw [hne _ _ (by unfold gf; omega)]; exact q1, q2, by rw [hne2 _ _ _ (by omega)]; exact q3, q4⟩
  · obtain ⟨q1, q2, q3, q4, q5⟩ := a10 j hj
    exact ⟨by rw [hne _ _ (by unfold gf; omega)]; exact q1, q2, q3, by rw [hne2 _ _ _ (by omega)]; exact q4, q5⟩
/-- a new object, put into an array of the cache -/
theorem st_new (hT0 : ∀ b, tC t0 b ≠ 0 → b < tN t0) (h : Cst t0 t a nl nm F L M) (hN : Nw t t' (tN t)) (hlt : tN t < tN t') (hK : K = 12 ∨ K = 13 ∨ K = 14) (h12 : K = 12 → nl ≤ i) (h13 : ∀ j, j < nm → ¬ (K = 13 + j % 2 ∧ i = j / 2)) : Cst t0 (tset t' a (gf 1 K) i (tN t : Int)) a nl nm F L M := by
  obtain ⟨⟨a1, a2, a3⟩, a4, a5, a6, a7, ⟨a8, a9⟩, a10, a11⟩ := h
  have gC : ∀ b, b ≠ tN t → tC t' b = tC t b := fun b hb => (hN.2 b hb).1
  have gI : ∀ b, b ≠ tN t → ∀ k, tI t' b k = tI t b k ∧ tL t' b k = tL t b k := fun b hb => (hN.2 b hb).2.1
  have gV : ∀ b, b ≠ tN t → ∀ j m, ¬ (b = a ∧ j = gf 1 K ∧ m = i) → tV (tset t' a (gf 1 K) i (tN t : Int)) b j m = tV t b j m := fun b hb j m hn => by rw [tV_set, if_neg hn]; exact (hN.2 b hb).2.2 j m
  have hlt4 : ∀ b, tC t b ≠ 0 → b ≠ tN t := fun b hb e => by have := a4 b hb; omega
  have hA := gI a (by omega)
  refine ⟨⟨a1, by show a < tN t'; omega, by show tC t' a = _; rw [gC a (by omega)]; exact a3⟩, fun b hb => ?_, ⟨by show tN t0 ≤ tN t'; omega, fun b ci hb => ?_, fun _ b hb => ?_⟩, ?_, fun j h1 h2 h3 h4 h5 => ?_, ⟨fun w hw => ?_, a9⟩, fun j hj => ?_, a11⟩
  · show b < tN t'
    by_cases e : b = tN t
    · omega
    · have : tC t' b ≠ 0 := hb
      rw [gC b e] at this
      have := a4 b this
      omega
  · have hb' := hT0 b (by omega)
    obtain ⟨q1, q2⟩ := a5.2.1 b ci hb
    refine ⟨by show tC t' b = _; rw [gC b (by omega)]; exact q1, fun j hj => ?_⟩
    obtain ⟨r1, r2, r3⟩ := q2 j hj
    refine ⟨?_, ?_, fun i => ?_⟩
    · show tI t' b j = _
      rw [(gI b (by omega) j).1]; exact r1
    · show tL t' b j = _
      rw [(gI b (by omega) j).2]; exact r2
    · rw [gV b (by omega) _ _ (fun z => by omega)]; exact r3 i
  · show b < tN t'
    by_cases e : b = tN t
    · omega
    · have : tC t' b ≠ 0 := hb
      rw [gC b e] at this
      have := a4 b this
      omega
  · show (0 ≤ tI t' a 12 ∧ tL t' a 12 = 3) ∧ (0 ≤ tI t' a 13 ∧ tL t' a 13 = 4) ∧ (0 ≤ tI t' a 14 ∧ tL t' a 14 = 4) ∧ 0 ≤ tI t' a 15 ∧ tL t' a 15 = 3
    rw [(hA 12).1, (hA 12).2, (hA 13).1, (hA 13).2, (hA 14).1, (hA 14).2, (hA 15).1, (hA 15).2]
    exact a6
  · rw [gV a (by omega) _ _ (fun z => by have := z.2.1; unfold gf at this; omega)]
    exact a7 j h1 h2 h3 h4 h5
  · obtain ⟨q1, q2, q3, q4⟩ := a8 w hw
    have hl := hlt4 (L w) (by omega)
    refine ⟨?_, by show tC t' (L w) = _; rw [gC _ hl]; exact q2, by rw [gV _ hl _ _ (fun z => by omega)]; exact q3, q4⟩
    rw [gV a (by omega) _ _ (fun z => by have := z.2.1; unfold gf at this; have := h12 (by omega); omega)]
    exact q1
  · obtain ⟨q1, q2, q3, q4, q5⟩ := a10 j hj
    have hl := hlt4 (M j) (by omega)
    refine ⟨?_, by show tC t' (M j) = _; rw [gC _ hl]; exact q2, ?_, by rw [gV _ hl _ _ (fun z => by omega)]; exact q4, q5⟩
    · rw [gV a (by omega) _ _ (fun z => h13 j hj ⟨by have := z.2.1; unfold gf at this; omega, z.2.2.symm⟩)]
      exact q1
    · show 0 ≤ tI t' (M j) 0 ∧ tL t' (M j) 0 = 4
      rw [(gI _ hl 0).1, (gI _ hl 0).2]
      exact q3
theorem st_L (hT0 : ∀ b, tC t0 b ≠ 0 → b < tN t0) (h : Cst t0 t a nl nm F L M) (hnl : nl < 3) (hz : z = (nl : Int)) : ∃ T, (∀ k : Th → Option (Int × Th), (Option.bind (trf t 1 12 (a : Int)) fun v25 => Option.bind (tno t 4) fun h26 => Option.bind (tck h26 4 ((tN t : Nat) : Int)) fun _ => Option.bind (t_X4_init h26 ((tN t : Nat) : Int)) fun r27 => Option.bind (trs r27.2 1 12 (a : Int) v25 z ((tN t : Nat) : Int)) k) = k T) ∧ Cst t0 T a (nl + 1) nm F (fz L nl (tN t)) M := by
  subst hz
  obtain ⟨⟨a1, a2, a3⟩, a4, a5, a6, a7, ⟨a8, a9⟩, a10, a11⟩ := id h
  have hC : tC (tnw t 4) (tN t) = 4 + 1 := by rw [tC_nw, if_pos rfl]
  have hCa : tC (tnw t 4) a = 1 + 1 := by rw [tC_nw, if_neg (by omega)]; exact a3
  have hI : tI t a 12 = tI (tnw t 4) a 12 := by rw [tI_nw, if_neg (by omega)]
  have hL : tL (tnw t 4) a 12 = 3 := by rw [tL_nw, if_neg (by omega)]; exact a6.1.2
  refine ⟨tset (tnw t 4) a (gf 1 12) nl (tN t : Int), fun k => ?_, ?_⟩
  · rw [q_rf 12 a3, Option.bind_some, q_no, Option.bind_some, q_ck hC, Option.bind_some]
    unfold t_X4_init
    rw [q_ck hC, Option.bind_some, Option.bind_some]
    dsimp only
    rw [hI, q_rs hCa (by rw [← hI]; exact a6.1.1) (by rw [hL]; exact hnl) (Or.inr (by rw [Int.toNat_natCast]; exact hC)), Option.bind_some]
  · have h2 := st_new (K := 12) (i := nl) hT0 h (nw_nw t 4) (by rw [tN_nw]; omega) (Or.inl rfl) (fun _ => Nat.le_refl _) (fun j _ q => by omega)
    obtain ⟨b1, b4, b5, b6, b7, ⟨b8, b9⟩, b10⟩ := h2
    have hlt : ∀ w, w < nl → L w < tN t := fun w hw => a4 _ (by have := (a8 w hw).2.1; omega)
    refine ⟨b1, b4, b5, b6, b7, ⟨fun w hw => ?_, fun w w' hw hw' e => ?_⟩, b10⟩
    · by_cases e : w = nl
      · subst e
        rw [fz_same]
        refine ⟨by rw [tV_set, if_pos ⟨rfl, rfl, rfl⟩], hC, ?_, a2⟩
        rw [tV_set, if_neg (fun q => by omega), tV_nw, if_pos rfl]
        rfl
      · rw [fz_ne e]; exact b8 w (by omega)
    · by_cases e1 : w = nl
      · by_cases e2 : w' = nl
        · omega
        · rw [e1, fz_same, fz_ne e2] at e
          have := hlt w' (by omega); omega
      · by_cases e2 : w' = nl
        · rw [e2, fz_same, fz_ne e1] at e
          have := hlt w (by omega); omega
        · rw [fz_ne e1, fz_ne e2] at e
          exact a9 w w' (by omega) (by omega) e
theorem st_M (hT0 : ∀ b, tC t0 b ≠ 0 → b < tN t0) (h : Cst t0 t a nl nm F L M) (hnm : nm < 8) (hK : K = 13 + nm % 2) (hz : z = ((nm / 2 : Nat) : Int)) : ∃ T, (∀ k : Th → Option (Int × Th), (Option.bind (trf t 1 K (a : Int)) fun v40 => Option.bind (tno t 2) fun h41 => Option.bind (tck h41 2 ((tN t : Nat) : Int)) fun _ => Option.bind (t_X2_init h41 ((tN t : Nat) : Int)) fun r42 => Option.bind (trs r42.2 1 K (a : Int) v40 z ((tN t : Nat) : Int)) k) = k T) ∧ Cst t0 T a nl (nm + 1) F L (fz M nm (tN t)) := by
  subst hz
  obtain ⟨⟨a1, a2, a3⟩, a4, a5, a6, a7, ⟨a8, a9⟩, a10, a11⟩ := id h
  obtain ⟨t2, s1, s2, s3, s4, s5, s6, s7⟩ := newMag (t := t)
  have hne : a ≠ tN t := by omega
  have hCa : tC t2 a = 1 + 1 := by rw [(s3.2 a hne).1]; exact a3
  have hK2 : K = 13 ∨ K = 14 := by omega
  have hI : tI t a K = tI t2 a K := ((s3.2 a hne).2.1 K).1.symm
  have hI0 : 0 ≤ tI t a K ∧ tL t a K = 4 := by
    rcases hK2 with e | e
    · rw [e]; exact a6.2.1
    · rw [e]; exact a6.2.2.1
  have hL : tL t2 a K = 4 := by rw [((s3.2 a hne).2.1 K).2]; exact hI0.2
  have hak : akd 1 K - 9 = 2 + 1 := by
    rcases hK2 with e | e <;> rw [e] <;> rfl
  refine ⟨tset t2 a (gf 1 K) (nm / 2) (tN t : Int), fun k => ?_, ?_⟩
  · rw [q_rf K a3, Option.bind_some, q_no, Option.bind_some, s2, Option.bind_some, s1, Option.bind_some]
    dsimp only
    rw [hI, q_rs hCa (by rw [← hI]; exact hI0.1) (by rw [hL]; omega) (Or.inr (by rw [Int.toNat_natCast, hak]; exact s5)), Option.bind_some]
  · have h2 := st_new (K := K) (i := nm / 2) hT0 h s3 (by omega) (Or.inr hK2) (fun q => by omega) (fun j hj q => by omega)
    obtain ⟨b1, b4, b5, b6, b7, b8, b10, b11⟩ := h2
    have hlt : ∀ w, w < nm → M w < tN t := fun w hw => a4 _ (by have := (a10 w hw).2.1; omega)
    refine ⟨b1, b4, b5, b6, b7, b8, fun w hw => ?_, fun w w' hw hw' e => ?_⟩
    · by_cases e : w = nm
      · subst e
        rw [fz_same, ← hK]
        exact ⟨by rw [tV_set, if_pos ⟨rfl, rfl, rfl⟩], s5, s6, by rw [tV_set, if_neg (fun q => by omega)]; exact s7, a2⟩
      · rw [fz_ne e]; exact b10 w (by omega)
    · by_cases e1 : w = nm
      · by_cases e2 : w' = nm
        · omega
        · rw [e1, fz_same, fz_ne e2] at e
          have := hlt w' (by omega); omega
      · by_cases e2 : w' = nm
        · rw [e2, fz_same, fz_ne e1] at e
          have := hlt w (by omega); omega
        · rw [fz_ne e1, fz_ne e2] at e
          exact a11 w w' (by omega) (by omega) e
theorem j131_eq (hT0 : ∀ b, tC t0 b ≠ 0 → b < tN t0) (h : Cst t0 t a 0 0 F L M) (v : Int) : ∃ t2 L' M', t_X1_init_j131 t (a : Int) (a : Int) v = some (0, t2) ∧ Cst t0 t2 a 3 8 (fu F 7 v) L' M' := by
  obtain ⟨T0, e0, C0⟩ := st_pt hT0 h 7 v (by decide)
  obtain ⟨T1, e1, C1⟩ := st_L (z := 0) hT0 C0 (by decide) rfl
  obtain ⟨T2, e2, C2⟩ := st_L (z := 1) hT0 C1 (by decide) rfl
  obtain ⟨T3, e3, C3⟩ := st_L (z := 2) hT0 C2 (by decide) rfl
  obtain ⟨S0, f0, D0⟩ := st_M (K := 13) (z := 0) hT0 C3 (by decide) rfl rfl
  obtain ⟨S1, f1, D1⟩ := st_M (K := 14) (z := 0) hT0 D0 (by decide) rfl rfl
  obtain ⟨S2, f2, D2⟩ := st_M (K := 13) (z := 1) hT0 D1 (by decide) rfl rfl
  obtain ⟨S3, f3, D3⟩ := st_M (K := 14) (z := 1) hT0 D2 (by decide) rfl rfl
  obtain ⟨S4, f4, D4⟩ := st_M (K := 13) (z := 2) hT0 D3 (by decide) rfl rfl
  obtain ⟨S5, f5, D5⟩ := st_M (K := 14) (z := 2) hT0 D4 (by decide) rfl rfl
  obtain ⟨S6, f6, D6⟩ := st_M (K := 13) (z := 3) hT0 D5 (by decide) rfl rfl
  obtain ⟨S7, f7, D7⟩ := st_M (K := 14) (z := 3) hT0 D6 (by decide) rfl rfl
  refine ⟨S7, _, _, ?_, D7⟩
  unfold t_X1_init_j131
  rw [e0, Option.bind_some]
  refine (e1 _).trans ?_
  refine (e2 _).trans ?_
  refine (e3 _).trans ?_
  refine (f0 _).trans ?_
  refine (f1 _).trans ?_
  refine (f2 _).trans ?_
  refine (f3 _).trans ?_
  refine (f4 _).trans ?_
  refine (f5 _).trans ?_
  refine (f6 _).trans ?_
  refine (f7 _).trans ?_
  rfl
theorem q_an' {ci bound : Nat} (ha : tC t a = ci + 1) (hz : z = (n : Int)) (hn : n ≤ bound) : tan t ci k bound (a : Int) z = some (tarr t a ci k n (fun _ => if akd ci k ≤ 10 then 0 else -1)) := by
  subst hz
  exact q_an ha hn
theorem newCache {t : Th} (hT0 : ∀ b, tC t b ≠ 0 → b < tN t) {num size align order tag stride objects sp : Int} (h1 : ian (wr ((wr (size + align)) - 1)) (wr (-align)) = stride) (h2 : 0 < stride) (h3 : idv (ish 1024 order) stride = some objects) (h4 : 0 < align) (h5 : idv (wr (ish 1024 order - wr (objects * stride))) align = some sp) : ∃ t2 L M, t_X1_init (tnw t 1) ((tN t : Nat) : Int) num size align order tag = some (0, t2) ∧ Cst t t2 (tN t) 3 8 (fu (fu (fu (fu (fu (fu (fu (fu (fun _ => 0) 0 num) 1 size) 2 align) 3 order) 4 tag) 5 stride) 6 objects) 7 (wr (sp + 1))) L M := by
  have hC : tC (tnw t 1) (tN t) = 1 + 1 := by rw [tC_nw, if_pos rfl]
  have hfr : tC t (tN t) = 0 := by
    by_cases e : tC t (tN t) = 0
    · exact e
    · have := hT0 _ e; omega
  obtain ⟨T4, e1, C0⟩ : ∃ T4, (∀ k : Th → Option (Int × Th), (Option.bind (tan (tnw t 1) 1 12 3 ((tN t : Nat) : Int) 3) fun h3 => Option.bind (tan h3 1 13 4 ((tN t : Nat) : Int) 4) fun h5 => Option.bind (tan h5 1 14 4 ((tN t : Nat) : Int) 4) fun h7 => Option.bind (tan h7 1 15 3 ((tN t : Nat) : Int) 3) k) = k T4) ∧ Cst t T4 (tN t) 0 0 (fun _ => 0) id id := by
    refine ⟨tarr (tarr (tarr (tarr (tnw t 1) (tN t) 1 12 3 (fun _ => if akd 1 12 ≤ 10 then 0 else -1)) (tN t) 1 13 4 (fun _ => if akd 1 13 ≤ 10 then 0 else -1)) (tN t) 1 14 4 (fun _ => if akd 1 14 ≤ 10 then 0 else -1)) (tN t) 1 15 3 (fun _ => if akd 1 15 ≤ 10 then 0 else -1), fun k => ?_, ?_⟩
    · rw [q_an' (z := 3) (n := 3) hC rfl (Nat.le_refl _), Option.bind_some, q_an' (z := 4) (n := 4) (by rw [tC_ar]; exact hC) rfl (Nat.le_refl _), Option.bind_some, q_an' (z := 4) (n := 4) (by rw [tC_ar, tC_ar]; exact hC) rfl (Nat.le_refl _), Option.bind_some, q_an' (z := 3) (n := 3) (by rw [tC_ar, tC_ar, tC_ar]; exact hC) rfl (Nat.le_refl _), Option.bind_some]
    · refine ⟨⟨Nat.le_refl _, ?_, ?_⟩, fun b hb => ?_, ⟨?_, fun b ci hb => ⟨?_, fun k _ => ⟨?_, ?_, fun i => ?_⟩⟩, fun _ b hb => ?_⟩, ⟨⟨?_, ?_⟩, ⟨?_, ?_⟩, ⟨?_, ?_⟩, ?_, ?_⟩, fun k k1 k2 k3 k4 k5 => ?_, ⟨fun w hw => by omega, fun w w' hw => by omega⟩, fun w hw => by omega, fun w w' hw => by omega⟩
      · simp only [tN_ar, tN_nw]; omega
      · simp only [tC_ar]; exact hC
      · simp only [tC_ar, tC_nw] at hb
        simp only [tN_ar, tN_nw]
        split at hb
        · omega
        · have := hT0 b hb; omega
      · simp only [tN_ar, tN_nw]; omega
      · have hne : b ≠ tN t := fun e => by rw [e, hfr] at hb; omega
        simp only [tC_ar, tC_nw, if_neg hne]; exact hb
      · have hne : b ≠ tN t := fun e => by rw [e, hfr] at hb; omega
        simp [tI_ar, tI_nw, hne]
      · have hne : b ≠ tN t := fun e => by rw [e, hfr] at hb; omega
        simp [tL_ar, tL_nw, hne]
      · have hne : b ≠ tN t := fun e => by rw [e, hfr] at hb; omega
        simp [tV_ar, tV_nw, hne]
      · simp only [tC_ar, tC_nw] at hb
        simp only [tN_ar, tN_nw]
        split at hb
        · omega
        · have := hT0 b hb; omega
      · simp [tI_ar, tN_ar, tN_nw]; omega
      · simp [tL_ar]
      · simp [tI_ar, tN_ar, tN_nw]; omega
      · simp [tL_ar]
      · simp [tI_ar, tN_ar, tN_nw]; omega
      · simp [tL_ar]
      · simp [tI_ar, tN_ar, tN_nw]; omega
      · simp [tL_ar]
      · have g : ∀ j, j ≠ k → ¬ gf 1 k = gf 1 j := fun j hj => by unfold gf; omega
        simp only [tV_ar, tV_nw, g 12 (fun e => k2 e.symm), g 13 (fun e => k3 e.symm), g 14 (fun e => k4 e.symm), g 15 (fun e => k5 e.symm), and_false, if_false, if_true]
        have : k = 0 ∨ k = 1 ∨ k = 2 ∨ k = 3 ∨ k = 4 ∨ k = 5 ∨ k = 6 ∨ k = 7 ∨ k = 8 ∨ k = 9 ∨ k = 10 ∨ k = 11 ∨ k = 16 := by omega
        rcases this with rfl | rfl | rfl | rfl | rfl | rfl | rfl | rfl | rfl | rfl | rfl | rfl | rfl <;> rfl
  obtain ⟨S0, f0, D0⟩ := st_pt hT0 C0 0 num (by decide)
  obtain ⟨S1, f1, D1⟩ := st_pt hT0 D0 1 size (by decide)
  obtain ⟨S2, f2, D2⟩ := st_pt hT0 D1 2 align (by decide)
  obtain ⟨S3, f3, D3⟩ := st_pt hT0 D2 3 order (by decide)
  obtain ⟨S4, f4, D4⟩ := st_pt hT0 D3 4 tag (by decide)
  obtain ⟨S5, f5, D5⟩ := st_pt hT0 D4 5 stride (by decide)
  obtain ⟨S6, f6, D6⟩ := st_pt hT0 D5 6 objects (by decide)
  obtain ⟨t2, L', M', g1, g2⟩ := j131_eq hT0 D6 (wr (sp + 1))
  have v5 := D5.2.2.2.2.1 5 (by decide) (by decide) (by decide) (by decide) (by decide)
  rw [fu_same] at v5
  have w6 := D6.2.2.2.2.1 6 (by decide) (by decide) (by decide) (by decide) (by decide)
  rw [fu_same] at w6
  have w5 := D6.2.2.2.2.1 5 (by decide) (by decide) (by decide) (by decide) (by decide)
  rw [fu_ne (by decide), fu_same] at w5
  refine ⟨t2, L', M', ?_, g2⟩
  unfold t_X1_init
  rw [q_ck hC, Option.bind_some]
  refine (e1 _).trans ?_
  rw [f0, Option.bind_some, f1, Option.bind_some, f2, Option.bind_some, f3, Option.bind_some, f4, Option.bind_some]
  unfold t_X5_roundedUp
  rw [h1, Option.bind_some]
  dsimp only
  rw [f5, Option.bind_some, q_gt 5 D5.1.2.2, Option.bind_some, v5, if_neg (by omega), Option.bind_some, h3, Option.bind_some]
  unfold t_X1_init_j99
  rw [f6, Option.bind_some, q_gt 6 D6.1.2.2, Option.bind_some, w6, q_gt 5 D6.1.2.2, Option.bind_some, w5, if_neg (by omega), h5, Option.bind_some]
  exact g1
end
