/-! the start: the class -/
def tz (n : Nat) : Th := (fun _ => 0, fun _ _ => -1, fun _ _ => 0, fun _ _ _ => 0, n)
theorem ht_z (n : Nat) : HT (fun _ => False) (hp0 n) (hp0 n) (tz n) := ⟨⟨rfl, Nat.le_refl _⟩, fun a ci h => absurd (show 0 = ci + 1 from h) (by omega), fun a ci k a' ci' k' h => absurd (show 0 = ci + 1 from h) (by omega), fun a h => h.elim⟩
theorem bi_lp {b : Nat} : ∀ (n i : Nat) (T : Th) (m : Nat), i + n = 4 → n < m → tC T b = 0 + 1 → 0 ≤ tI T b 0 → tL T b 0 = 256 → ∃ T', t_X0_init_b30 m T (b : Int) ((64 * i : Nat) : Int) = some (0, T') ∧ tC T' = tC T ∧ tI T' = tI T ∧ tL T' = tL T ∧ tN T' = tN T ∧ (∀ a j q, ¬ (a = b ∧ j = gf 0 0) → tV T' a j q = tV T a j q) ∧ ∀ p, tV T' b (gf 0 0) p = if 64 * i ≤ p ∧ p < 256 ∧ p % 64 = 0 then 6 else tV T b (gf 0 0) p := by
  intro n
  induction n with
  | zero =>
    intro i T m hi hm hC hI hL
    cases m with
    | zero => omega
    | succ m =>
      refine ⟨T, ?_, rfl, rfl, rfl, rfl, fun _ _ _ _ => rfl, fun p => ?_⟩
      · show t_X0_init_s30 _ T (b : Int) _ = _
        unfold t_X0_init_s30
        rw [if_pos (by omega)]
      · rw [if_neg (by omega)]
  | succ n ih =>
    intro i T m hi hm hC hI hL
    cases m with
    | zero => omega
    | succ m =>
      obtain ⟨T', z1, z2, z3, z4, z5, z6, z7⟩ := ih (i + 1) (tset T b (gf 0 0) (64 * i) 6) m (by omega) (by omega) hC hI hL
      refine ⟨T', ?_, z2, z3, z4, z5, fun a j q h => ?_, fun p => ?_⟩
      · show t_X0_init_s30 _ T (b : Int) _ = _
        unfold t_X0_init_s30
        rw [if_neg (by omega), q_rf 0 hC, Option.bind_some, q_as hC hI (by omega), Option.bind_some, wr_eq (z := ((64 * i : Nat) : Int) + 64) ⟨by omega, by omega⟩, show ((64 * i : Nat) : Int) + 64 = ((64 * (i + 1) : Nat) : Int) by omega]
        exact z1
      · rw [z6 a j q h, tV_set, if_neg (fun z => h ⟨z.1, z.2.1⟩)]
      · rw [z7, tV_set]
        by_cases e : p = 64 * i
        · rw [if_neg (by omega), if_pos ⟨rfl, rfl, e⟩, if_pos (by omega)]
        · by_cases e2 : 64 * (i + 1) ≤ p ∧ p < 256 ∧ p % 64 = 0
          · rw [if_pos e2, if_pos (by omega)]
          · rw [if_neg e2, if_neg (fun z => e z.2.2), if_neg (by omega)]
theorem init5 (n : Nat) : ∃ t, t_X5_init (tnw (tz n) 5) (n : Int) = some (0, t) ∧ tC t n = 5 + 1 ∧ (0 ≤ tI t n 1 ∧ tL t n 1 = 256) ∧ (0 ≤ tI t n 2 ∧ tL t n 2 = 8) ∧ tV t n (gf 5 0) 0 = ((n + 1 : Nat) : Int) ∧ tV t n (gf 5 3) 0 = 0 ∧ (∀ q, tV t n (gf 5 1) q = -1) ∧ (∀ c, tV t n (gf 5 2) c = -1) ∧ tC t (n + 1) = 0 + 1 ∧ (0 ≤ tI t (n + 1) 0 ∧ tL t (n + 1) 0 = 256) ∧ (∀ p, p < 256 → tV t (n + 1) (gf 0 0) p = if p % 64 = 0 then 6 else -1) ∧ tV t (n + 1) (gf 0 1) 0 = 256 ∧ ∀ a, tC t a ≠ 0 → a < tN t := by
  have c0 : tC (tnw (tz n) 5) n = 5 + 1 := by rw [tC_nw]; exact if_pos rfl
  have n0 : tN (tnw (tz n) 5) = n + 1 := rfl
  generalize hT0 : tnw (tz n) 5 = T0 at c0 n0
  have c1 : tC (tnw T0 0) (n + 1) = 0 + 1 := by rw [tC_nw, if_pos n0.symm]
  generalize hT1 : tnw T0 0 = T1 at c1
  generalize hT2 : tarr T1 (n + 1) 0 0 256 (fun _ => if akd 0 0 ≤ 10 then 0 else -1) = T2
  have c2 : tC T2 (n + 1) = 0 + 1 := by rw [← hT2, tC_ar]; exact c1
  generalize hT3 : tset T2 (n + 1) (gf 0 1) 0 256 = T3
  have c3 : tC T3 (n + 1) = 0 + 1 := by rw [← hT3]; exact c2
  have i3 : 0 ≤ tI T3 (n + 1) 0 := by rw [← hT3, tI_set, ← hT2, tI_ar, if_pos ⟨rfl, rfl⟩]; omega
  have l3 : tL T3 (n + 1) 0 = 256 := by rw [← hT3, tL_set, ← hT2, tL_ar, if_pos ⟨rfl, rfl⟩]
  obtain ⟨T4, e4, c4, i4, l4, n4, v4, w4⟩ : ∃ T4, tfz T3 0 0 ((n + 1 : Nat) : Int) (tI T3 (n + 1) 0) (-1) = some (0, T4) ∧ tC T4 = tC T3 ∧ tI T4 = tI T3 ∧ tL T4 = tL T3 ∧ tN T4 = tN T3 ∧ (∀ a j q, ¬ (a = n + 1 ∧ j = gf 0 0) → tV T4 a j q = tV T3 a j q) ∧ ∀ p, p < 256 → tV T4 (n + 1) (gf 0 0) p = -1 := by
    refine ⟨(T3.1, T3.2.1, T3.2.2.1, fun b j q => if b = n + 1 ∧ j = gf 0 0 ∧ q < tL T3 (n + 1) 0 then -1 else T3.2.2.2.1 b j q, T3.2.2.2.2), ?_, rfl, rfl, rfl, rfl, fun a j q h => if_neg (fun z => h ⟨z.1, z.2.1⟩), fun p hp => if_pos ⟨rfl, rfl, by omega⟩⟩
    unfold tfz tfi
    rw [if_pos ⟨⟨by omega, by rw [Int.toNat_natCast]; exact c3⟩, ⟨i3, by rw [Int.toNat_natCast]⟩, by rw [Int.toNat_natCast]; omega⟩, Option.bind_some, Int.toNat_natCast]
  obtain ⟨T5, e5, c5, i5, l5, n5, v5, w5⟩ := bi_lp (b := n + 1) 4 0 T4 fuel (by omega) (by decide) (by rw [c4]; exact c3) (by rw [i4]; exact i3) (by rw [l4]; exact l3)
  have cx : ∀ a, tC T5 a = if a = n + 1 then 0 + 1 else tC T0 a := fun a => by
    rw [c5, c4, ← hT3]
    show tC T2 a = _
    rw [← hT2, tC_ar, ← hT1, tC_nw, n0]
  have nx : tN T5 = n + 3 := by
    rw [n5, n4, ← hT3]
    show tN T2 = _
    rw [← hT2, tN_ar, ← hT1, tN_nw, n0]
  have vx : ∀ j q, tV T5 n j q = tV T0 n j q := fun j q => by
    rw [v5 _ _ _ (fun z => by omega), v4 _ _ _ (fun z => by omega), ← hT3, tV_set, if_neg (fun z => by omega), ← hT2, tV_ar, if_neg (fun z => by omega), ← hT1, tV_nw, if_neg (by omega)]
  have cn : tC T5 n = 5 + 1 := by rw [cx, if_neg (by omega)]; exact c0
  generalize hT6 : tset T5 n (gf 5 0) 0 ((n + 1 : Nat) : Int) = T6
  have c6 : tC T6 n = 5 + 1 := by rw [← hT6]; exact cn
  generalize hT7 : tarr T6 n 5 1 256 (fun _ => if akd 5 1 ≤ 10 then 0 else -1) = T7
  have c7 : tC T7 n = 5 + 1 := by rw [← hT7, tC_ar]; exact c6
  have vb : ∀ j q, tV (tarr T7 n 5 2 8 (fun _ => if akd 5 2 ≤ 10 then 0 else -1)) (n + 1) j q = tV T5 (n + 1) j q := fun j q => by
    rw [tV_ar, if_neg (fun z => by omega), ← hT7, tV_ar, if_neg (fun z => by omega), ← hT6, tV_set, if_neg (fun z => by omega)]
  have ib : ∀ k, tI (tarr T7 n 5 2 8 (fun _ => if akd 5 2 ≤ 10 then 0 else -1)) (n + 1) k = tI T5 (n + 1) k := fun k => by
    rw [tI_ar, if_neg (fun z => by omega), ← hT7, tI_ar, if_neg (fun z => by omega), ← hT6]; rfl
  have lb : ∀ k, tL (tarr T7 n 5 2 8 (fun _ => if akd 5 2 ≤ 10 then 0 else -1)) (n + 1) k = tL T5 (n + 1) k := fun k => by
    rw [tL_ar, if_neg (fun z => by omega), ← hT7, tL_ar, if_neg (fun z => by omega), ← hT6]; rfl
  have cf : ∀ a, tC (tarr T7 n 5 2 8 (fun _ => if akd 5 2 ≤ 10 then 0 else -1)) a = tC T5 a := fun a => by
    rw [tC_ar, ← hT7, tC_ar, ← hT6]; rfl
  refine ⟨tarr T7 n 5 2 8 (fun _ => if akd 5 2 ≤ 10 then 0 else -1), ?_, by rw [cf]; exact cn, ⟨?_, ?_⟩, ⟨?_, ?_⟩, ?_, ?_, fun q => ?_, fun c => ?_, by rw [cf, cx, if_pos rfl], ⟨by rw [ib, i5, i4]; exact i3, by rw [lb, l5, l4]; exact l3⟩, fun p hp => ?_, ?_, fun a ha => ?_⟩
  · unfold t_X5_init
    rw [q_ck c0, Option.bind_some, q_no, Option.bind_some, hT1, n0, q_ck c1, Option.bind_some]
    unfold t_X0_init
    rw [q_ck c1, Option.bind_some, q_an' (z := 256) (n := 256) c1 rfl (Nat.le_refl _), Option.bind_some, hT2, q_pt 1 _ c2, Option.bind_some, hT3, q_rf 0 c3, Option.bind_some, e4, Option.bind_some]
    refine Eq.trans (congrArg (fun z => Option.bind z _) e5) ?_
    rw [Option.bind_some]
    dsimp only
    rw [q_pt 0 _ cn, Option.bind_some, hT6, q_an' (z := 256) (n := 256) c6 rfl (Nat.le_refl _), Option.bind_some, hT7, q_an' (z := 8) (n := 8) c7 rfl (Nat.le_refl _), Option.bind_some]
  · rw [tI_ar, if_neg (fun z => by omega), ← hT7, tI_ar, if_pos ⟨rfl, rfl⟩]; omega
  · rw [tL_ar, if_neg (fun z => by omega), ← hT7, tL_ar, if_pos ⟨rfl, rfl⟩]
  · rw [tI_ar, if_pos ⟨rfl, rfl⟩]; omega
  · rw [tL_ar, if_pos ⟨rfl, rfl⟩]
  · rw [tV_ar, if_neg (fun z => by have := z.2; revert this; decide), ← hT7, tV_ar, if_neg (fun z => by have := z.2; revert this; decide), ← hT6, tV_set, if_pos ⟨rfl, rfl, rfl⟩]
  · rw [tV_ar, if_neg (fun z => by have := z.2; revert this; decide), ← hT7, tV_ar, if_neg (fun z => by have := z.2; revert this; decide), ← hT6, tV_set, if_neg (fun z => by have := z.2.1; revert this; decide), vx, ← hT0, tV_nw, if_pos (show n = tN (tz n) from rfl)]
    rfl
  · rw [tV_ar, if_neg (fun z => by have := z.2; revert this; decide), ← hT7, tV_ar, if_pos ⟨rfl, rfl⟩]
    rfl
  · rw [tV_ar, if_pos ⟨rfl, rfl⟩]
    rfl
  · rw [vb, w5, w4 p hp]
    by_cases e : p % 64 = 0
    · rw [if_pos (by omega), if_pos e]
    · rw [if_neg (by omega), if_neg e]
  · rw [vb, v5 _ _ _ (fun z => by have := z.2; revert this; decide), v4 _ _ _ (fun z => by have := z.2; revert this; decide), ← hT3, tV_set, if_pos ⟨rfl, rfl, rfl⟩]
  · rw [cf, cx] at ha
    rw [tN_ar, ← hT7, tN_ar, ← hT6]
    show a < tN T5 + 1 + 1
    rw [nx]
    by_cases e : a = n + 1
    · omega
    · rw [if_neg e, ← hT0, tC_nw] at ha
      by_cases e2 : a = tN (tz n)
      · have : tN (tz n) = n := rfl
        omega
      · rw [if_neg e2] at ha
        exact absurd rfl ha
