/-! blocks: the class -/
theorem fp_loop {t : Th} {b : Nat} (hC : tC t b = 1) (hI : 0 ≤ tI t b 0) (hL : tL t b 0 = 256) (o k : Int) : ∀ (n i : Nat) (c : Int) (m : Nat), i + n = 256 → n < m → t_X0_freePage_b5 m t (b : Int) o k c (i : Int) = some (sc2 (tV t b (gf 0 0)) o k n i c, t) := by
  intro n
  induction n with
  | zero =>
    intro i c m hi hm
    cases m with
    | zero => omega
    | succ m =>
      show t_X0_freePage_s5 _ t (b : Int) o k c (i : Int) = _
      unfold t_X0_freePage_s5
      rw [if_pos (by omega)]
      rfl
  | succ n ih =>
    intro i c m hi hm
    cases m with
    | zero => omega
    | succ m =>
      show t_X0_freePage_s5 _ t (b : Int) o k c (i : Int) = _
      unfold t_X0_freePage_s5 t_X0_freePage_j35
      rw [if_neg (by omega), q_rf 0 hC]
      simp only [Option.bind]
      rw [q_al hC hI (by omega)]
      simp only []
      rw [w1 (by omega)]
      unfold sc2
      by_cases h1 : tV t b (gf 0 0) i = o
      · rw [if_neg (by simpa using h1), if_pos h1]
        by_cases h2 : c = k
        · rw [if_neg (by simpa using h2), if_pos h2]
        · rw [if_pos h2, if_neg h2, ih (i + 1) _ m (by omega) (by omega)]
      · rw [if_pos h1, if_neg h1, ih (i + 1) _ m (by omega) (by omega)]
theorem fp_eq {t : Th} {b : Nat} (hC : tC t b = 1) (hI : 0 ≤ tI t b 0) (hL : tL t b 0 = 256) (o k : Int) : t_X0_freePage t (b : Int) o k = some (sc2 (tV t b (gf 0 0)) o k 256 0 0, t) :=
  fp_loop hC hI hL o k 256 0 0 fuel rfl (by decide)
theorem sf_eq {t : Th} {b p : Nat} {v : Int} (hC : tC t b = 1) (hI : 0 ≤ tI t b 0) (hL : tL t b 0 = 256) (hp : p < 256) : t_X0_setFree t (b : Int) (p : Int) v = some (0, tvA t b (gf 0 0) (fu (tV t b (gf 0 0)) p v)) := by
  unfold t_X0_setFree t_X0_setFree_j18
  rw [if_neg (by omega), if_neg (by omega), q_rf 0 hC]
  simp only [Option.bind]
  rw [q_as hC hI (by omega), set_tvA]
theorem hv_loop {b p o : Nat} (ho : o ≤ 6) : ∀ (n : Nat) (t : Th) (m : Nat), tC t b = 1 → 0 ≤ tI t b 0 → tL t b 0 = 256 → o + n ≤ 6 → p + 2 ^ (o + n) ≤ 256 → n < m → t_X0_halve_b12 m t (b : Int) (p : Int) (o : Int) ((o : Int) + (n : Int) - 1) = some (0, tset (tvA t b (gf 0 0) (hl (tV t b (gf 0 0)) p o n)) b (gf 0 1) 0 (wr (tV t b (gf 0 1) 0 - ((2 ^ o : Nat) : Int)))) := by
  intro n
  induction n with
  | zero =>
    intro t m hC hI hL hn hp hm
    cases m with
    | zero => omega
    | succ m =>
      show t_X0_halve_s12 _ t (b : Int) (p : Int) (o : Int) _ = _
      unfold t_X0_halve_s12
      rw [if_pos (by omega), q_gt 1 hC]
      simp only [Option.bind]
      rw [q_pt 1 _ hC, ish1 o (by omega)]
      simp only []
      rw [show hl (tV t b (gf 0 0)) p o 0 = tV t b (gf 0 0) from rfl, tvA_id]
  | succ n ih =>
    intro t m hC hI hL hn hp hm
    cases m with
    | zero => omega
    | succ m =>
      have e0 : (o : Int) + ((n + 1 : Nat) : Int) - 1 = ((o + n : Nat) : Int) := by omega
      have hpw : p + 2 ^ (o + n) < 256 := by
        have h1 : 2 ^ (o + (n + 1)) = 2 * 2 ^ (o + n) := by rw [← Nat.add_assoc, Nat.pow_succ]; omega
        have h2 : 0 < 2 ^ (o + n) := Nat.pow_pos (by omega)
        omega
      show t_X0_halve_s12 _ t (b : Int) (p : Int) (o : Int) _ = _
      unfold t_X0_halve_s12
      rw [e0, if_neg (by omega), q_ck hC]
      simp only [Option.bind]
      rw [ish1 (o + n) (by omega)]
      have e1 : wr ((p : Int) + ((2 ^ (o + n) : Nat) : Int)) = ((p + 2 ^ (o + n) : Nat) : Int) := wa (by omega)
      rw [e1, sf_eq hC hI hL hpw]
      simp only []
      have e2 : wr (((o + n : Nat) : Int) + -1) = (o : Int) + (n : Int) - 1 := by rw [wr_eq ⟨by omega, by omega⟩]; omega
      have h3 : p + 2 ^ (o + n) ≤ 256 := by omega
      rw [e2, ih (tvA t b (gf 0 0) (fu (tV t b (gf 0 0)) (p + 2 ^ (o + n)) ((o + n : Nat) : Int))) m hC hI hL (by omega) h3 (by omega)]
      rw [tV_same, tvA_tvA, tV_nf (by decide)]
      rfl
theorem hv_eq {t : Th} {b p o k : Nat} (hC : tC t b = 1) (hI : 0 ≤ tI t b 0) (hL : tL t b 0 = 256) (ho : o ≤ k) (hk : k ≤ 6) (hp : p + 2 ^ k ≤ 256) : t_X0_halve t (b : Int) (p : Int) (k : Int) (o : Int) = some (0, tset (tvA t b (gf 0 0) (hl (fu (tV t b (gf 0 0)) p (-1)) p o (k - o))) b (gf 0 1) 0 (wr (tV t b (gf 0 1) 0 - ((2 ^ o : Nat) : Int)))) := by
  unfold t_X0_halve
  have h2 : 0 < 2 ^ k := Nat.pow_pos (by omega)
  rw [q_rf 0 hC]
  simp only [Option.bind]
  rw [q_as hC hI (by omega), set_tvA]
  simp only []
  have e2 : wr ((k : Int) - 1) = (o : Int) + ((k - o : Nat) : Int) - 1 := by rw [wr_eq ⟨by omega, by omega⟩]; omega
  have e3 : o + (k - o) = k := by omega
  rw [e2, hv_loop (by omega) (k - o) (tvA t b (gf 0 0) (fu (tV t b (gf 0 0)) p (-1))) fuel hC hI hL (by omega) (by rw [e3]; exact hp) (by show _ < 40000; omega)]
  rw [tV_same, tvA_tvA, tV_nf (by decide)]
theorem al_le {p k : Nat} (hp : p < 256) (hk : k ≤ 6) (h : p % 2 ^ k = 0) : p + 2 ^ k ≤ 256 := by
  have : k = 0 ∨ k = 1 ∨ k = 2 ∨ k = 3 ∨ k = 4 ∨ k = 5 ∨ k = 6 := by omega
  rcases this with rfl | rfl | rfl | rfl | rfl | rfl | rfl <;> simp at * <;> omega
/-- every free block begins at a fitting page -/
def BA (f : Nat → Int) : Prop := ∀ p, p < 256 → f p = -1 ∨ ∃ k : Nat, k ≤ 6 ∧ f p = (k : Int) ∧ p % 2 ^ k = 0
theorem ba_le {f : Nat → Int} {p k : Nat} (h : BA f) (hp : p < 256) (hk : f p = (k : Int)) : k ≤ 6 ∧ p % 2 ^ k = 0 ∧ p + 2 ^ k ≤ 256 := by
  rcases h p hp with h1 | ⟨k', h1, h2, h3⟩
  · omega
  · have : k = k' := by omega
    subst this
    exact ⟨h1, h3, al_le hp h1 h3⟩
/-- what take does to the class's heap -/
def tkT (t : Th) (b o : Nat) : Int × Th := match tks (tV t b (gf 0 0)) (7 - o) o with
  | none => (-1, t)
  | some (p, k) => ((p : Int), tset (tvA t b (gf 0 0) (hl (fu (tV t b (gf 0 0)) p (-1)) p o (k - o))) b (gf 0 1) 0 (wr (tV t b (gf 0 1) 0 - ((2 ^ o : Nat) : Int))))
theorem tk_loop {t : Th} {b o : Nat} (hC : tC t b = 1) (hI : 0 ≤ tI t b 0) (hL : tL t b 0 = 256) (hA : BA (tV t b (gf 0 0))) : ∀ (n k m : Nat), k + n = 7 → o ≤ k → n < m → t_X0_take_b2 m t (b : Int) (o : Int) (k : Int) = some (match tks (tV t b (gf 0 0)) n k with
  | none => (-1, t)
  | some (p, k) => ((p : Int), tset (tvA t b (gf 0 0) (hl (fu (tV t b (gf 0 0)) p (-1)) p o (k - o))) b (gf 0 1) 0 (wr (tV t b (gf 0 1) 0 - ((2 ^ o : Nat) : Int))))) := by
  intro n
  induction n with
  | zero =>
    intro k m hk ho hm
    cases m with
    | zero => omega
    | succ m =>
      show t_X0_take_s2 _ t (b : Int) (o : Int) (k : Int) = _
      unfold t_X0_take_s2
      rw [if_pos (by omega)]
      rfl
  | succ n ih =>
    intro k m hk ho hm
    cases m with
    | zero => omega
    | succ m =>
      show t_X0_take_s2 _ t (b : Int) (o : Int) (k : Int) = _
      unfold t_X0_take_s2 tks
      rw [if_neg (by omega), q_ck hC]
      simp only [Option.bind]
      rw [fp_eq hC hI hL]
      simp only []
      rcases sc2_spec (f := tV t b (gf 0 0)) (o := k) (k := 0) 256 0 0 with h1 | ⟨p, h1, h2, h3, h4⟩
      · rw [if_pos h1, if_pos h1, w1 (by omega), ih (k + 1) m (by omega) (by omega) (by omega)]
      · have h5 := ba_le hA (by omega) h4
        rw [h3, if_neg (by omega), if_neg (by omega), q_ck hC]
        simp only []
        rw [hv_eq hC hI hL ho h5.1 h5.2.2]
        simp only [Int.toNat_natCast]
theorem tk_eq {t : Th} {b o : Nat} (hC : tC t b = 1) (hI : 0 ≤ tI t b 0) (hL : tL t b 0 = 256) (hA : BA (tV t b (gf 0 0))) (ho : o ≤ 6) : t_X0_take t (b : Int) (o : Int) = some (tkT t b o) :=
  tk_loop hC hI hL hA (7 - o) o fuel (by omega) (by omega) (by show _ < 40000; omega)
set_option maxRecDepth 100000 in
set_option maxHeartbeats 4000000 in
theorem bits : ∀ k : Fin 6, ∀ p : Fin 256, p.val % 2 ^ k.val = 0 → ixr (p.val : Int) ((2 ^ k.val : Nat) : Int) = (bu p.val k.val : Int) ∧ ian (p.val : Int) (ixr ((2 ^ k.val : Nat) : Int) (-1)) = ((p.val - p.val % 2 ^ (k.val + 1) : Nat) : Int) := by decide
theorem bits' {k p : Nat} (hk : k < 6) (hp : p < 256) (h : p % 2 ^ k = 0) : ixr (p : Int) ((2 ^ k : Nat) : Int) = (bu p k : Int) ∧ ian (p : Int) (ixr ((2 ^ k : Nat) : Int) (-1)) = ((p - p % 2 ^ (k + 1) : Nat) : Int) := bits ⟨k, hk⟩ ⟨p, hp⟩ h
theorem up_al {p k : Nat} (hk : k < 6) : (p - p % 2 ^ (k + 1)) % 2 ^ (k + 1) = 0 := by
  have : k = 0 ∨ k = 1 ∨ k = 2 ∨ k = 3 ∨ k = 4 ∨ k = 5 := by omega
  rcases this with rfl | rfl | rfl | rfl | rfl | rfl <;> simp <;> omega
theorem gb_loop {b o : Nat} (ho : o ≤ 6) : ∀ (n k p : Nat) (t : Th) (m : Nat), n + k = 6 → p < 256 → p % 2 ^ k = 0 → tC t b = 1 → 0 ≤ tI t b 0 → tL t b 0 = 256 → n < m → t_X0_giveBack_b5 m t (b : Int) (o : Int) (p : Int) (k : Int) = some (0, tset (tvA t b (gf 0 0) (gF n (tV t b (gf 0 0)) p k)) b (gf 0 1) 0 (wr (tV t b (gf 0 1) 0 + ((2 ^ o : Nat) : Int)))) := by
  have fin : ∀ (k p : Nat) (t : Th), p < 256 → tC t b = 1 → 0 ≤ tI t b 0 → tL t b 0 = 256 → t_X0_giveBack_j53 t (b : Int) (o : Int) (p : Int) (k : Int) = some (0, tset (tvA t b (gf 0 0) (fu (tV t b (gf 0 0)) p k)) b (gf 0 1) 0 (wr (tV t b (gf 0 1) 0 + ((2 ^ o : Nat) : Int)))) := by
    intro k p t hp hC hI hL
    unfold t_X0_giveBack_j53
    rw [q_ck hC]
    simp only [Option.bind]
    rw [sf_eq hC hI hL hp]
    simp only []
    rw [q_gt 1 (show tC (tvA t b (gf 0 0) (fu (tV t b (gf 0 0)) p k)) b = 0 + 1 from hC)]
    simp only []
    rw [q_pt 1 _ (show tC (tvA t b (gf 0 0) (fu (tV t b (gf 0 0)) p k)) b = 0 + 1 from hC), ish1 o (by omega), tV_nf (by decide)]
  intro n
  induction n with
  | zero =>
    intro k p t m hk hp h2 hC hI hL hm
    cases m with
    | zero => omega
    | succ m =>
      show t_X0_giveBack_s5 _ t (b : Int) (o : Int) (p : Int) (k : Int) = _
      unfold t_X0_giveBack_s5
      rw [if_pos (by omega)]
      exact fin k p t hp hC hI hL
  | succ n ih =>
    intro k p t m hk hp h2 hC hI hL hm
    cases m with
    | zero => omega
    | succ m =>
      obtain ⟨b1, b2⟩ := bits' (by omega) hp h2
      have hb := bu_lt k (by omega) p hp h2
      show t_X0_giveBack_s5 _ t (b : Int) (o : Int) (p : Int) (k : Int) = _
      unfold t_X0_giveBack_s5 t_X0_isFree t_X0_isFree_j25 t_X0_isFree_j26 rtT
      rw [if_neg (by omega), q_ck hC, ish1 k (by omega), b1, b2]
      simp only [Option.bind]
      rw [if_neg (by omega), if_neg (by omega), q_rf 0 hC]
      simp only []
      rw [q_al hC hI (by omega)]
      simp only []
      unfold gF
      by_cases h1 : tV t b (gf 0 0) (bu p k) = (k : Int)
      · rw [if_neg (by simpa using h1), if_pos h1]
        rw [if_pos (Or.inr trivial)]
        simp only []
        rw [if_neg (by decide), q_ck hC]
        simp only []
        rw [sf_eq hC hI hL hb]
        simp only []
        rw [w1 (by omega), ih (k + 1) (p - p % 2 ^ (k + 1)) (tvA t b (gf 0 0) (fu (tV t b (gf 0 0)) (bu p k) (-1))) m (by omega) (by omega) (up_al (by omega)) hC hI hL (by omega)]
        rw [tV_same, tvA_tvA, tV_nf (by decide)]
      · rw [if_pos h1, if_neg h1]
        rw [if_pos (Or.inl trivial)]
        simp only []
        rw [if_pos trivial]
        exact fin k p t hp hC hI hL
/-- what giveBack does to the class's heap -/
theorem gb_eq {t : Th} {b o p : Nat} (hC : tC t b = 1) (hI : 0 ≤ tI t b 0) (hL : tL t b 0 = 256) (ho : o ≤ 6) (hp : p < 256) (h2 : p % 2 ^ o = 0) : t_X0_giveBack t (b : Int) (p : Int) (o : Int) = some (0, tset (tvA t b (gf 0 0) (gF (6 - o) (tV t b (gf 0 0)) p o)) b (gf 0 1) 0 (wr (tV t b (gf 0 1) 0 + ((2 ^ o : Nat) : Int)))) :=
  gb_loop ho (6 - o) o p t fuel (by omega) hp h2 hC hI hL (by show _ < 40000; omega)
/-! blocks: the reference -/
theorem mb_loop (N : Mm) (o k : Int) : ∀ (n i : Nat) (c : Int) (m : Nat), i + n = 256 → n < m → g_X6_block_b29 m N o k c (i : Int) = some (sc2 (N 1) o k n i c, N) := by
  intro n
  induction n with
  | zero =>
    intro i c m hi hm
    cases m with
    | zero => omega
    | succ m =>
      show g_X6_block_s29 _ N o k c (i : Int) = _
      unfold g_X6_block_s29
      rw [if_pos (by omega)]
      rfl
  | succ n ih =>
    intro i c m hi hm
    cases m with
    | zero => omega
    | succ m =>
      show g_X6_block_s29 _ N o k c (i : Int) = _
      unfold g_X6_block_s29 g_X6_block_j59
      rw [if_neg (by omega), q_mg (show i < mlen 1 by show i < 256; omega)]
      simp only [Option.bind]
      rw [w1 (by omega)]
      unfold sc2
      by_cases h1 : N 1 i = o
      · rw [if_neg (by simpa using h1), if_pos h1]
        by_cases h2 : c = k
        · rw [if_neg (by simpa using h2), if_pos h2]
        · rw [if_pos h2, if_neg h2, ih (i + 1) _ m (by omega) (by omega)]
      · rw [if_pos h1, if_neg h1, ih (i + 1) _ m (by omega) (by omega)]
theorem mh_loop {p o : Nat} : ∀ (n : Nat) (N : Mm) (m : Nat), o + n ≤ 6 → p + 2 ^ (o + n) ≤ 256 → n < m → g_X6_takeBlock_b37 m N (o : Int) (p : Int) ((o + n : Nat) : Int) = some ((p : Int), msA N 1 (hl (N 1) p o n)) := by
  intro n
  induction n with
  | zero =>
    intro N m hn hp hm
    cases m with
    | zero => omega
    | succ m =>
      show g_X6_takeBlock_s37 _ N (o : Int) (p : Int) _ = _
      unfold g_X6_takeBlock_s37
      rw [if_pos (by omega)]
      rw [show hl (N 1) p o 0 = N 1 from rfl, msA_id]
  | succ n ih =>
    intro N m hn hp hm
    cases m with
    | zero => omega
    | succ m =>
      have hpw : p + 2 ^ (o + n) < 256 := by
        have h1 : 2 ^ (o + (n + 1)) = 2 * 2 ^ (o + n) := by rw [← Nat.add_assoc, Nat.pow_succ]; omega
        have h2 : 0 < 2 ^ (o + n) := Nat.pow_pos (by omega)
        omega
      show g_X6_takeBlock_s37 _ N (o : Int) (p : Int) _ = _
      unfold g_X6_takeBlock_s37
      have e1 : wr (((o + (n + 1) : Nat) : Int) - 1) = ((o + n : Nat) : Int) := by rw [wr_eq ⟨by omega, by omega⟩]; omega
      have e2 : wr (((o + (n + 1) : Nat) : Int) + -1) = ((o + n : Nat) : Int) := by rw [wr_eq ⟨by omega, by omega⟩]; omega
      have e3 : wr ((p : Int) + ((2 ^ (o + n) : Nat) : Int)) = ((p + 2 ^ (o + n) : Nat) : Int) := wa (by omega)
      rw [if_neg (by omega), e1, e2, ish1 (o + n) (by omega), e3, q_ms (show p + 2 ^ (o + n) < mlen 1 from hpw)]
      simp only [Option.bind]
      rw [ih _ m (by omega) (by omega) (by omega), mup_msA, msA_same, msA_msA]
      rfl
/-- what takeBlock does to the memory -/
def tkM (N : Mm) (o : Nat) : Int × Mm := match tks (N 1) (7 - o) o with
  | none => (-1, N)
  | some (p, k) => ((p : Int), msA N 1 (hl (fu (N 1) p (-1)) p o (k - o)))
theorem ms_loop {N : Mm} {o k : Nat} {k2 : Mm → Int → Int → Option (Int × Mm)} (hA : BA (N 1)) (ho : o ≤ k) (hk : k ≤ 6) : ∀ (n i m : Nat), i + n = 256 → n < m → g_X6_takeBlock_b10 k2 m N (o : Int) (k : Int) (i : Int) = if sc2 (N 1) k 0 n i 0 = -1 then k2 N (o : Int) ((k + 1 : Nat) : Int) else some (sc2 (N 1) k 0 n i 0, msA N 1 (hl (fu (N 1) (sc2 (N 1) k 0 n i 0).toNat (-1)) (sc2 (N 1) k 0 n i 0).toNat o (k - o))) := by
  intro n
  induction n with
  | zero =>
    intro i m hi hm
    cases m with
    | zero => omega
    | succ m =>
      show g_X6_takeBlock_s10 _ _ N (o : Int) (k : Int) (i : Int) = _
      unfold g_X6_takeBlock_s10
      rw [if_pos (by omega), if_pos (show sc2 (N 1) k 0 0 i 0 = -1 from rfl), w1 (by omega)]
  | succ n ih =>
    intro i m hi hm
    cases m with
    | zero => omega
    | succ m =>
      show g_X6_takeBlock_s10 _ _ N (o : Int) (k : Int) (i : Int) = _
      unfold g_X6_takeBlock_s10
      rw [if_neg (by omega), q_mg (show i < mlen 1 by show i < 256; omega)]
      simp only [Option.bind]
      unfold sc2
      by_cases h1 : N 1 i = (k : Int)
      · rw [if_neg (by simpa using h1), if_pos h1, if_pos rfl, if_neg (by omega), q_ms (show i < mlen 1 by show i < 256; omega)]
        simp only [Int.toNat_natCast]
        have h5 := ba_le hA (by omega) h1
        have e : (k : Int) = ((o + (k - o) : Nat) : Int) := by omega
        have e2 : o + (k - o) = k := by omega
        rw [e, mh_loop (k - o) _ fuel (by omega) (by rw [e2]; exact h5.2.2) (by show _ < 40000; omega), mup_msA, msA_same, msA_msA]
      · rw [if_pos h1, if_neg h1, w1 (by omega), ih (i + 1) m (by omega) (by omega)]
theorem mt_loop {N : Mm} {o : Nat} (hA : BA (N 1)) : ∀ (n k m : Nat), k + n = 7 → o ≤ k → n < m → g_X6_takeBlock_b2 m N (o : Int) (k : Int) = some (match tks (N 1) n k with
  | none => (-1, N)
  | some (p, k) => ((p : Int), msA N 1 (hl (fu (N 1) p (-1)) p o (k - o)))) := by
  intro n
  induction n with
  | zero =>
    intro k m hk ho hm
    cases m with
    | zero => omega
    | succ m =>
      show g_X6_takeBlock_s2 _ N (o : Int) (k : Int) = _
      unfold g_X6_takeBlock_s2
      rw [if_pos (by omega)]
      rfl
  | succ n ih =>
    intro k m hk ho hm
    cases m with
    | zero => omega
    | succ m =>
      show g_X6_takeBlock_s2 _ N (o : Int) (k : Int) = _
      unfold g_X6_takeBlock_s2 tks
      have e0 := ms_loop (k2 := g_X6_takeBlock_b2 m) hA ho (by omega) 256 0 fuel (by omega) (by decide)
      rw [if_neg (by omega)]
      refine e0.trans ?_
      rcases sc2_spec (f := N 1) (o := k) (k := 0) 256 0 0 with h1 | ⟨p, h1, h2, h3, h4⟩
      · rw [if_pos h1, if_pos h1, ih (k + 1) m (by omega) (by omega) (by omega)]
      · have e : ¬ sc2 (N 1) k 0 256 0 0 = -1 := by rw [h3]; omega
        rw [if_neg e, if_neg e, h3]
        simp only [Int.toNat_natCast]
theorem mt_eq {N : Mm} {o : Nat} (hA : BA (N 1)) (ho : o ≤ 6) : g_X6_takeBlock N (o : Int) = some (tkM N o) :=
  mt_loop hA (7 - o) o fuel (by omega) (by omega) (by show _ < 40000; omega)
theorem mg_loop : ∀ (n k p : Nat) (N : Mm) (m : Nat), n + k = 6 → p < 256 → p % 2 ^ k = 0 → n < m → g_X6_giveBlock_b5 m N (p : Int) (k : Int) = some (0, msA N 1 (gF n (N 1) p k)) := by
  have fin : ∀ (k p : Nat) (N : Mm), p < 256 → g_X6_giveBlock_j55 N (p : Int) (k : Int) = some (0, msA N 1 (fu (N 1) p k)) := by
    intro k p N hp
    unfold g_X6_giveBlock_j55
    rw [q_ms (show p < mlen 1 from hp), mup_msA]
    rfl
  intro n
  induction n with
  | zero =>
    intro k p N m hk hp h2 hm
    cases m with
    | zero => omega
    | succ m =>
      show g_X6_giveBlock_s5 _ N (p : Int) (k : Int) = _
      unfold g_X6_giveBlock_s5
      rw [if_pos (by omega)]
      exact fin k p N hp
  | succ n ih =>
    intro k p N m hk hp h2 hm
    cases m with
    | zero => omega
    | succ m =>
      obtain ⟨b1, b2⟩ := bits' (by omega) hp h2
      have hb := bu_lt k (by omega) p hp h2
      show g_X6_giveBlock_s5 _ N (p : Int) (k : Int) = _
      unfold g_X6_giveBlock_s5
      rw [if_neg (by omega), ish1 k (by omega), b1, b2, q_mg (show bu p k < mlen 1 from hb)]
      simp only [Option.bind]
      unfold gF
      by_cases h1 : N 1 (bu p k) = (k : Int)
      · rw [if_neg (by simpa using h1), if_pos h1, q_ms (show bu p k < mlen 1 from hb)]
        simp only []
        rw [w1 (by omega), ih (k + 1) (p - p % 2 ^ (k + 1)) _ m (by omega) (by omega) (up_al (by omega)) (by omega), mup_msA, msA_same, msA_msA]
      · rw [if_pos h1, if_neg h1]
        exact fin k p N hp
theorem mg_eq {N : Mm} {o p : Nat} (ho : o ≤ 6) (hp : p < 256) (h2 : p % 2 ^ o = 0) : g_X6_giveBlock N (p : Int) (o : Int) = some (0, msA N 1 (gF (6 - o) (N 1) p o)) :=
  mg_loop (6 - o) o p N fuel (by omega) hp h2 (by show _ < 40000; omega)
