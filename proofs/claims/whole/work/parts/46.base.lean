/-! evaluation at addresses that are known -/
theorem q_ck {t : Th} {ci a : Nat} (h : tC t a = ci + 1) : tck t ci (a : Int) = some () := by
  unfold tck
  rw [if_pos ⟨by omega, by rw [Int.toNat_natCast]; exact h⟩]
theorem q_gt {t : Th} {ci a : Nat} (k : Nat) (h : tC t a = ci + 1) : tgt t ci k (a : Int) = some (tV t a (gf ci k) 0) := by
  unfold tgt
  rw [if_pos ⟨by omega, by rw [Int.toNat_natCast]; exact h⟩, Int.toNat_natCast]
theorem q_rf {t : Th} {ci a : Nat} (k : Nat) (h : tC t a = ci + 1) : trf t ci k (a : Int) = some (tI t a k) := by
  unfold trf
  rw [if_pos ⟨by omega, by rw [Int.toNat_natCast]; exact h⟩, Int.toNat_natCast]
theorem q_al {t : Th} {ci a k i : Nat} (h : tC t a = ci + 1) (hI : 0 ≤ tI t a k) (hi : i < tL t a k) : tal t ci k (a : Int) (tI t a k) (i : Int) = some (tV t a (gf ci k) i) := by
  unfold tal
  rw [if_pos ⟨⟨by omega, by rw [Int.toNat_natCast]; exact h⟩, ⟨hI, by rw [Int.toNat_natCast]⟩, by omega, by rw [Int.toNat_natCast]; omega⟩, Int.toNat_natCast, Int.toNat_natCast]
theorem q_as {t : Th} {ci a k i : Nat} {x : Int} (h : tC t a = ci + 1) (hI : 0 ≤ tI t a k) (hi : i < tL t a k) : tas t ci k (a : Int) (tI t a k) (i : Int) x = some (tset t a (gf ci k) i x) := by
  unfold tas
  rw [if_pos ⟨⟨by omega, by rw [Int.toNat_natCast]; exact h⟩, ⟨hI, by rw [Int.toNat_natCast]⟩, by omega, by rw [Int.toNat_natCast]; omega⟩, Int.toNat_natCast, Int.toNat_natCast]
theorem q_rs {t : Th} {ci a k i : Nat} {x : Int} (h : tC t a = ci + 1) (hI : 0 ≤ tI t a k) (hi : i < tL t a k) (hx : x < 0 ∨ tC t x.toNat = akd ci k - 9) : trs t ci k (a : Int) (tI t a k) (i : Int) x = some (tset t a (gf ci k) i x) := by
  unfold trs
  rw [if_pos hx, q_as h hI hi]
theorem q_pt {t : Th} {ci a : Nat} (k : Nat) (x : Int) (h : tC t a = ci + 1) : tpt t ci k (a : Int) x = some (tset t a (gf ci k) 0 x) := by
  unfold tpt
  rw [if_pos ⟨by omega, by rw [Int.toNat_natCast]; exact h⟩, Int.toNat_natCast]
theorem q_ln {t : Th} {ci a k : Nat} (h : tC t a = ci + 1) (hI : 0 ≤ tI t a k) (hl : tL t a k ≤ 2000) : tln t ci k (a : Int) (tI t a k) = some (tL t a k : Int) := by
  unfold tln
  rw [if_pos ⟨⟨by omega, by rw [Int.toNat_natCast]; exact h⟩, ⟨hI, by rw [Int.toNat_natCast]⟩, by rw [Int.toNat_natCast]; omega⟩, Int.toNat_natCast]
theorem q_mg {N : Mm} {k i : Nat} (h : i < mlen k) : mgt k N (i : Int) = some (N k i) := by
  unfold mgt
  rw [if_pos ⟨by omega, by omega⟩, Int.toNat_natCast]
theorem q_ms {N : Mm} {k i : Nat} {v : Int} (h : i < mlen k) : mst k N (i : Int) v = some (mup N k i v) := by
  unfold mst
  rw [if_pos ⟨by omega, by omega⟩, Int.toNat_natCast]
/-! whole rows -/
def fu (f : Nat → Int) (i : Nat) (v : Int) : Nat → Int := fun j => if j = i then v else f j
def tvA (t : Th) (a j : Nat) (f : Nat → Int) : Th := (t.1, t.2.1, t.2.2.1, fun b k i => if b = a ∧ k = j then f i else t.2.2.2.1 b k i, t.2.2.2.2)
def msA (N : Mm) (k : Nat) (f : Nat → Int) : Mm := fun b j => if b = k then f j else N b j
theorem fu_same (f : Nat → Int) (i : Nat) (v : Int) : fu f i v i = v := if_pos rfl
theorem fu_ne {f : Nat → Int} {i j : Nat} {v : Int} (h : j ≠ i) : fu f i v j = f j := if_neg h
theorem fu_ap (f : Nat → Int) (i j : Nat) (v : Int) : fu f i v j = if j = i then v else f j := rfl
theorem tC_tvA (t : Th) (a j : Nat) (f : Nat → Int) : tC (tvA t a j f) = tC t := rfl
theorem tI_tvA (t : Th) (a j : Nat) (f : Nat → Int) : tI (tvA t a j f) = tI t := rfl
theorem tL_tvA (t : Th) (a j : Nat) (f : Nat → Int) : tL (tvA t a j f) = tL t := rfl
theorem tN_tvA (t : Th) (a j : Nat) (f : Nat → Int) : tN (tvA t a j f) = tN t := rfl
theorem tV_tvA (t : Th) (a j : Nat) (f : Nat → Int) (b k i : Nat) : tV (tvA t a j f) b k i = if b = a ∧ k = j then f i else tV t b k i := rfl
theorem tC_set (t : Th) (a j i : Nat) (v : Int) : tC (tset t a j i v) = tC t := rfl
theorem tI_set (t : Th) (a j i : Nat) (v : Int) : tI (tset t a j i v) = tI t := rfl
theorem tL_set (t : Th) (a j i : Nat) (v : Int) : tL (tset t a j i v) = tL t := rfl
theorem tN_set (t : Th) (a j i : Nat) (v : Int) : tN (tset t a j i v) = tN t := rfl
theorem tV_set (t : Th) (a j i : Nat) (v : Int) (b k n : Nat) : tV (tset t a j i v) b k n = if b = a ∧ k = j ∧ n = i then v else tV t b k n := rfl
theorem set_tvA (t : Th) (a j i : Nat) (v : Int) : tset t a j i v = tvA t a j (fu (tV t a j) i v) := by
  refine Prod.ext rfl (Prod.ext rfl (Prod.ext rfl (Prod.ext ?_ rfl)))
  funext b k n
  show (if b = a ∧ k = j ∧ n = i then v else tV t b k n) = if b = a ∧ k = j then (if n = i then v else tV t a j n) else tV t b k n
  by_cases h : b = a ∧ k = j
  · obtain ⟨rfl, rfl⟩ := h
    simp
  · rw [if_neg (fun q => h ⟨q.1, q.2.1⟩), if_neg h]
theorem tvA_tvA (t : Th) (a j : Nat) (f g : Nat → Int) : tvA (tvA t a j f) a j g = tvA t a j g := by
  refine Prod.ext rfl (Prod.ext rfl (Prod.ext rfl (Prod.ext ?_ rfl)))
  funext b k n
  show (if b = a ∧ k = j then g n else if b = a ∧ k = j then f n else tV t b k n) = if b = a ∧ k = j then g n else tV t b k n
  by_cases h : b = a ∧ k = j
  · rw [if_pos h, if_pos h]
  · rw [if_neg h, if_neg h, if_neg h]
theorem tvA_id (t : Th) (a j : Nat) : tvA t a j (tV t a j) = t := by
  refine Prod.ext rfl (Prod.ext rfl (Prod.ext rfl (Prod.ext ?_ rfl)))
  funext b k n
  show (if b = a ∧ k = j then tV t a j n else tV t b k n) = tV t b k n
  by_cases h : b = a ∧ k = j
  · obtain ⟨rfl, rfl⟩ := h
    rw [if_pos ⟨rfl, rfl⟩]
  · rw [if_neg h]
theorem tV_same (t : Th) (a j : Nat) (f : Nat → Int) : tV (tvA t a j f) a j = f := by
  funext i
  exact if_pos ⟨rfl, rfl⟩
theorem msA_ap (N : Mm) (k : Nat) (f : Nat → Int) (b j : Nat) : msA N k f b j = if b = k then f j else N b j := rfl
theorem msA_same (N : Mm) (k : Nat) (f : Nat → Int) : msA N k f k = f := by funext j; exact if_pos rfl
theorem msA_ne {N : Mm} {k b : Nat} {f : Nat → Int} (h : b ≠ k) : msA N k f b = N b := by funext j; exact if_neg h
theorem msA_id (N : Mm) (k : Nat) : msA N k (N k) = N := by
  funext b j
  show (if b = k then N k j else N b j) = N b j
  by_cases h : b = k
  · rw [if_pos h, h]
  · rw [if_neg h]
theorem msA_msA (N : Mm) (k : Nat) (f g : Nat → Int) : msA (msA N k f) k g = msA N k g := by
  funext b j
  show (if b = k then g j else if b = k then f j else N b j) = if b = k then g j else N b j
  by_cases h : b = k
  · rw [if_pos h, if_pos h]
  · rw [if_neg h, if_neg h, if_neg h]
theorem mup_msA (N : Mm) (k i : Nat) (v : Int) : mup N k i v = msA N k (fu (N k) i v) := by
  funext b j
  show (if b = k ∧ j = i then v else N b j) = if b = k then (if j = i then v else N k j) else N b j
  by_cases h : b = k
  · subst h
    simp
  · rw [if_neg (fun q => h q.1), if_neg h]
theorem mup_ap (N : Mm) (k i : Nat) (v : Int) (b j : Nat) : mup N k i v b j = if b = k ∧ j = i then v else N b j := rfl
theorem w1 {i : Nat} (h : i < 100000) : wr ((i : Int) + 1) = ((i + 1 : Nat) : Int) := by rw [wr_eq ⟨by omega, by omega⟩]; omega
theorem wn {n : Nat} (h : n < 1000000) : wr (n : Int) = (n : Int) := wr_eq ⟨by omega, by omega⟩
theorem wa {m n : Nat} (h : m + n < 1000000) : wr ((m : Int) + (n : Int)) = ((m + n : Nat) : Int) := by rw [wr_eq ⟨by omega, by omega⟩]; omega
theorem tV_nf {t : Th} {a j b k i : Nat} {f : Nat → Int} (h : k ≠ j) : tV (tvA t a j f) b k i = tV t b k i := if_neg (fun q => h q.2)
/-! blocks: the abstract acts over the row of free orders -/
def sc2 (f : Nat → Int) (o k : Int) : Nat → Nat → Int → Int
  | 0, _, _ => -1
  | n + 1, i, c => if f i = o then (if c = k then (i : Int) else sc2 f o k n (i + 1) (wr (c + 1))) else sc2 f o k n (i + 1) c
def hl (f : Nat → Int) (p o : Nat) : Nat → (Nat → Int)
  | 0 => f
  | n + 1 => hl (fu f (p + 2 ^ (o + n)) ((o + n : Nat) : Int)) p o n
def bu (p k : Nat) : Nat := if p % 2 ^ (k + 1) = 0 then p + 2 ^ k else p - 2 ^ k
def gF : Nat → (Nat → Int) → Nat → Nat → (Nat → Int)
  | 0, f, p, k => fu f p k
  | n + 1, f, p, k => if f (bu p k) = k then gF n (fu f (bu p k) (-1)) (p - p % 2 ^ (k + 1)) (k + 1) else fu f p k
def tks (f : Nat → Int) : Nat → Nat → Option (Nat × Nat)
  | 0, _ => none
  | n + 1, k => if sc2 f k 0 256 0 0 = -1 then tks f n (k + 1) else some ((sc2 f k 0 256 0 0).toNat, k)
theorem ish1 : ∀ j : Nat, j < 7 → ish 1 (j : Int) = ((2 ^ j : Nat) : Int) := by decide
theorem sc2_congr {f g : Nat → Int} {o k : Int} : ∀ (n i : Nat) (c : Int), (∀ j, j < i + n → f j = g j) → sc2 f o k n i c = sc2 g o k n i c := by
  intro n
  induction n with
  | zero => intro i c h; rfl
  | succ n ih =>
    intro i c h
    unfold sc2
    rw [h i (by omega), ih (i + 1) c (fun j hj => h j (by omega)), ih (i + 1) (wr (c + 1)) (fun j hj => h j (by omega))]
theorem sc2_spec {f : Nat → Int} {o k : Int} : ∀ (n i : Nat) (c : Int), sc2 f o k n i c = -1 ∨ ∃ p : Nat, i ≤ p ∧ p < i + n ∧ sc2 f o k n i c = (p : Int) ∧ f p = o := by
  intro n
  induction n with
  | zero => intro i c; left; rfl
  | succ n ih =>
    intro i c
    unfold sc2
    split
    · rename_i h
      split
      · right; exact ⟨i, by omega, by omega, rfl, h⟩
      · rcases ih (i + 1) (wr (c + 1)) with h1 | ⟨p, h1, h2, h3⟩
        · left; exact h1
        · right; exact ⟨p, by omega, by omega, h3⟩
    · rcases ih (i + 1) c with h1 | ⟨p, h1, h2, h3⟩
      · left; exact h1
      · right; exact ⟨p, by omega, by omega, h3⟩
theorem tks_congr {f g : Nat → Int} (h : ∀ j, j < 256 → f j = g j) : ∀ (n k : Nat), tks f n k = tks g n k := by
  intro n
  induction n with
  | zero => intro k; rfl
  | succ n ih =>
    intro k
    unfold tks
    rw [sc2_congr (f := f) (g := g) 256 0 0 (fun j hj => h j (by omega)), ih]
theorem tks_spec {f : Nat → Int} : ∀ (n k p k' : Nat), tks f n k = some (p, k') → k ≤ k' ∧ k' < k + n ∧ p < 256 ∧ f p = (k' : Int) := by
  intro n
  induction n with
  | zero => intro k p k' h; cases h
  | succ n ih =>
    intro k p k' h
    unfold tks at h
    split at h
    · have := ih (k + 1) p k' h
      exact ⟨by omega, by omega, this.2.2.1, this.2.2.2⟩
    · rename_i h1
      rcases sc2_spec (f := f) (o := k) (k := 0) 256 0 0 with h2 | ⟨p', h2, h3, h4, h5⟩
      · exact absurd h2 h1
      · rw [h4] at h
        cases h
        exact ⟨by omega, by omega, by rw [Int.toNat_natCast]; omega, by rw [Int.toNat_natCast]; exact h5⟩
theorem hl_congr {p o : Nat} : ∀ (n : Nat) (f g : Nat → Int), (∀ j, j < 256 → f j = g j) → ∀ j, j < 256 → hl f p o n j = hl g p o n j := by
  intro n
  induction n with
  | zero => intro f g h; exact h
  | succ n ih =>
    intro f g h
    unfold hl
    refine ih _ _ (fun j hj => ?_)
    unfold fu
    rw [h j hj]
theorem hl_get {p o : Nat} : ∀ (n : Nat) (f : Nat → Int), (∀ j, j < n → hl f p o n (p + 2 ^ (o + j)) = ((o + j : Nat) : Int)) ∧ ∀ q, (∀ j, j < n → q ≠ p + 2 ^ (o + j)) → hl f p o n q = f q := by
  intro n
  induction n with
  | zero => intro f; exact ⟨fun j hj => by omega, fun q _ => rfl⟩
  | succ n ih =>
    intro f
    obtain ⟨h1, h2⟩ := ih (fu f (p + 2 ^ (o + n)) ((o + n : Nat) : Int))
    refine ⟨fun j hj => ?_, fun q hq => ?_⟩
    · by_cases e : j = n
      · subst e
        show hl (fu f (p + 2 ^ (o + j)) ((o + j : Nat) : Int)) p o j (p + 2 ^ (o + j)) = _
        rw [h2 _ (fun i hi q => by
          have : 2 ^ (o + i) < 2 ^ (o + j) := Nat.pow_lt_pow_right (by omega) (by omega)
          omega)]
        exact fu_same _ _ _
      · exact h1 j (by omega)
    · show hl (fu f (p + 2 ^ (o + n)) ((o + n : Nat) : Int)) p o n q = _
      rw [h2 q (fun j hj => hq j (by omega))]
      exact fu_ne (hq n (by omega))
theorem bu_lt : ∀ k : Nat, k < 6 → ∀ p : Nat, p < 256 → p % 2 ^ k = 0 → bu p k < 256 := by
  unfold bu
  intro k hk p hp h
  have : k = 0 ∨ k = 1 ∨ k = 2 ∨ k = 3 ∨ k = 4 ∨ k = 5 := by omega
  rcases this with rfl | rfl | rfl | rfl | rfl | rfl <;> simp at * <;> split <;> omega
theorem gF_congr : ∀ (n k : Nat), n + k ≤ 6 → ∀ (p : Nat) (f g : Nat → Int), p < 256 → p % 2 ^ k = 0 → (∀ j, j < 256 → f j = g j) → ∀ j, j < 256 → gF n f p k j = gF n g p k j := by
  intro n
  induction n with
  | zero =>
    intro k hk p f g hp h2 h j hj
    show fu f p k j = fu g p k j
    unfold fu
    rw [h j hj]
  | succ n ih =>
    intro k hk p f g hp h2 h j hj
    unfold gF
    rw [h _ (bu_lt k (by omega) p hp h2)]
    split
    · refine ih (k + 1) (by omega) _ _ _ (by omega) ?_ ?_ j hj
      · have : k = 0 ∨ k = 1 ∨ k = 2 ∨ k = 3 ∨ k = 4 ∨ k = 5 := by omega
        rcases this with rfl | rfl | rfl | rfl | rfl | rfl <;> simp <;> omega
      · intro i hi
        unfold fu
        rw [h i hi]
    · unfold fu
      rw [h j hj]
