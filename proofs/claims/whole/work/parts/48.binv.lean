/-! free blocks lie apart, and on no slab's page -/
def BU (f : Nat → Int) : Prop := ∀ (q b b' k k' : Nat), b < 256 → b' < 256 → f b = (k : Int) → f b' = (k' : Int) → b ≤ q → q < b + 2 ^ k → b' ≤ q → q < b' + 2 ^ k' → b = b'
def BS (f sp : Nat → Int) : Prop := ∀ (q b k : Nat), b < 256 → f b = (k : Int) → b ≤ q → q < b + 2 ^ k → sp q < 0
theorem pw_lt {a b : Nat} (h : a < b) : 2 * 2 ^ a ≤ 2 ^ b := by
  have h1 : 2 ^ (a + 1) ≤ 2 ^ b := Nat.pow_le_pow_right (by omega) (by omega)
  have h2 : 2 ^ (a + 1) = 2 * 2 ^ a := by rw [Nat.pow_succ]; omega
  omega
theorem hl_case {f : Nat → Int} {p o k : Nat} (ho : o ≤ k) (b : Nat) (v : Nat) (h : hl (fu f p (-1)) p o (k - o) b = (v : Int)) : (b = p + 2 ^ v ∧ o ≤ v ∧ v < k) ∨ (b ≠ p ∧ f b = (v : Int)) := by
  obtain ⟨h1, h2⟩ := hl_get (p := p) (o := o) (k - o) (fu f p (-1))
  by_cases e : ∃ j, j < k - o ∧ b = p + 2 ^ (o + j)
  · obtain ⟨j, e1, e2⟩ := e
    left
    have h3 := h1 j e1
    rw [← e2, h] at h3
    have h4 : v = o + j := by omega
    exact ⟨by rw [h4]; exact e2, by omega, by omega⟩
  · right
    rw [h2 b (fun j hj q => e ⟨j, hj, q⟩)] at h
    unfold fu at h
    split at h
    · omega
    · rename_i e2; exact ⟨e2, h⟩
theorem take_inv {f sp : Nat → Int} {p o k : Nat} (hA : BA f) (hU : BU f) (hS : BS f sp) (hp : p < 256) (hk : f p = (k : Int)) (ho : o ≤ k) : BA (hl (fu f p (-1)) p o (k - o)) ∧ BU (hl (fu f p (-1)) p o (k - o)) ∧ BS (hl (fu f p (-1)) p o (k - o)) sp ∧ (∀ q, p ≤ q → q < p + 2 ^ o → sp q < 0 ∧ ∀ b v : Nat, b < 256 → hl (fu f p (-1)) p o (k - o) b = (v : Int) → ¬ (b ≤ q ∧ q < b + 2 ^ v)) ∧ p % 2 ^ o = 0 ∧ p + 2 ^ o ≤ 256 := by
  obtain ⟨k6, ka, kl⟩ := ba_le hA hp hk
  have hok : 2 ^ o ≤ 2 ^ k := Nat.pow_le_pow_right (by omega) ho
  have hdv : ∀ v, v ≤ k → p % 2 ^ v = 0 := fun v hv => by
    have h1 : 2 ^ v ∣ 2 ^ k := Nat.pow_dvd_pow 2 hv
    exact Nat.mod_eq_zero_of_dvd (Nat.dvd_trans h1 (Nat.dvd_of_mod_eq_zero ka))
  have new : ∀ v, o ≤ v → v < k → ∀ q, p + 2 ^ v ≤ q → q < p + 2 ^ v + 2 ^ v → p ≤ q ∧ q < p + 2 ^ k := fun v _ h2 q h3 h4 => by
    have := pw_lt h2
    exact ⟨by omega, by omega⟩
  refine ⟨?_, ?_, ?_, ?_, hdv o ho, by omega⟩
  · intro b hb
    obtain ⟨h1, h2⟩ := hl_get (p := p) (o := o) (k - o) (fu f p (-1))
    by_cases e : ∃ j, j < k - o ∧ b = p + 2 ^ (o + j)
    · obtain ⟨j, e1, e2⟩ := e
      right
      refine ⟨o + j, by omega, by rw [e2]; exact h1 j e1, ?_⟩
      rw [e2, Nat.add_mod_right]
      exact hdv _ (by omega)
    · rw [h2 b (fun j hj q => e ⟨j, hj, q⟩)]
      unfold fu
      split
      · left; rfl
      · exact hA b hb
  · intro q b b' v v' hb hb' h1 h2 c1 c2 c3 c4
    rcases hl_case ho b v h1 with ⟨e1, e2, e3⟩ | ⟨e1, e2⟩
    · rcases hl_case ho b' v' h2 with ⟨d1, d2, d3⟩ | ⟨d1, d2⟩
      · rcases Nat.lt_trichotomy v v' with g | g | g
        · have := pw_lt g; omega
        · subst g; omega
        · have := pw_lt g; omega
      · obtain ⟨g1, g2⟩ := new v e2 e3 q (by omega) (by omega)
        exact absurd (hU q p b' k v' hp hb' hk d2 g1 g2 c3 c4) (fun z => d1 z.symm)
    · rcases hl_case ho b' v' h2 with ⟨d1, d2, d3⟩ | ⟨d1, d2⟩
      · obtain ⟨g1, g2⟩ := new v' d2 d3 q (by omega) (by omega)
        exact absurd (hU q p b k v hp hb hk e2 g1 g2 c1 c2) (fun z => e1 z.symm)
      · exact hU q b b' v v' hb hb' e2 d2 c1 c2 c3 c4
  · intro q b v hb h1 c1 c2
    rcases hl_case ho b v h1 with ⟨e1, e2, e3⟩ | ⟨e1, e2⟩
    · obtain ⟨g1, g2⟩ := new v e2 e3 q (by omega) (by omega)
      exact hS q p k hp hk g1 g2
    · exact hS q b v hb e2 c1 c2
  · intro q h1 h2
    refine ⟨hS q p k hp hk h1 (by omega), fun b v hb h3 => ?_⟩
    rintro ⟨c1, c2⟩
    rcases hl_case ho b v h3 with ⟨e1, e2, e3⟩ | ⟨e1, e2⟩
    · have : 2 ^ o ≤ 2 ^ v := Nat.pow_le_pow_right (by omega) e2
      omega
    · exact absurd (hU q p b k v hp hb hk e2 h1 (by omega) c1 c2) (fun z => e1 z.symm)
theorem bu_cover {p k q : Nat} (hk : k < 6) (h : p % 2 ^ k = 0) (h1 : p - p % 2 ^ (k + 1) ≤ q) (h2 : q < p - p % 2 ^ (k + 1) + 2 ^ (k + 1)) : (p ≤ q ∧ q < p + 2 ^ k) ∨ (bu p k ≤ q ∧ q < bu p k + 2 ^ k) := by
  unfold bu
  have : k = 0 ∨ k = 1 ∨ k = 2 ∨ k = 3 ∨ k = 4 ∨ k = 5 := by omega
  rcases this with rfl | rfl | rfl | rfl | rfl | rfl <;> simp at * <;> split <;> omega
theorem give_inv {sp : Nat → Int} : ∀ (n k : Nat), n + k = 6 → ∀ (p : Nat) (f : Nat → Int), p < 256 → p % 2 ^ k = 0 → BA f → BU f → BS f sp → (∀ q, p ≤ q → q < p + 2 ^ k → sp q < 0) → (∀ q b v : Nat, b < 256 → f b = (v : Int) → b ≤ q → q < b + 2 ^ v → ¬ (p ≤ q ∧ q < p + 2 ^ k)) → BA (gF n f p k) ∧ BU (gF n f p k) ∧ BS (gF n f p k) sp := by
  have fin : ∀ (k : Nat), k ≤ 6 → ∀ (p : Nat) (f : Nat → Int), p < 256 → p % 2 ^ k = 0 → BA f → BU f → BS f sp → (∀ q, p ≤ q → q < p + 2 ^ k → sp q < 0) → (∀ q b v : Nat, b < 256 → f b = (v : Int) → b ≤ q → q < b + 2 ^ v → ¬ (p ≤ q ∧ q < p + 2 ^ k)) → BA (fu f p k) ∧ BU (fu f p k) ∧ BS (fu f p k) sp := by
    intro k hk p f hp h2 hA hU hS hs hd
    refine ⟨fun b hb => ?_, fun q b b' v v' hb hb' e1 e2 c1 c2 c3 c4 => ?_, fun q b v hb e1 c1 c2 => ?_⟩
    · unfold fu
      split
      · rename_i e; right; exact ⟨k, hk, rfl, by rw [e]; exact h2⟩
      · exact hA b hb
    · unfold fu at e1 e2
      split at e1
      · rename_i g1
        split at e2
        · rename_i g2; rw [g1, g2]
        · have : v = k := by omega
          subst this; subst g1
          exact absurd ⟨c1, c2⟩ (hd q b' v' hb' e2 c3 c4)
      · split at e2
        · rename_i g2
          have : v' = k := by omega
          subst this; subst g2
          exact absurd ⟨c3, c4⟩ (hd q b v hb e1 c1 c2)
        · exact hU q b b' v v' hb hb' e1 e2 c1 c2 c3 c4
    · unfold fu at e1
      split at e1
      · rename_i g1
        have : v = k := by omega
        subst this; subst g1
        exact hs q c1 c2
      · exact hS q b v hb e1 c1 c2
  intro n
  induction n with
  | zero => intro k hk; exact fin k (by omega)
  | succ n ih =>
    intro k hk p f hp h2 hA hU hS hs hd
    unfold gF
    have hb := bu_lt k (by omega) p hp h2
    split
    · rename_i hf
      have old : ∀ b v : Nat, fu f (bu p k) (-1) b = (v : Int) → b ≠ bu p k ∧ f b = (v : Int) := fun b v e => by
        unfold fu at e
        split at e
        · omega
        · rename_i g; exact ⟨g, e⟩
      refine ih (k + 1) (by omega) _ _ (by omega) (up_al (by omega)) (fun b hb => ?_) (fun q b b' v v' hb hb' e1 e2 => hU q b b' v v' hb hb' (old b v e1).2 (old b' v' e2).2) (fun q b v hb e1 => hS q b v hb (old b v e1).2) (fun q c1 c2 => ?_) (fun q b v hb1 e1 c1 c2 => ?_)
      · unfold fu
        split
        · left; rfl
        · exact hA b hb
      · rcases bu_cover (by omega) h2 c1 c2 with ⟨g1, g2⟩ | ⟨g1, g2⟩
        · exact hs q g1 g2
        · exact hS q (bu p k) k hb hf g1 g2
      · rintro ⟨c3, c4⟩
        rcases bu_cover (by omega) h2 c3 c4 with ⟨g1, g2⟩ | ⟨g1, g2⟩
        · exact hd q b v hb1 (old b v e1).2 c1 c2 ⟨g1, g2⟩
        · exact (old b v e1).1 (hU q b (bu p k) v k hb1 hb (old b v e1).2 hf c1 c2 g1 g2)
    · exact fin k (by omega) p f hp h2 hA hU hS hs hd
theorem bs_sp {f sp sp' : Nat → Int} (h : BS f sp) (hx : ∀ q b v : Nat, b < 256 → f b = (v : Int) → b ≤ q → q < b + 2 ^ v → sp q < 0 → sp' q < 0) : BS f sp' := fun q b v hb e c1 c2 => hx q b v hb e c1 c2 (h q b v hb e c1 c2)
/-! how many pages lie in slabs -/
def cn (f : Nat → Int) : Nat → Nat
  | 0 => 0
  | n + 1 => cn f n + if 0 ≤ f n then 1 else 0
theorem cn_le (f : Nat → Int) : ∀ n, cn f n ≤ n := by
  intro n
  induction n with
  | zero => exact Nat.le_refl _
  | succ n ih => unfold cn; split <;> omega
theorem cn_congr {f g : Nat → Int} : ∀ n, (∀ i, i < n → (0 ≤ f i ↔ 0 ≤ g i)) → cn f n = cn g n := by
  intro n
  induction n with
  | zero => intro _; rfl
  | succ n ih =>
    intro h
    unfold cn
    rw [ih (fun i hi => h i (by omega))]
    by_cases e : 0 ≤ f n
    · rw [if_pos e, if_pos ((h n (by omega)).mp e)]
    · rw [if_neg e, if_neg (fun q => e ((h n (by omega)).mpr q))]
/-- m places from p on change from outside to inside -/
theorem cn_add {f g : Nat → Int} {p m : Nat} : ∀ n, (∀ i, i < n → ¬ (p ≤ i ∧ i < p + m) → (0 ≤ f i ↔ 0 ≤ g i)) → (∀ i, p ≤ i → i < p + m → f i < 0 ∧ 0 ≤ g i) → cn g n = cn f n + (if n ≤ p then 0 else if n ≤ p + m then n - p else m) := by
  intro n
  induction n with
  | zero => intro _ _; simp [cn]
  | succ n ih =>
    intro h1 h2
    unfold cn
    rw [ih (fun i hi => h1 i (by omega)) h2]
    by_cases e : p ≤ n ∧ n < p + m
    · obtain ⟨h3, h4⟩ := h2 n e.1 e.2
      rw [if_pos h4, if_neg (show ¬ 0 ≤ f n by omega)]
      repeat' split
      all_goals omega
    · have h3 := h1 n (by omega) e
      by_cases e2 : 0 ≤ f n
      · rw [if_pos e2, if_pos (h3.mp e2)]
        repeat' split
        all_goals omega
      · rw [if_neg e2, if_neg (fun q => e2 (h3.mpr q))]
        repeat' split
        all_goals omega
