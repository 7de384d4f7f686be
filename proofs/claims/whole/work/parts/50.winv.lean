/-! the reference's memory: its parts -/
def oN (N : Mm) (c : Nat) : Nat := (N 7 c).toNat
def fN (N : Mm) (c : Nat) : Nat := (N 10 c).toNat
def sN (N : Mm) (c : Nat) : Nat := (N 9 c).toNat / 8
def aN (N : Mm) (c : Nat) : Nat := (N 6 c).toNat / 8
def wN (N : Mm) (p : Nat) : Nat := (N 14 p).toNat
def kN (N : Mm) (p : Nat) : Nat := (N 15 p).toNat
/-- the unit of the object i of the slab p -/
def U (N : Mm) (p i : Nat) : Nat := 128 * p + kN N p * aN N (wN N p) + i * sN N (wN N p)
def Lv (N : Mm) (c : Nat) : Prop := (c : Int) < N 3 0 ∧ N 4 c = 0
def Sl (N : Mm) (p : Nat) : Prop := p < 256 ∧ N 2 p = (p : Int)
def WPc (N : Mm) (c : Nat) : Prop := (N 7 c = (oN N c : Int) ∧ oN N c ≤ 3) ∧ (N 6 c = 8 * (aN N c : Int) ∧ 1 ≤ aN N c ∧ aN N c ≤ 8) ∧ (N 9 c = 8 * (sN N c : Int) ∧ 1 ≤ sN N c) ∧ (N 10 c = (fN N c : Int) ∧ 1 ≤ fN N c) ∧ (8 ≤ N 5 c ∧ N 5 c ≤ N 9 c) ∧ (0 ≤ N 12 c ∧ N 12 c < N 11 c) ∧ ∀ k : Nat, (k : Int) < N 11 c → k * aN N c + fN N c * sN N c ≤ 128 * 2 ^ oN N c
def WP (N : Mm) : Prop := (0 ≤ N 3 0 ∧ N 3 0 ≤ 8) ∧ (∀ c : Nat, (c : Int) < N 3 0 → WPc N c) ∧ ∀ c : Nat, N 3 0 ≤ (c : Int) → N 4 c = 0 ∧ N 12 c = 0 ∧ N 13 c = 0
def WB (N : Mm) : Prop := BA (N 1) ∧ BU (N 1) ∧ BS (N 1) (N 2)
def SPp (N : Mm) (p : Nat) : Prop := N 14 p = (wN N p : Int) ∧ wN N p < 8 ∧ Lv N (wN N p) ∧ (N 15 p = (kN N p : Int) ∧ N 15 p < N 11 (wN N p)) ∧ p % 2 ^ oN N (wN N p) = 0 ∧ ∀ q, p ≤ q → q < p + 2 ^ oN N (wN N p) → q < 256 ∧ N 2 q = (p : Int)
def WG (N : Mm) : Prop := (∀ q, q < 256 → N 2 q = -1 ∨ ∃ p, Sl N p ∧ N 2 q = (p : Int) ∧ p ≤ q ∧ q < p + 2 ^ oN N (wN N p)) ∧ ∀ p, Sl N p → SPp N p
def UL (N : Mm) (p : Nat) : List Nat → Int
  | [] => -1
  | i :: _ => (U N p i : Int)
def chN (N : Mm) (p : Nat) : List Nat → Prop
  | [] => True
  | i :: r => N 19 (U N p i) = UL N p r ∧ chN N p r
def WSp (N : Mm) (FL : Nat → List Nat) (p : Nat) : Prop := N 16 p + ((FL p).length : Int) = (fN N (wN N p) : Int) ∧ (FL p).Nodup ∧ (∀ i, i ∈ FL p → i < fN N (wN N p)) ∧ N 17 p = UL N p (FL p) ∧ chN N p (FL p) ∧ ∀ i, i < fN N (wN N p) → (i ∈ FL p ∧ N 18 (U N p i) = 1) ∨ (i ∉ FL p ∧ (N 18 (U N p i) = 2 ∨ N 18 (U N p i) = 3))
def WS (N : Mm) (FL : Nat → List Nat) : Prop := ∀ p, Sl N p → WSp N FL p
def WZ (N : Mm) : Prop := ∀ u, u < 32768 → N 18 u ≠ 0 → ∃ p i, Sl N p ∧ i < fN N (wN N p) ∧ u = U N p i
def wh (N : Mm) (p : Nat) : Nat := if N 16 p = 0 then 2 else if N 16 p = N 10 (wN N p) then 0 else 1
def WR (N : Mm) (LS : Nat → List Nat) : Prop := WL N LS ∧ ∀ l, l < 24 → (LS l).Nodup ∧ ∀ p, p ∈ LS l ↔ (Sl N p ∧ 3 * wN N p + wh N p = l)
def cs (s : Nat) : Nat := if s < 64 then s / 2 % 8 else (s - 64) / 3
def hv (N : Mm) (s k : Nat) : Int := if s < 64 then N 24 (4 * s + k) else N 26 (4 * (s - 64) + k)
def WM (N : Mm) (hz : Nat → Nat) : Prop := (∀ s, s < 88 → hz s ≤ 4 ∧ ∀ k, k < hz s → ∃ p i, Sl N p ∧ wN N p = cs s ∧ i < fN N (wN N p) ∧ hv N s k = (U N p i : Int) ∧ N 18 (U N p i) = 3) ∧ ∀ s s' k k', s < 88 → s' < 88 → k < hz s → k' < hz s' → hv N s k = hv N s' k' → s = s' ∧ k = k'
/-! slabs and their units -/
section
variable {N : Mm} {p i : Nat}
theorem sl_pc (hP : WP N) (hG : WG N) (hp : Sl N p) : WPc N (wN N p) ∧ wN N p < 8 ∧ p + 2 ^ oN N (wN N p) ≤ 256 := by
  obtain ⟨h1, h2, h3, h4, h5, h6⟩ := hG.2 p hp
  refine ⟨hP.2.1 _ h3.1, h2, ?_⟩
  have h7 : 0 < 2 ^ oN N (wN N p) := Nat.pow_pos (by omega)
  have := (h6 (p + 2 ^ oN N (wN N p) - 1) (by omega) (by omega)).1
  omega
theorem u_rng (hP : WP N) (hG : WG N) (hp : Sl N p) (hi : i < fN N (wN N p)) : 128 * p ≤ U N p i ∧ U N p i + sN N (wN N p) ≤ 128 * (p + 2 ^ oN N (wN N p)) ∧ U N p i < 32768 ∧ kN N p * aN N (wN N p) + i * sN N (wN N p) ≤ 1024 := by
  obtain ⟨c1, c2, c3⟩ := sl_pc hP hG hp
  obtain ⟨h1, h2, h3, h4, h5, h6⟩ := hG.2 p hp
  obtain ⟨d1, d2, d3, d4, d5, d6, d7⟩ := c1
  have e1 := d7 (kN N p) (by omega)
  have e2 : (i + 1) * sN N (wN N p) ≤ fN N (wN N p) * sN N (wN N p) := Nat.mul_le_mul_right _ (by omega)
  rw [Nat.add_mul] at e2
  have e3 : 2 ^ oN N (wN N p) ≤ 8 := Nat.pow_le_pow_right (n := 2) (by omega) d1.2
  unfold U
  refine ⟨by omega, by omega, by omega, by omega⟩
theorem u_pg (hP : WP N) (hG : WG N) (hp : Sl N p) (hi : i < fN N (wN N p)) : N 2 (U N p i / 128) = (p : Int) ∧ p ≤ U N p i / 128 ∧ U N p i / 128 < p + 2 ^ oN N (wN N p) ∧ U N p i / 128 < 256 := by
  obtain ⟨c1, c2, c3⟩ := sl_pc hP hG hp
  obtain ⟨h1, h2, h3, h4⟩ := u_rng hP hG hp hi
  obtain ⟨-, -, -, -, -, h6⟩ := hG.2 p hp
  have h7 := c1.2.2.1.2
  have h8 : U N p i / 128 < p + 2 ^ oN N (wN N p) := by omega
  exact ⟨(h6 _ (by omega) h8).2, by omega, h8, by omega⟩
theorem u_inj (hP : WP N) (hG : WG N) (hp : Sl N p) (hi : i < fN N (wN N p)) {p' i' : Nat} (hp' : Sl N p') (hi' : i' < fN N (wN N p')) (h : U N p i = U N p' i') : p = p' ∧ i = i' := by
  have h1 := (u_pg hP hG hp hi).1
  have h2 := (u_pg hP hG hp' hi').1
  rw [h] at h1
  have e : p = p' := by omega
  subst e
  refine ⟨rfl, ?_⟩
  have h3 := (sl_pc hP hG hp).1.2.2.1.2
  unfold U at h
  have h4 : i * sN N (wN N p) = i' * sN N (wN N p) := by omega
  exact Nat.eq_of_mul_eq_mul_right (by omega) h4
theorem un_eq (hP : WP N) (hG : WG N) (hp : Sl N p) (hi : i < fN N (wN N p)) : g_X6_unitOf N (p : Int) (i : Int) = some ((U N p i : Int), N) := by
  obtain ⟨c1, c2, c3⟩ := sl_pc hP hG hp
  obtain ⟨h1, h2, h3, h4⟩ := u_rng hP hG hp hi
  obtain ⟨g1, g2, g3, g4, g5, g6⟩ := hG.2 p hp
  have hp2 := hp.1
  unfold g_X6_unitOf
  rw [q_mg (show p < mlen 14 from hp2), Option.bind_some, q_mg (show p < mlen 15 from hp2), Option.bind_some, g1, q_mg (show wN N p < mlen 6 from c2), Option.bind_some, q_mg (show wN N p < mlen 9 from c2), Option.bind_some, g4.1, c1.2.1.1, c1.2.2.1.1]
  have e1 : (kN N p : Int) * (8 * (aN N (wN N p) : Int)) = ((8 * (kN N p * aN N (wN N p)) : Nat) : Int) := by
    rw [Int.natCast_mul, Int.natCast_mul, Int.mul_left_comm]; rfl
  have e2 : (i : Int) * (8 * (sN N (wN N p) : Int)) = ((8 * (i * sN N (wN N p)) : Nat) : Int) := by
    rw [Int.natCast_mul, Int.natCast_mul, Int.mul_left_comm]; rfl
  have e3 : (1024 : Int) * (p : Int) = ((1024 * p : Nat) : Int) := by omega
  rw [e1, e2, e3, wn (by omega), wn (by omega), wn (by omega), wa (by omega), wa (by omega)]
  unfold idv
  rw [if_neg (by decide)]
  have e4 : (((1024 * p + 8 * (kN N p * aN N (wN N p)) + 8 * (i * sN N (wN N p)) : Nat) : Int)).tdiv 8 = ((U N p i : Nat) : Int) := by
    have : 1024 * p + 8 * (kN N p * aN N (wN N p)) + 8 * (i * sN N (wN N p)) = 8 * U N p i := by unfold U; omega
    rw [this, Int.natCast_mul]
    exact Int.mul_tdiv_cancel_left _ (by decide)
  rw [e4, wn (by omega)]
  rfl
theorem wo_eq (hP : WP N) (hG : WG N) (hp : Sl N p) : g_X6_whichOf N (p : Int) = some ((wh N p : Int), N) := by
  obtain ⟨c1, c2, c3⟩ := sl_pc hP hG hp
  obtain ⟨g1, -⟩ := hG.2 p hp
  have hp2 := hp.1
  unfold g_X6_whichOf g_X6_whichOf_j38 wh
  rw [q_mg (show p < mlen 16 from hp2), Option.bind_some, Option.bind_some, q_mg (show p < mlen 14 from hp2), Option.bind_some, g1, q_mg (show wN N p < mlen 10 from c2), Option.bind_some]
  by_cases h1 : N 16 p = 0
  · rw [if_neg (by simpa using h1), if_pos h1]; rfl
  · rw [if_pos h1, if_neg h1]
    by_cases h2 : N 16 p = N 10 (wN N p)
    · rw [if_neg (by simpa using h2), if_pos h2]; rfl
    · rw [if_pos h2, if_neg h2]; rfl
theorem wh_lt : wh N p < 3 := by
  unfold wh
  repeat' split
  all_goals omega
end
/-! what does not change -/
def Ep (N N' : Mm) : Prop := N' 2 = N 2 ∧ N' 3 = N 3 ∧ N' 4 = N 4 ∧ N' 5 = N 5 ∧ N' 6 = N 6 ∧ N' 7 = N 7 ∧ N' 8 = N 8 ∧ N' 9 = N 9 ∧ N' 10 = N 10 ∧ N' 11 = N 11 ∧ N' 14 = N 14 ∧ N' 15 = N 15
section
variable {N N' : Mm}
theorem ep_sl (h : Ep N N') (p : Nat) : Sl N' p = Sl N p := by unfold Sl; rw [h.1]
theorem ep_w (h : Ep N N') (p : Nat) : wN N' p = wN N p := by unfold wN; rw [h.2.2.2.2.2.2.2.2.2.2.1]
theorem ep_k (h : Ep N N') (p : Nat) : kN N' p = kN N p := by unfold kN; rw [h.2.2.2.2.2.2.2.2.2.2.2]
theorem ep_a (h : Ep N N') (p : Nat) : aN N' p = aN N p := by unfold aN; rw [h.2.2.2.2.1]
theorem ep_s (h : Ep N N') (p : Nat) : sN N' p = sN N p := by unfold sN; rw [h.2.2.2.2.2.2.2.1]
theorem ep_f (h : Ep N N') (p : Nat) : fN N' p = fN N p := by unfold fN; rw [h.2.2.2.2.2.2.2.2.1]
theorem ep_o (h : Ep N N') (p : Nat) : oN N' p = oN N p := by unfold oN; rw [h.2.2.2.2.2.1]
theorem ep_u (h : Ep N N') (p i : Nat) : U N' p i = U N p i := by unfold U; rw [ep_w h, ep_k h, ep_a h, ep_s h]
theorem ep_lv (h : Ep N N') (p : Nat) : Lv N' p = Lv N p := by unfold Lv; rw [h.2.1, h.2.2.1]
theorem ep_ul (h : Ep N N') (p : Nat) (xs : List Nat) : UL N' p xs = UL N p xs := by
  cases xs with
  | nil => rfl
  | cons i r => show (U N' p i : Int) = (U N p i : Int); rw [ep_u h]
theorem ep_g (h : Ep N N') (hG : WG N) : WG N' := by
  unfold WG SPp at *
  simp only [ep_sl h, ep_w h, ep_o h, ep_k h, ep_lv h]
  obtain ⟨e2, e3, e4, e5, e6, e7, e8, e9, e10, e11, e14, e15⟩ := h
  rw [e2, e14, e15, e11]
  exact hG
theorem ep_p (h : Ep N N') (h12 : N' 12 = N 12) (h13 : N' 13 = N 13) (hP : WP N) : WP N' := by
  unfold WP WPc at *
  simp only [ep_o h, ep_a h, ep_s h, ep_f h]
  obtain ⟨e2, e3, e4, e5, e6, e7, e8, e9, e10, e11, e14, e15⟩ := h
  rw [e3, e4, e5, e6, e7, e9, e10, e11, h12, h13]
  exact hP
theorem ep_z (h : Ep N N') (h18 : N' 18 = N 18) (hZ : WZ N) : WZ N' := by
  unfold WZ at *
  simp only [ep_sl h, ep_w h, ep_f h, ep_u h, h18]
  exact hZ
end
