/-! the reference's rows of slabs -/
def lu (LS : Nat → List Nat) (l : Nat) (xs : List Nat) : Nat → List Nat := fun i => if i = l then xs else LS i
theorem lu_same (LS : Nat → List Nat) (l : Nat) (xs : List Nat) : lu LS l xs l = xs := if_pos rfl
theorem lu_ne {LS : Nat → List Nat} {l i : Nat} {xs : List Nat} (h : i ≠ l) : lu LS l xs i = LS i := if_neg h
/-- the memory holds the rows -/
def WL (N : Mm) (LS : Nat → List Nat) : Prop := ∀ l, l < 24 → N 21 l = ((LS l).length : Int) ∧ ((LS l).length ≤ 256) ∧ ∀ (j : Nat) (hj : j < (LS l).length), N 22 (256 * l + j) = ((LS l)[j] : Int)
theorem w3 {c w : Nat} (hc : c < 8) (hw : w < 3) : wr (wr (3 * (c : Int)) + (w : Int)) = ((3 * c + w : Nat) : Int) := by
  rw [wr_eq (z := 3 * (c : Int)) ⟨by omega, by omega⟩, wr_eq ⟨by omega, by omega⟩]; omega
theorem w256 {l : Nat} (hl : l < 24) : wr (256 * (l : Int)) = ((256 * l : Nat) : Int) := by
  rw [wr_eq (z := 256 * (l : Int)) ⟨by omega, by omega⟩]; omega
def shu (f : Nat → Int) (b k : Nat) : Nat → Int := fun i => if b < i ∧ i ≤ b + k then f (i - 1) else f i
def shd (f : Nat → Int) (a b : Nat) : Nat → Int := fun i => if a ≤ i ∧ i < b then f (i + 1) else f i
theorem en_loop {p l n : Nat} (hl : l < 24) : ∀ (k : Nat) (N : Mm) (m : Nat), k < 256 → N 21 l = (n : Int) → n < 256 → k < m → g_X6_enter_b16 m N (p : Int) (l : Int) (k : Int) = some (0, msA (msA N 22 (fu (shu (N 22) (256 * l) k) (256 * l) p)) 21 (fu (N 21) l ((n + 1 : Nat) : Int))) := by
  intro k
  induction k with
  | zero =>
    intro N m hk hn hn2 hm
    cases m with
    | zero => omega
    | succ m =>
      show g_X6_enter_s16 _ N (p : Int) (l : Int) _ = _
      unfold g_X6_enter_s16
      rw [if_pos (by omega), w256 hl, q_ms (show 256 * l < mlen 22 by show _ < 6144; omega), Option.bind_some, q_mg (show l < mlen 21 from hl), Option.bind_some, q_ms (show l < mlen 21 from hl), Option.bind_some]
      rw [mup_msA, mup_msA, msA_ne (by decide), hn, w1 (by omega)]
      have e : shu (N 22) (256 * l) 0 = N 22 := by
        funext i
        exact if_neg (by omega)
      rw [e]
  | succ k ih =>
    intro N m hk hn hn2 hm
    cases m with
    | zero => omega
    | succ m =>
      show g_X6_enter_s16 _ N (p : Int) (l : Int) _ = _
      unfold g_X6_enter_s16
      have e1 : wr (((256 * l : Nat) : Int) + ((k + 1 : Nat) : Int)) = ((256 * l + (k + 1) : Nat) : Int) := wa (by omega)
      have e2 : wr (((256 * l + (k + 1) : Nat) : Int) - 1) = ((256 * l + k : Nat) : Int) := by rw [wr_eq ⟨by omega, by omega⟩]; omega
      have e3 : wr (((k + 1 : Nat) : Int) + -1) = (k : Int) := by rw [wr_eq ⟨by omega, by omega⟩]; omega
      rw [if_neg (by omega), w256 hl, e1, e2, e3, q_mg (show 256 * l + k < mlen 22 by show _ < 6144; omega), Option.bind_some, q_ms (show 256 * l + (k + 1) < mlen 22 by show _ < 6144; omega), Option.bind_some]
      rw [ih _ m (by omega) (by rw [mup_msA, msA_ne (by decide)]; exact hn) hn2 (by omega)]
      rw [mup_msA, msA_same, msA_msA, msA_ne (by decide)]
      have e : shu (fu (N 22) (256 * l + (k + 1)) (N 22 (256 * l + k))) (256 * l) k = shu (N 22) (256 * l) (k + 1) := by
        funext i
        unfold shu fu
        by_cases h1 : 256 * l < i ∧ i ≤ 256 * l + k
        · rw [if_pos h1, if_neg (by omega), if_pos (by omega)]
        · rw [if_neg h1]
          by_cases h2 : i = 256 * l + (k + 1)
          · rw [if_pos h2, if_pos (by omega), h2]; rfl
          · rw [if_neg h2, if_neg (by omega)]
      rw [e]
theorem enter_eq {N : Mm} {LS : Nat → List Nat} {c w p : Nat} (hW : WL N LS) (hc : c < 8) (hw : w < 3) (hn : (LS (3 * c + w)).length < 256) : ∃ N', g_X6_enter N (c : Int) (w : Int) (p : Int) = some (0, N') ∧ WL N' (lu LS (3 * c + w) (p :: LS (3 * c + w))) ∧ ∀ b, b ≠ 21 → b ≠ 22 → N' b = N b := by
  have hl : 3 * c + w < 24 := by omega
  obtain ⟨h1, h2, h3⟩ := hW _ hl
  have g : g_X6_enter N (c : Int) (w : Int) (p : Int) = some (0, msA (msA N 22 (fu (shu (N 22) (256 * (3 * c + w)) (LS (3 * c + w)).length) (256 * (3 * c + w)) p)) 21 (fu (N 21) (3 * c + w) (((LS (3 * c + w)).length + 1 : Nat) : Int))) := by
    unfold g_X6_enter
    rw [w3 hc hw, q_mg (show 3 * c + w < mlen 21 from hl), Option.bind_some, h1]
    exact en_loop hl (LS (3 * c + w)).length N fuel hn h1 hn (by show _ < 40000; omega)
  refine ⟨_, g, ?_, ?_⟩
  · intro l hl2
    obtain ⟨g1, g2, g3⟩ := hW l hl2
    rw [msA_same, msA_ne (by decide), msA_same]
    by_cases e : l = 3 * c + w
    · subst e
      rw [fu_same, lu_same]
      refine ⟨rfl, by rw [List.length_cons]; omega, fun j hj => ?_⟩
      rw [List.length_cons] at hj
      unfold fu shu
      cases j with
      | zero => rw [if_pos (by omega)]; rfl
      | succ j => rw [if_neg (by omega), if_pos (by omega), List.getElem_cons_succ, ← h3 j (by omega)]; rfl
    · rw [fu_ne e, lu_ne e]
      refine ⟨g1, g2, fun j hj => ?_⟩
      unfold fu shu
      rw [if_neg (by omega), if_neg (by omega), g3 j hj]
  · intro b hb1 hb2
    rw [msA_ne hb1, msA_ne hb2]
theorem lv_loop {l e : Nat} (hl : l < 24) (he : e < 256) : ∀ (n k : Nat) (N : Mm) (m : Nat), k + n = e → N 21 l = (e : Int) → n < m → g_X6_leave_b49 m N (l : Int) (k : Int) = some (0, msA N 22 (shd (N 22) (256 * l + k) (256 * l + e))) := by
  intro n
  induction n with
  | zero =>
    intro k N m hk hn hm
    cases m with
    | zero => omega
    | succ m =>
      show g_X6_leave_s49 _ N (l : Int) (k : Int) = _
      unfold g_X6_leave_s49
      rw [q_mg (show l < mlen 21 from hl), Option.bind_some, if_pos (by omega)]
      have e : shd (N 22) (256 * l + k) (256 * l + e) = N 22 := by
        funext i
        exact if_neg (by omega)
      rw [e, msA_id]
  | succ n ih =>
    intro k N m hk hn hm
    cases m with
    | zero => omega
    | succ m =>
      show g_X6_leave_s49 _ N (l : Int) (k : Int) = _
      unfold g_X6_leave_s49
      have e1 : wr (((256 * l : Nat) : Int) + (k : Int)) = ((256 * l + k : Nat) : Int) := wa (by omega)
      rw [q_mg (show l < mlen 21 from hl), Option.bind_some, if_neg (by omega), w256 hl, e1, w1 (by omega), w1 (by omega), q_mg (show 256 * l + k + 1 < mlen 22 by show _ < 6144; omega), Option.bind_some, q_ms (show 256 * l + k < mlen 22 by show _ < 6144; omega), Option.bind_some]
      rw [ih (k + 1) _ m (by omega) (by rw [mup_msA, msA_ne (by decide)]; exact hn) (by omega)]
      rw [mup_msA, msA_same, msA_msA]
      have e : shd (fu (N 22) (256 * l + k) (N 22 (256 * l + k + 1))) (256 * l + (k + 1)) (256 * l + e) = shd (N 22) (256 * l + k) (256 * l + e) := by
        funext i
        unfold shd fu
        by_cases h1 : 256 * l + (k + 1) ≤ i ∧ i < 256 * l + e
        · rw [if_pos h1, if_neg (by omega), if_pos (by omega)]
        · rw [if_neg h1]
          by_cases h2 : i = 256 * l + k
          · rw [if_pos h2, if_pos (by omega), h2]
          · rw [if_neg h2, if_neg (by omega)]
      rw [e]
theorem ls_loop {N : Mm} {p l : Nat} {ys zs : List Nat} (hl : l < 24) (h21 : N 21 l = (((ys ++ p :: zs).length : Nat) : Int)) (h22 : ∀ (j : Nat) (hj : j < (ys ++ p :: zs).length), N 22 (256 * l + j) = ((ys ++ p :: zs)[j] : Int)) (hle : (ys ++ p :: zs).length ≤ 256) (hp : p ∉ ys) : ∀ (n k m : Nat), k + n = ys.length → n < m → g_X6_leave_b10 m N (p : Int) (l : Int) (k : Int) = some (0, msA (msA N 21 (fu (N 21) l ((ys ++ zs).length : Int))) 22 (shd (N 22) (256 * l + ys.length) (256 * l + (ys ++ zs).length))) := by
  have e0 : (ys ++ p :: zs).length = (ys ++ zs).length + 1 := by simp; omega
  intro n
  induction n with
  | zero =>
    intro k m hk hm
    cases m with
    | zero => omega
    | succ m =>
      have hk' : k = ys.length := by omega
      show g_X6_leave_s10 _ N (p : Int) (l : Int) (k : Int) = _
      unfold g_X6_leave_s10
      have hkl : k < (ys ++ p :: zs).length := by simp; omega
      have e1 : wr (((256 * l : Nat) : Int) + (k : Int)) = ((256 * l + k : Nat) : Int) := wa (by omega)
      rw [w256 hl, e1, q_mg (show 256 * l + k < mlen 22 by show _ < 6144; omega), Option.bind_some, h22 k hkl, if_pos (by
        subst hk'
        simp)]
      have e2 : wr (((ys ++ p :: zs).length : Int) - 1) = ((ys ++ zs).length : Int) := by rw [wr_eq ⟨by omega, by omega⟩]; omega
      rw [q_mg (show l < mlen 21 from hl), Option.bind_some, h21, e2, q_ms (show l < mlen 21 from hl), Option.bind_some, mup_msA]
      have hlen : (ys ++ zs).length = ys.length + zs.length := List.length_append
      rw [lv_loop (e := (ys ++ zs).length) hl (by omega) ((ys ++ zs).length - k) k _ fuel (by omega) (by rw [msA_same, fu_same]) (by show _ < 40000; omega), msA_ne (by decide), hk']
  | succ n ih =>
    intro k m hk hm
    cases m with
    | zero => omega
    | succ m =>
      show g_X6_leave_s10 _ N (p : Int) (l : Int) (k : Int) = _
      unfold g_X6_leave_s10
      have hkl : k < (ys ++ p :: zs).length := by simp; omega
      have e1 : wr (((256 * l : Nat) : Int) + (k : Int)) = ((256 * l + k : Nat) : Int) := wa (by omega)
      rw [w256 hl, e1, q_mg (show 256 * l + k < mlen 22 by show _ < 6144; omega), Option.bind_some, h22 k hkl, if_neg (by
        intro q
        have hky : k < ys.length := by omega
        rw [List.getElem_append_left hky] at q
        have q2 : ys[k] = p := by omega
        exact hp (q2 ▸ List.getElem_mem hky)), w1 (by omega), ih (k + 1) m (by omega) (by omega)]
theorem split_mem {xs : List Nat} {p : Nat} (h : p ∈ xs) (hn : xs.Nodup) : ∃ ys zs, xs = ys ++ p :: zs ∧ p ∉ ys ∧ p ∉ zs ∧ xs.erase p = ys ++ zs := by
  obtain ⟨ys, zs, rfl⟩ := List.append_of_mem h
  have h1 := List.nodup_append.mp hn
  have h2 : p ∉ ys := fun q => h1.2.2 p q p (List.mem_cons_self) rfl
  have h3 : p ∉ zs := (List.nodup_cons.mp h1.2.1).1
  exact ⟨ys, zs, rfl, h2, h3, by rw [List.erase_append_right _ h2, List.erase_cons_head]⟩
theorem leave_eq {N : Mm} {LS : Nat → List Nat} {c w p : Nat} (hW : WL N LS) (hc : c < 8) (hw : w < 3) (hp : p ∈ LS (3 * c + w)) (hn : (LS (3 * c + w)).Nodup) : ∃ N', g_X6_leave N (c : Int) (w : Int) (p : Int) = some (0, N') ∧ WL N' (lu LS (3 * c + w) ((LS (3 * c + w)).erase p)) ∧ ∀ b, b ≠ 21 → b ≠ 22 → N' b = N b := by
  have hl : 3 * c + w < 24 := by omega
  obtain ⟨h1, h2, h3⟩ := hW _ hl
  obtain ⟨ys, zs, e1, e2, e3, e4⟩ := split_mem hp hn
  rw [e4]
  have h3' : ∀ (j : Nat) (hj : j < (ys ++ p :: zs).length), N 22 (256 * (3 * c + w) + j) = ((ys ++ p :: zs)[j] : Int) := by
    rw [e1] at h3; exact h3
  rw [e1] at h1 h2
  have e0 : (ys ++ p :: zs).length = (ys ++ zs).length + 1 := by simp; omega
  have e5 : (ys ++ zs).length = ys.length + zs.length := List.length_append
  have g : g_X6_leave N (c : Int) (w : Int) (p : Int) = some (0, msA (msA N 21 (fu (N 21) (3 * c + w) ((ys ++ zs).length : Int))) 22 (shd (N 22) (256 * (3 * c + w) + ys.length) (256 * (3 * c + w) + (ys ++ zs).length))) := by
    unfold g_X6_leave
    rw [w3 hc hw]
    exact ls_loop hl h1 h3' h2 e2 ys.length 0 fuel (by omega) (by show _ < 40000; omega)
  refine ⟨_, g, ?_, ?_⟩
  · intro l hl2
    obtain ⟨g1, g2, g3⟩ := hW l hl2
    rw [msA_same, msA_ne (by decide), msA_same]
    by_cases e : l = 3 * c + w
    · subst e
      rw [fu_same, lu_same]
      refine ⟨rfl, by omega, fun j hj => ?_⟩
      unfold shd
      by_cases hj2 : j < ys.length
      · rw [if_neg (by omega), h3' j (by omega), List.getElem_append_left hj2, List.getElem_append_left hj2]
      · rw [if_pos (by omega), show 256 * (3 * c + w) + j + 1 = 256 * (3 * c + w) + (j + 1) by omega, h3' (j + 1) (by omega), List.getElem_append_right (by omega), List.getElem_append_right (by omega)]
        have : j + 1 - ys.length = (j - ys.length) + 1 := by omega
        simp only [this, List.getElem_cons_succ]
    · rw [fu_ne e, lu_ne e]
      refine ⟨g1, g2, fun j hj => ?_⟩
      unfold shd
      rw [if_neg (by omega), g3 j hj]
  · intro b hb1 hb2
    rw [msA_ne hb2, msA_ne hb1]
/-- a row without repetition, of numbers below n, has at most n -/
theorem nodup_len : ∀ (n : Nat) (xs : List Nat), xs.Nodup → (∀ x, x ∈ xs → x < n) → xs.length ≤ n := by
  intro n
  induction n with
  | zero =>
    intro xs _ h
    cases xs with
    | nil => exact Nat.le_refl _
    | cons x xs => exact absurd (h x List.mem_cons_self) (by omega)
  | succ n ih =>
    intro xs hn h
    by_cases e : n ∈ xs
    · obtain ⟨ys, zs, e1, e2, e3, e4⟩ := split_mem e hn
      have h1 : (xs.erase n).length = xs.length - 1 := List.length_erase_of_mem e
      have h2 := ih (xs.erase n) (hn.erase n) (fun x hx => by
        have hx2 := List.mem_of_mem_erase hx
        have := h x hx2
        have h3 : x ≠ n := by
          rintro rfl
          rw [e4] at hx
          rcases List.mem_append.mp hx with q | q
          · exact e2 q
          · exact e3 q
        omega)
      omega
    · have := ih xs hn (fun x hx => by
        have := h x hx
        have h3 : x ≠ n := by rintro rfl; exact e hx
        omega)
      omega
