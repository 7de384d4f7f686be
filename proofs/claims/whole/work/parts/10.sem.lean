/-! The machine's heap as a pure value, over whole numbers: kinds 1..7 the classes of vwCl, 8 int[], 9 boolean[], 10 long[], 11..14 arrays of Cache, Magazine, Slab, SlabList. A reference is its address, null is -1. -/
abbrev inr (z : Int) : Prop := -2147483648 ≤ z ∧ z ≤ 2147483647
def wr (z : Int) : Int := (Int32.ofInt z).toInt
theorem inr_ti (x : Int32) : inr x.toInt := ⟨Int32.le_toInt x, by have := Int32.toInt_lt x; omega⟩
theorem inr_wr (z : Int) : inr (wr z) := inr_ti _
theorem ofI_wr (z : Int) : Int32.ofInt (wr z) = Int32.ofInt z := Int32.ofInt_toInt _
theorem ti_of {z : Int} (h : inr z) : (Int32.ofInt z).toInt = z := Int32.toInt_ofInt_of_le (by have := h.1; omega) (by have := h.2; omega)
theorem wr_eq {z : Int} (h : inr z) : wr z = z := ti_of h
theorem ofI_inj {x y : Int} (hx : inr x) (hy : inr y) : Int32.ofInt x = Int32.ofInt y ↔ x = y := by
  rw [← Int32.toInt_inj, ti_of hx, ti_of hy]
theorem ofI_lt {x y : Int} (hx : inr x) (hy : inr y) : Int32.ofInt x < Int32.ofInt y ↔ x < y := by
  rw [Int32.lt_iff_toInt_lt, ti_of hx, ti_of hy]
theorem ofI_le {x y : Int} (hx : inr x) (hy : inr y) : Int32.ofInt x ≤ Int32.ofInt y ↔ x ≤ y := by
  rw [Int32.le_iff_toInt_le, ti_of hx, ti_of hy]
theorem ofI_cl {x : Int} (hx : inr x) : (Int32.ofInt x).toNatClampNeg = x.toNat := by
  show (Int32.ofInt x).toInt.toNat = x.toNat
  rw [ti_of hx]
theorem i_0 : inr 0 := by decide
def ian (x y : Int) : Int := (Int32.ofInt x &&& Int32.ofInt y).toInt
def ixr (x y : Int) : Int := (Int32.ofInt x ^^^ Int32.ofInt y).toInt
def ish (x y : Int) : Int := (Int32.ofInt x <<< (Int32.ofInt y &&& 31)).toInt
theorem inr_an (x y : Int) : inr (ian x y) := inr_ti _
theorem inr_xr (x y : Int) : inr (ixr x y) := inr_ti _
theorem inr_sh (x y : Int) : inr (ish x y) := inr_ti _
def idv (x y : Int) : Option Int := if y = 0 then none else some (wr (x.tdiv y))
def irm (x y : Int) : Option Int := if y = 0 then none else some (x.tmod y)
theorem inr_dv {x y z : Int} (h : idv x y = some z) : inr z := by
  unfold idv at h
  split at h
  · cases h
  · cases h; exact inr_wr _
theorem inr_rm {x y z : Int} (hx : inr x) (h : irm x y = some z) : inr z := by
  unfold irm at h
  split at h
  · cases h
  · cases h
    have h1 := Int.natAbs_tmod x y
    have h2 : x.natAbs % y.natAbs ≤ x.natAbs := Nat.mod_le _ _
    have h4 : 0 ≤ x → 0 ≤ x.tmod y := fun h => Int.tmod_nonneg y h
    have h3 := hx.1; have h5 := hx.2
    by_cases h6 : 0 ≤ x
    · have := h4 h6
      constructor <;> omega
    · have h7 : 0 ≤ (-x).tmod y := Int.tmod_nonneg y (by omega)
      rw [Int.neg_tmod] at h7
      constructor <;> omega
/-- a step of the pure run -/
theorem bd {α β : Type} {x : Option α} {f : α → Option β} {r : β} (h : Option.bind x f = some r) : ∃ v, x = some v ∧ f v = some r := Option.bind_eq_some_iff.mp h
theorem it_pos {c : Prop} [Decidable c] {β : Type} {a b : Option β} {r : β} (hc : c) (h : (if c then a else b) = some r) : a = some r := by rw [if_pos hc] at h; exact h
theorem it_neg {c : Prop} [Decidable c] {β : Type} {a b : Option β} {r : β} (hc : ¬ c) (h : (if c then a else b) = some r) : b = some r := by rw [if_neg hc] at h; exact h
/-! the heap -/
abbrev Hp : Type := (Nat → Nat) × (Nat → Nat) × (Nat → Nat → Int) × Nat
def hK (h : Hp) : Nat → Nat := h.1
def hL (h : Hp) : Nat → Nat := h.2.1
def hF (h : Hp) : Nat → Nat → Int := h.2.2.1
def hN (h : Hp) : Nat := h.2.2.2
def tyTab : List (List Bool) := [[true, false], [false, false, false, false, false, false, false, false, false, false, false, false, true, true, true, true, false], [true, false], [true, false, false, false, false, true, true, false, false, true, true], [true], [true, true, true, false], [false, true, true, false, true, true, true, true, true, true, true, true, true, true, true, true, true, true, true, true, true, true, true, true, true, true, true]]
def rfT (ci k : Nat) : Bool := (tyTab.getD ci []).getD k false
def rO (z : Int) : Option Nat := if z < 0 then none else some z.toNat
abbrev vr (z : Int) : Value := va_rf (rO z)
abbrev vi (z : Int) : Value := .int (Int32.ofInt z)
abbrev vl (z : Int) : Value := .long (Int64.ofInt z)
def vv (b : Bool) (z : Int) : Value := match b with
  | true => vr z
  | false => vi z
def encE (G : Nat → ClassId) (h : Hp) (a : Nat) : va_E :=
  if hK h a ≤ 7 then .inr (hK h a - 1, (tyTab.getD (hK h a - 1) []).mapIdx (fun k b => vv b (hF h a k)))
  else if hK h a ≤ 9 then .inl (G (hK h a), hL h a, .inl (fun j => Int32.ofInt (hF h a j)))
  else if hK h a = 10 then .inl (G (hK h a), hL h a, .inr (.inl (fun j => Int64.ofInt (hF h a j))))
  else .inl (G (hK h a), hL h a, .inr (.inr (.inr (.inr (fun j => rO (hF h a j))))))
/-- which places hold ints -/
def isI (kd k : Nat) : Bool := if kd ≤ 7 then !(rfT (kd - 1) k) else decide (kd ≤ 10)
def hOk (h : Hp) : Prop := ∀ a k, hK h a ≠ 0 → isI (hK h a) k = true → inr (hF h a k)
def SM (D : va_G) (G : Nat → ClassId) (base : Nat) (h : Hp) (H : Heap) : Prop :=
  H.size = hN h ∧ hOk h ∧ ∀ a, hK h a ≠ 0 → base ≤ a ∧ hK h a ≤ 14 ∧ va_at D vwCl (a, encE G h a) H
abbrev tysG (G : Nat → ClassId) : List (ClassId × FieldType) := [(G 8, .int), (G 9, .boolean), (G 10, .long), (G 11, .object "SlabHouse$Cache"), (G 12, .object "SlabHouse$Magazine"), (G 13, .object "SlabHouse$Slab"), (G 14, .object "SlabHouse$SlabList")]
/-! reading and writing -/
def ckd (h : Hp) (ci : Nat) (a : Int) : Option Unit := if 0 ≤ a ∧ hK h a.toNat = ci + 1 then some () else none
def gtf (h : Hp) (ci k : Nat) (a : Int) : Option Int := if 0 ≤ a ∧ hK h a.toNat = ci + 1 then some (hF h a.toNat k) else none
def hset (h : Hp) (a k : Nat) (v : Int) : Hp := (h.1, h.2.1, fun b j => if b = a ∧ j = k then v else h.2.2.1 b j, h.2.2.2)
def ptf (h : Hp) (ci k : Nat) (a v : Int) : Option Hp := if 0 ≤ a ∧ hK h a.toNat = ci + 1 then some (hset h a.toNat k v) else none
def ald (h : Hp) (kd : Nat) (a i : Int) : Option Int := if 0 ≤ a ∧ hK h a.toNat = kd ∧ 0 ≤ i ∧ i < (hL h a.toNat : Int) then some (hF h a.toNat i.toNat) else none
def ast (h : Hp) (kd : Nat) (a i v : Int) : Option Hp := if 0 ≤ a ∧ hK h a.toNat = kd ∧ 0 ≤ i ∧ i < (hL h a.toNat : Int) then some (hset h a.toNat i.toNat v) else none
/-- a reference goes into an array of references: null, or an object of its kind -/
def asr (h : Hp) (kd : Nat) (a i v : Int) : Option Hp := if v < 0 ∨ hK h v.toNat = kd - 9 then ast h kd a i v else none
def aln (h : Hp) (kd : Nat) (a : Int) : Option Int := if 0 ≤ a ∧ hK h a.toNat = kd ∧ (hL h a.toNat : Int) ≤ 2147483647 then some (hL h a.toNat : Int) else none
def hnew (h : Hp) (kd n : Nat) (f : Nat → Int) : Hp := (fun b => if b = hN h then kd else h.1 b, fun b => if b = hN h then n else h.2.1 b, fun b j => if b = hN h then f j else h.2.2.1 b j, hN h + 1)
def nwo (h : Hp) (ci : Nat) : Option Hp := some (hnew h (ci + 1) 0 (fun k => if rfT ci k then -1 else 0))
def nwa (h : Hp) (kd bound : Nat) (n : Int) : Option Hp := if 0 ≤ n ∧ n ≤ (bound : Int) then some (hnew h kd n.toNat (fun _ => if kd ≤ 10 then 0 else -1)) else none
def hsN (h : Hp) (n : Nat) : Hp := (h.1, h.2.1, h.2.2.1, n)
theorem rO_pos {a : Int} (h : 0 ≤ a) : rO a = some a.toNat := if_neg (by omega)
theorem vr_pos {a : Int} (h : 0 ≤ a) : vr a = .ref a.toNat := by show va_rf (rO a) = _; rw [rO_pos h]; rfl
theorem vr_neg {a : Int} (h : a < 0) : vr a = .null := by show va_rf (rO a) = _; rw [rO, if_pos h]; rfl
theorem ckd_s {h : Hp} {ci : Nat} {a : Int} {u : Unit} (e : ckd h ci a = some u) : 0 ≤ a ∧ hK h a.toNat = ci + 1 := by
  unfold ckd at e; split at e
  · assumption
  · cases e
theorem gtf_s {h : Hp} {ci k : Nat} {a v : Int} (e : gtf h ci k a = some v) : 0 ≤ a ∧ hK h a.toNat = ci + 1 ∧ v = hF h a.toNat k := by
  unfold gtf at e; split at e
  · rename_i g; cases e; exact ⟨g.1, g.2, rfl⟩
  · cases e
theorem ptf_s {h h' : Hp} {ci k : Nat} {a v : Int} (e : ptf h ci k a v = some h') : 0 ≤ a ∧ hK h a.toNat = ci + 1 ∧ h' = hset h a.toNat k v := by
  unfold ptf at e; split at e
  · rename_i g; cases e; exact ⟨g.1, g.2, rfl⟩
  · cases e
theorem ald_s {h : Hp} {kd : Nat} {a i v : Int} (e : ald h kd a i = some v) : 0 ≤ a ∧ hK h a.toNat = kd ∧ 0 ≤ i ∧ i < (hL h a.toNat : Int) ∧ v = hF h a.toNat i.toNat := by
  unfold ald at e; split at e
  · rename_i g; cases e; exact ⟨g.1, g.2.1, g.2.2.1, g.2.2.2, rfl⟩
  · cases e
theorem ast_s {h h' : Hp} {kd : Nat} {a i v : Int} (e : ast h kd a i v = some h') : 0 ≤ a ∧ hK h a.toNat = kd ∧ 0 ≤ i ∧ i < (hL h a.toNat : Int) ∧ h' = hset h a.toNat i.toNat v := by
  unfold ast at e; split at e
  · rename_i g; cases e; exact ⟨g.1, g.2.1, g.2.2.1, g.2.2.2, rfl⟩
  · cases e
theorem aln_s {h : Hp} {kd : Nat} {a v : Int} (e : aln h kd a = some v) : 0 ≤ a ∧ hK h a.toNat = kd ∧ v = (hL h a.toNat : Int) ∧ v ≤ 2147483647 := by
  unfold aln at e; split at e
  · rename_i g; cases e; exact ⟨g.1, g.2.1, rfl, g.2.2⟩
  · cases e
theorem aln_i {h : Hp} {kd : Nat} {a v : Int} (e : aln h kd a = some v) : inr v := by
  obtain ⟨-, -, h1, h2⟩ := aln_s e
  constructor <;> omega
theorem nwa_s {h h' : Hp} {kd bound : Nat} {n : Int} (e : nwa h kd bound n = some h') : 0 ≤ n ∧ n ≤ (bound : Int) ∧ h' = hnew h kd n.toNat (fun _ => if kd ≤ 10 then 0 else -1) := by
  unfold nwa at e; split at e
  · rename_i g; cases e; exact ⟨g.1, g.2, rfl⟩
  · cases e
section
variable {D : va_G} {G : Nat → ClassId} {base : Nat} {h h' : Hp} {H : Heap}
theorem gtf_i {ci k : Nat} {a v : Int} (hM : SM D G base h H) (e : gtf h ci k a = some v) (hc : ci ≤ 6) (hr : rfT ci k = false) : inr v := by
  obtain ⟨-, h2, h3⟩ := gtf_s e
  rw [h3]
  refine hM.2.1 _ _ (by omega) ?_
  rw [h2, isI, if_pos (by omega), show ci + 1 - 1 = ci from rfl, hr]; rfl
theorem ald_i {kd : Nat} {a i v : Int} (hM : SM D G base h H) (e : ald h kd a i = some v) (h8 : 8 ≤ kd) (h10 : kd ≤ 10) : inr v := by
  obtain ⟨-, h2, -, -, h3⟩ := ald_s e
  rw [h3]
  refine hM.2.1 _ _ (by omega) ?_
  rw [h2, isI, if_neg (by omega)]; exact decide_eq_true h10
theorem SM.obj {ci : Nat} {a : Nat} (hM : SM D G base h H) (hk : hK h a = ci + 1) (hc : ci ≤ 6) : va_P D vwCl [(a, .inr (ci, (tyTab.getD ci []).mapIdx (fun k b => vv b (hF h a k))))] H := by
  intro j q hj
  have hz : j < 1 := (List.getElem?_eq_some_iff.mp hj).1
  rw [show j = 0 by omega] at hj
  cases hj
  have h1 := (hM.2.2 a (by omega)).2.2
  unfold encE at h1
  rw [if_pos (by omega), hk] at h1
  exact h1
theorem SM.arI {kd : Nat} {a : Nat} (hM : SM D G base h H) (hk : hK h a = kd) (h8 : 8 ≤ kd) (h9 : kd ≤ 9) : va_P D vwCl [(a, .inl (G kd, hL h a, .inl (fun j => Int32.ofInt (hF h a j))))] H := by
  intro j q hj
  have hz : j < 1 := (List.getElem?_eq_some_iff.mp hj).1
  rw [show j = 0 by omega] at hj
  cases hj
  have h1 := (hM.2.2 a (by omega)).2.2
  unfold encE at h1
  rw [if_neg (by omega), if_pos (by omega), hk] at h1
  exact h1
theorem SM.arL {a : Nat} (hM : SM D G base h H) (hk : hK h a = 10) : va_P D vwCl [(a, .inl (G 10, hL h a, .inr (.inl (fun j => Int64.ofInt (hF h a j)))))] H := by
  intro j q hj
  have hz : j < 1 := (List.getElem?_eq_some_iff.mp hj).1
  rw [show j = 0 by omega] at hj
  cases hj
  have h1 := (hM.2.2 a (by omega)).2.2
  unfold encE at h1
  rw [if_neg (by omega), if_neg (by omega), if_pos hk, hk] at h1
  exact h1
theorem SM.arR {kd : Nat} {a : Nat} (hM : SM D G base h H) (hk : hK h a = kd) (h11 : 11 ≤ kd) : va_P D vwCl [(a, .inl (G kd, hL h a, .inr (.inr (.inr (.inr (fun j => rO (hF h a j)))))))] H := by
  intro j q hj
  have hz : j < 1 := (List.getElem?_eq_some_iff.mp hj).1
  rw [show j = 0 by omega] at hj
  cases hj
  have h1 := (hM.2.2 a (by omega)).2.2
  unfold encE at h1
  rw [if_neg (by omega), if_neg (by omega), if_neg (by omega), hk] at h1
  exact h1
/-- a store in the cell a alone -/
theorem SM.set {a k : Nat} {v : Int} {H1 : Heap} (hM : SM D G base h H) (ha : hK h a ≠ 0) (z : H1.size = H.size) (oq : ∀ q : Nat, q ≠ a → H1[q]? = H[q]?) (hv : isI (hK h a) k = true → inr v) (hw : va_at D vwCl (a, encE G (hset h a k v) a) H1) : SM D G base (hset h a k v) H1 := by
  refine ⟨by rw [z]; exact hM.1, fun b j hb hi => ?_, fun b hb => ?_⟩
  · show inr (if b = a ∧ j = k then v else hF h b j)
    split
    · rename_i g; obtain ⟨rfl, rfl⟩ := g; exact hv hi
    · exact hM.2.1 b j hb hi
  · refine ⟨(hM.2.2 b hb).1, (hM.2.2 b hb).2.1, ?_⟩
    by_cases hba : b = a
    · subst hba; exact hw
    · have e1 : encE G (hset h a k v) b = encE G h b := by
        have : ∀ j, hF (hset h a k v) b j = hF h b j := fun j => if_neg (fun g => hba g.1)
        unfold encE
        simp only [this]
        rfl
      rw [e1]
      exact (hM.2.2 b hb).2.2.kept (oq b hba)
/-- a new cell -/
theorem SM.new {kd n : Nat} {f : Nat → Int} {H1 : Heap} (hM : SM D G base h H) (hb : base ≤ H.size) (z : H1.size = H.size + 1) (oq : ∀ q : Nat, q < H.size → H1[q]? = H[q]?) (hkd : kd ≤ 14) (hf : ∀ k, isI kd k = true → inr (f k)) (hw : va_at D vwCl (hN h, encE G (hnew h kd n f) (hN h)) H1) : SM D G base (hnew h kd n f) H1 := by
  refine ⟨by rw [z, hM.1]; rfl, fun b j hb1 hi => ?_, fun b hb1 => ?_⟩
  · show inr (if b = hN h then f j else hF h b j)
    by_cases hbn : b = hN h
    · rw [if_pos hbn]
      refine hf j ?_
      have : hK (hnew h kd n f) b = kd := if_pos hbn
      rw [this] at hi; exact hi
    · rw [if_neg hbn]
      have : hK (hnew h kd n f) b = hK h b := if_neg hbn
      rw [this] at hi hb1
      exact hM.2.1 b j hb1 hi
  · by_cases hbn : b = hN h
    · subst hbn
      exact ⟨by rw [← hM.1]; exact hb, by show (if hN h = hN h then kd else _) ≤ 14; rw [if_pos rfl]; exact hkd, hw⟩
    · have hkk : hK (hnew h kd n f) b = hK h b := if_neg hbn
      rw [hkk] at hb1
      refine ⟨(hM.2.2 b hb1).1, by rw [hkk]; exact (hM.2.2 b hb1).2.1, ?_⟩
      have e1 : encE G (hnew h kd n f) b = encE G h b := by
        have h1 : ∀ j, hF (hnew h kd n f) b j = hF h b j := fun j => if_neg hbn
        have h2 : hL (hnew h kd n f) b = hL h b := if_neg hbn
        unfold encE
        simp only [h1, h2, hkk]
      rw [e1]
      have h3 := (hM.2.2 b hb1).2.2
      exact h3.kept (oq b h3.lt)
end
