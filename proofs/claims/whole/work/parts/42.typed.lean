/-! the class's objects with their arrays inside: class of an object, its arrays' addresses and lengths, its values (object, field, place), the next address -/
abbrev Th : Type := (Nat → Nat) × (Nat → Nat → Int) × (Nat → Nat → Nat) × (Nat → Nat → Nat → Int) × Nat
def tC (t : Th) : Nat → Nat := t.1
def tI (t : Th) : Nat → Nat → Int := t.2.1
def tL (t : Th) : Nat → Nat → Nat := t.2.2.1
def tV (t : Th) : Nat → Nat → Nat → Int := t.2.2.2.1
def tN (t : Th) : Nat := t.2.2.2.2
/-- the array fields, by the kind of their arrays -/
def akd (ci k : Nat) : Nat := if ci = 0 ∧ k = 0 then 8 else if ci = 1 ∧ k = 12 then 14 else if ci = 1 ∧ (k = 13 ∨ k = 14 ∨ k = 15) then 12 else if ci = 2 ∧ k = 0 then 8 else if ci = 3 ∧ (k = 9 ∨ k = 10) then 8 else if ci = 5 ∧ k = 1 then 13 else if ci = 5 ∧ k = 2 then 11 else 0
/-- a field's number among all classes -/
def gf (ci k : Nat) : Nat := 32 * ci + k
def tck (t : Th) (ci : Nat) (a : Int) : Option Unit := if 0 ≤ a ∧ tC t a.toNat = ci + 1 then some () else none
def tgt (t : Th) (ci k : Nat) (a : Int) : Option Int := if 0 ≤ a ∧ tC t a.toNat = ci + 1 then some (tV t a.toNat (gf ci k) 0) else none
def trf (t : Th) (ci k : Nat) (a : Int) : Option Int := if 0 ≤ a ∧ tC t a.toNat = ci + 1 then some (tI t a.toNat k) else none
def tok (t : Th) (ci k : Nat) (a v i : Int) : Prop := (0 ≤ a ∧ tC t a.toNat = ci + 1) ∧ (0 ≤ v ∧ tI t a.toNat k = v) ∧ 0 ≤ i ∧ i < (tL t a.toNat k : Int)
def tset (t : Th) (a k i : Nat) (v : Int) : Th := (t.1, t.2.1, t.2.2.1, fun b j n => if b = a ∧ j = k ∧ n = i then v else t.2.2.2.1 b j n, t.2.2.2.2)
noncomputable def tal (t : Th) (ci k : Nat) (a v i : Int) : Option Int := if (0 ≤ a ∧ tC t a.toNat = ci + 1) ∧ (0 ≤ v ∧ tI t a.toNat k = v) ∧ 0 ≤ i ∧ i < (tL t a.toNat k : Int) then some (tV t a.toNat (gf ci k) i.toNat) else none
noncomputable def tas (t : Th) (ci k : Nat) (a v i x : Int) : Option Th := if (0 ≤ a ∧ tC t a.toNat = ci + 1) ∧ (0 ≤ v ∧ tI t a.toNat k = v) ∧ 0 ≤ i ∧ i < (tL t a.toNat k : Int) then some (tset t a.toNat (gf ci k) i.toNat x) else none
noncomputable def trs (t : Th) (ci k : Nat) (a v i x : Int) : Option Th := if x < 0 ∨ tC t x.toNat = akd ci k - 9 then tas t ci k a v i x else none
def tln (t : Th) (ci k : Nat) (a v : Int) : Option Int := if (0 ≤ a ∧ tC t a.toNat = ci + 1) ∧ (0 ≤ v ∧ tI t a.toNat k = v) ∧ (tL t a.toNat k : Int) ≤ 2147483647 then some (tL t a.toNat k : Int) else none
def tpt (t : Th) (ci k : Nat) (a x : Int) : Option Th := if 0 ≤ a ∧ tC t a.toNat = ci + 1 then some (tset t a.toNat (gf ci k) 0 x) else none
def tno (t : Th) (ci : Nat) : Option Th := some (fun b => if b = tN t then ci + 1 else t.1 b, fun b k => if b = tN t then -1 else t.2.1 b k, fun b k => if b = tN t then 0 else t.2.2.1 b k, fun b k i => if b = tN t then (if rfT ci (k - 32 * ci) then -1 else 0) else t.2.2.2.1 b k i, tN t + 1)
def tarr (t : Th) (a ci k n : Nat) (f : Nat → Int) : Th := (t.1, fun b j => if b = a ∧ j = k then (tN t : Int) else t.2.1 b j, fun b j => if b = a ∧ j = k then n else t.2.2.1 b j, fun b j i => if b = a ∧ j = gf ci k then f i else t.2.2.2.1 b j i, tN t + 1)
/-- a new array, put into the field k of a -/
def tan (t : Th) (ci k bound : Nat) (a n : Int) : Option Th := if (0 ≤ n ∧ n ≤ (bound : Int)) ∧ 0 ≤ a ∧ tC t a.toNat = ci + 1 then some (tarr t a.toNat ci k n.toNat (fun _ => if akd ci k ≤ 10 then 0 else -1)) else none
/-- a longer copy of the array in the field k of a, put there -/
def tcp (t : Th) (ci k : Nat) (a v n : Int) : Option Th := if (0 ≤ a ∧ tC t a.toNat = ci + 1) ∧ (0 ≤ v ∧ tI t a.toNat k = v) ∧ (tL t a.toNat k : Int) < n ∧ n ≤ 1024 then some (tarr t a.toNat ci k n.toNat (fun j => if j < tL t a.toNat k then tV t a.toNat (gf ci k) j else 0)) else none
/-- an array filled -/
def tfi (t : Th) (ci k : Nat) (a v x : Int) : Option Th := if (0 ≤ a ∧ tC t a.toNat = ci + 1) ∧ (0 ≤ v ∧ tI t a.toNat k = v) ∧ tL t a.toNat k ≤ 256 then some (t.1, t.2.1, t.2.2.1, fun b j n => if b = a.toNat ∧ j = gf ci k ∧ n < tL t a.toNat k then x else t.2.2.2.1 b j n, t.2.2.2.2) else none
theorem akd_ge (ci k : Nat) : akd ci k ≠ 0 → 8 ≤ akd ci k ∧ akd ci k ≤ 14 := by
  unfold akd
  repeat' split
  all_goals omega
/-- the heap h holds t; outside of it, at the addresses of S, it is h0 -/
def HT (S : Nat → Prop) (h0 h : Hp) (t : Th) : Prop :=
  (hN h = tN t ∧ hN h0 ≤ hN h) ∧
  (∀ a ci, tC t a = ci + 1 → ci ≤ 5 ∧ hK h a = ci + 1 ∧ a < hN h ∧ ¬ S a ∧ (∀ k, akd ci k = 0 → hF h a k = tV t a (gf ci k) 0) ∧
    ∀ k, akd ci k ≠ 0 → hF h a k = tI t a k ∧ (0 ≤ tI t a k → hK h (tI t a k).toNat = akd ci k ∧ hL h (tI t a k).toNat = tL t a k ∧ (tI t a k).toNat < hN h ∧ ¬ S (tI t a k).toNat ∧ ∀ i, i < tL t a k → hF h (tI t a k).toNat i = tV t a (gf ci k) i)) ∧
  (∀ a ci k a' ci' k', tC t a = ci + 1 → akd ci k ≠ 0 → tC t a' = ci' + 1 → akd ci' k' ≠ 0 → 0 ≤ tI t a k → tI t a k = tI t a' k' → a = a' ∧ k = k') ∧
  (∀ a, S a → a < hN h0 ∧ hK h a = hK h0 a ∧ hL h a = hL h0 a ∧ ∀ j, hF h a j = hF h0 a j)
section
variable {S : Nat → Prop} {h0 h : Hp} {t t' : Th}
theorem ht_ck {ci : Nat} {a : Int} {u : Unit} (hT : HT S h0 h t) (g : tck t ci a = some u) : ckd h ci a = some u := by
  unfold tck at g
  split at g
  · rename_i c
    unfold ckd
    rw [if_pos ⟨c.1, (hT.2.1 _ _ c.2).2.1⟩]
  · cases g
theorem ht_get {ci k : Nat} {a v : Int} (hT : HT S h0 h t) (hk : akd ci k = 0) (g : tgt t ci k a = some v) : gtf h ci k a = some v := by
  unfold tgt at g
  split at g
  · rename_i c
    cases g
    unfold gtf
    obtain ⟨-, h2, -, -, h3, -⟩ := hT.2.1 _ _ c.2
    rw [if_pos ⟨c.1, h2⟩, h3 k hk]
  · cases g
theorem ht_ref {ci k : Nat} {a v : Int} (hT : HT S h0 h t) (hk : akd ci k ≠ 0) (g : trf t ci k a = some v) : gtf h ci k a = some v := by
  unfold trf at g
  split at g
  · rename_i c
    cases g
    unfold gtf
    obtain ⟨-, h2, -, -, -, h3⟩ := hT.2.1 _ _ c.2
    rw [if_pos ⟨c.1, h2⟩, (h3 k hk).1]
  · cases g
theorem ht_ald {ci k kd : Nat} {a v i x : Int} (hT : HT S h0 h t) (hk : akd ci k = kd) (h0k : kd ≠ 0) (g : tal t ci k a v i = some x) : ald h kd v i = some x := by
  unfold tal at g
  split at g
  · rename_i c
    cases g
    obtain ⟨⟨c1, c2⟩, ⟨c3, c4⟩, c5, c6⟩ := c
    obtain ⟨-, -, -, -, -, h3⟩ := hT.2.1 _ _ c2
    subst hk
    obtain ⟨-, h4⟩ := h3 k h0k
    obtain ⟨q1, q2, -, -, q3⟩ := h4 (by rw [c4]; exact c3)
    rw [c4] at q1 q2 q3
    unfold ald
    rw [if_pos ⟨c3, q1, c5, by rw [q2]; exact c6⟩, q3 _ (by omega)]
  · cases g
theorem ht_aln {ci k : Nat} {a v x : Int} (hT : HT S h0 h t) (hk : akd ci k = 8) (g : tln t ci k a v = some x) : aln h 8 v = some x := by
  unfold tln at g
  split at g
  · rename_i c
    cases g
    obtain ⟨⟨c1, c2⟩, ⟨c3, c4⟩, c5⟩ := c
    obtain ⟨-, -, -, -, -, h3⟩ := hT.2.1 _ _ c2
    obtain ⟨-, h4⟩ := h3 k (by rw [hk]; decide)
    obtain ⟨q1, q2, -, -, q3⟩ := h4 (by rw [c4]; exact c3)
    rw [c4] at q1 q2 q3
    unfold aln
    rw [if_pos ⟨c3, by rw [q1, hk], by rw [q2]; exact c5⟩, q2]
  · cases g
/-- a store into a scalar field -/
theorem ht_put {ci k : Nat} {a x : Int} (hT : HT S h0 h t) (hk : akd ci k = 0) (g : tpt t ci k a x = some t') : ∃ h', ptf h ci k a x = some h' ∧ HT S h0 h' t' := by
  unfold tpt at g
  split at g
  · rename_i c
    cases g
    obtain ⟨c1, c2⟩ := c
    obtain ⟨z1, z2, z3, z4, z5, z6⟩ := hT.2.1 _ _ c2
    refine ⟨hset h a.toNat k x, ?_, hT.1, ?_, hT.2.2.1, ?_⟩
    · unfold ptf; rw [if_pos ⟨c1, z2⟩]
    · intro b cj hb
      obtain ⟨y1, y2, y3, y4, y5, y6⟩ := hT.2.1 b cj hb
      refine ⟨y1, y2, y3, y4, fun j hj => ?_, fun j hj => ?_⟩
      · show (if b = a.toNat ∧ j = k then x else hF h b j) = (if b = a.toNat ∧ gf cj j = gf ci k ∧ 0 = 0 then x else tV t b (gf cj j) 0)
        by_cases q : b = a.toNat ∧ j = k
        · have hcc : ci = cj := by have h9 := q.1 ▸ hb; have := c2.symm.trans h9; omega
          rw [if_pos q, if_pos ⟨q.1, by rw [hcc, q.2], rfl⟩]
        · rw [if_neg q, if_neg (fun z => q ⟨z.1, by
            have hcc : ci = cj := by have h9 := z.1 ▸ hb; have := c2.symm.trans h9; omega
            have := z.2.1; unfold gf at this; omega⟩), y5 j hj]
      · obtain ⟨w1, w2⟩ := y6 j hj
        have hn : ¬ (b = a.toNat ∧ j = k) := by
          rintro ⟨rfl, rfl⟩
          have : ci = cj := by have := c2.symm.trans hb; omega
          subst this
          exact hj hk
        refine ⟨?_, fun hp => ?_⟩
        · show (if b = a.toNat ∧ j = k then x else hF h b j) = tI t b j
          rw [if_neg hn]; exact w1
        · obtain ⟨q1, q2, q3, q4, q5⟩ := w2 hp
          refine ⟨q1, q2, q3, q4, fun i hi => ?_⟩
          show (if (tI t b j).toNat = a.toNat ∧ i = k then x else hF h (tI t b j).toNat i) = (if b = a.toNat ∧ gf cj j = gf ci k ∧ i = 0 then x else tV t b (gf cj j) i)
          have hd : (tI t b j).toNat ≠ a.toNat := by
            intro q
            rw [q, z2] at q1
            have := akd_ge cj j hj
            omega
          rw [if_neg (fun q => hd q.1), if_neg (fun q => hn ⟨q.1, by
            have hcc : ci = cj := by have h9 := q.1 ▸ hb; have := c2.symm.trans h9; omega
            have := q.2.1; unfold gf at this; omega⟩), q5 i hi]
    · intro b hb
      obtain ⟨y1, y2, y3, y4⟩ := hT.2.2.2 b hb
      refine ⟨y1, y2, y3, fun j => ?_⟩
      rw [← y4 j]
      exact if_neg (fun q => z4 (by rw [← q.1]; exact hb))
  · cases g
end
