theorem ey_bind {α ρ : Type} {x : Option α} {v : α} {f : α → Option ρ} {mk : Hp → ρ} {P : Hp → Prop} (hx : x = some v) (h : ∃ h', f v = some (mk h') ∧ P h') : ∃ h', Option.bind x f = some (mk h') ∧ P h' := by
  rw [hx]; exact h
theorem ey_pos {c : Prop} [Decidable c] {ρ : Type} {A B : Option ρ} {mk : Hp → ρ} {P : Hp → Prop} (hc : c) (h : ∃ h', A = some (mk h') ∧ P h') : ∃ h', (if c then A else B) = some (mk h') ∧ P h' := by rw [if_pos hc]; exact h
theorem ey_neg {c : Prop} [Decidable c] {ρ : Type} {A B : Option ρ} {mk : Hp → ρ} {P : Hp → Prop} (hc : ¬ c) (h : ∃ h', B = some (mk h') ∧ P h') : ∃ h', (if c then A else B) = some (mk h') ∧ P h' := by rw [if_neg hc]; exact h
def rtT (v : Int) (t : Th) : Option (Int × Th) := if v = 0 ∨ v = 1 then some (v, t) else none
theorem ey_rtB {v r : Int} {h : Hp} {t t' : Th} {P : Hp → Th → Prop} (hg : rtT v t = some (r, t')) (hp : P h t) : ∃ h', rtB v h = some (r, h') ∧ P h' t' := by
  unfold rtT at hg
  split at hg
  · rename_i c
    cases hg
    exact ⟨h, by unfold rtB; rw [if_pos c], hp⟩
  · cases hg
theorem ey_ret {v r : Int} {h : Hp} {t t' : Th} {P : Hp → Th → Prop} (hg : some (v, t) = some (r, t')) (hp : P h t) : ∃ h', some (v, h) = some (r, h') ∧ P h' t' := by
  cases hg
  exact ⟨h, rfl, hp⟩
theorem ey_xret {c c' : Nat} {v r : Int} {h : Hp} {t t' : Th} {P : Hp → Th → Prop} (hg : some (c, v, t) = some (c', r, t')) (hp : P h t) : ∃ h', some (c, v, h) = some (c', r, h') ∧ P h' t' := by
  cases hg
  exact ⟨h, rfl, hp⟩
def tfz (t : Th) (ci k : Nat) (a v x : Int) : Option (Int × Th) := Option.bind (tfi t ci k a v x) fun z => some (0, z)
theorem ht_fz {S : Nat → Prop} {h0 h : Hp} {t : Th} {ci k : Nat} {a v x : Int} {r : Int × Th} (hT : HT S h0 h t) (hk : akd ci k = 8) (g : tfz t ci k a v x = some r) : ∃ h', f_J7_fill_53178 h v x = some (r.1, h') ∧ HT S h0 h' r.2 := by
  obtain ⟨z, g1, g2⟩ := bd g
  cases g2
  exact ht_fi hT hk g1
