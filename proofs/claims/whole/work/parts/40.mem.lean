/-! the reference's memory: array k (its field's number) at place i; its two ints at place 0 -/
abbrev Mm : Type := Nat → Nat → Int
def mlen (k : Nat) : Nat := if k = 1 ∨ k = 2 ∨ k = 14 ∨ k = 15 ∨ k = 16 ∨ k = 17 ∨ k = 24 then 256 else if k = 18 ∨ k = 19 ∨ k = 20 then 32768 else if k = 21 then 24 else if k = 22 then 6144 else if k = 23 then 64 else if k = 26 then 96 else 8
def mkd (k : Nat) : Nat := if k = 4 then 9 else 8
def mup (N : Mm) (k i : Nat) (v : Int) : Mm := fun b j => if b = k ∧ j = i then v else N b j
def mgt (k : Nat) (N : Mm) (i : Int) : Option Int := if 0 ≤ i ∧ i < (mlen k : Int) then some (N k i.toNat) else none
def mst (k : Nat) (N : Mm) (i v : Int) : Option Mm := if 0 ≤ i ∧ i < (mlen k : Int) then some (mup N k i.toNat v) else none
abbrev isA (k : Nat) : Prop := k < 27 ∧ k ≠ 0 ∧ k ≠ 3
/-- the reference lies at x with its arrays at am; h is h0 elsewhere -/
def MX (x : Int) (am : Nat → Nat) (h0 h : Hp) (N : Mm) : Prop :=
  (0 ≤ x ∧ hK h x.toNat = 7 ∧ hF h x.toNat 0 = N 0 0 ∧ hF h x.toNat 3 = N 3 0) ∧
  (∀ k, isA k → hF h x.toNat k = (am k : Int) ∧ hK h (am k) = mkd k ∧ hL h (am k) = mlen k ∧ ∀ i, i < mlen k → hF h (am k) i = N k i) ∧
  (∀ k j, isA k → isA j → am k = am j → k = j) ∧
  (hN h = hN h0 ∧ (∀ a, hK h a = hK h0 a) ∧ (∀ a, hL h a = hL h0 a) ∧ ∀ a, a ≠ x.toNat → (∀ k, isA k → a ≠ am k) → ∀ j, hF h a j = hF h0 a j)
theorem mx_ref {x : Int} {am : Nat → Nat} {h0 h : Hp} {N : Mm} (hM : MX x am h0 h N) (k : Nat) (hk : isA k) : gtf h 6 k x = some (am k : Int) := by
  unfold gtf
  rw [if_pos ⟨hM.1.1, hM.1.2.1⟩, (hM.2.1 k hk).1]
theorem mx_ck {x : Int} {am : Nat → Nat} {h0 h : Hp} {N : Mm} (hM : MX x am h0 h N) : ckd h 6 x = some () := by
  unfold ckd
  rw [if_pos ⟨hM.1.1, hM.1.2.1⟩]
theorem mx_f0 {x : Int} {am : Nat → Nat} {h0 h : Hp} {N : Mm} (hM : MX x am h0 h N) : gtf h 6 0 x = some (N 0 0) := by
  unfold gtf
  rw [if_pos ⟨hM.1.1, hM.1.2.1⟩, hM.1.2.2.1]
theorem mx_f3 {x : Int} {am : Nat → Nat} {h0 h : Hp} {N : Mm} (hM : MX x am h0 h N) : gtf h 6 3 x = some (N 3 0) := by
  unfold gtf
  rw [if_pos ⟨hM.1.1, hM.1.2.1⟩, hM.1.2.2.2]
theorem mx_ald {x : Int} {am : Nat → Nat} {h0 h : Hp} {N : Mm} (hM : MX x am h0 h N) {k kd : Nat} (hk : isA k) (hkd : mkd k = kd) {i v : Int} (g : mgt k N i = some v) : ald h kd (am k : Int) i = some v := by
  unfold mgt at g
  split at g
  · rename_i hi
    cases g
    obtain ⟨-, h2, h3, h4⟩ := hM.2.1 k hk
    unfold ald
    have e : ((am k : Nat) : Int).toNat = am k := by omega
    rw [e, if_pos ⟨by omega, by rw [h2, hkd], hi.1, by rw [h3]; exact hi.2⟩, h4 _ (by omega)]
  · cases g
theorem mx_ne {x : Int} {am : Nat → Nat} {h0 h : Hp} {N : Mm} (hM : MX x am h0 h N) {k : Nat} (hk : isA k) : am k ≠ x.toNat := by
  intro q
  have h1 := (hM.2.1 k hk).2.1
  rw [q, hM.1.2.1] at h1
  unfold mkd at h1
  split at h1 <;> omega
theorem mx_ast {x : Int} {am : Nat → Nat} {h0 h : Hp} {N N' : Mm} (hM : MX x am h0 h N) {k kd : Nat} (hk : isA k) (hkd : mkd k = kd) {i v : Int} (g : mst k N i v = some N') : ∃ h', ast h kd (am k : Int) i v = some h' ∧ MX x am h0 h' N' := by
  unfold mst at g
  split at g
  · rename_i hi
    cases g
    obtain ⟨h1, h2, h3, h4⟩ := hM.2.1 k hk
    have e : ((am k : Nat) : Int).toNat = am k := by omega
    refine ⟨hset h (am k) i.toNat v, ?_, ?_⟩
    · unfold ast
      rw [e, if_pos ⟨by omega, by rw [h2, hkd], hi.1, by rw [h3]; exact hi.2⟩]
    · have hne := mx_ne hM hk
      have hx : ∀ j, hF (hset h (am k) i.toNat v) x.toNat j = hF h x.toNat j := fun j => if_neg (fun q => hne q.1.symm)
      refine ⟨⟨hM.1.1, hM.1.2.1, ?_, ?_⟩, fun j hj => ?_, hM.2.2.1, hM.2.2.2.1, hM.2.2.2.2.1, hM.2.2.2.2.2.1, fun a ha hb j => ?_⟩
      · rw [hx, hM.1.2.2.1]; exact (if_neg (fun q => hk.2.1 q.1.symm)).symm
      · rw [hx, hM.1.2.2.2]; exact (if_neg (fun q => hk.2.2 q.1.symm)).symm
      · obtain ⟨q1, q2, q3, q4⟩ := hM.2.1 j hj
        refine ⟨by rw [hx]; exact q1, q2, q3, fun n hn => ?_⟩
        show (if am j = am k ∧ n = i.toNat then v else hF h (am j) n) = (if j = k ∧ n = i.toNat then v else N j n)
        by_cases hjk : j = k
        · subst hjk
          by_cases hni : n = i.toNat
          · rw [if_pos ⟨rfl, hni⟩, if_pos ⟨rfl, hni⟩]
          · rw [if_neg (fun q => hni q.2), if_neg (fun q => hni q.2), q4 n hn]
        · rw [if_neg (fun q => hjk (hM.2.2.1 j k hj hk q.1)), if_neg (fun q => hjk q.1), q4 n hn]
      · rw [← hM.2.2.2.2.2.2 a ha hb j]
        exact if_neg (fun q => hb k hk q.1)
  · cases g
theorem mx_put {x : Int} {am : Nat → Nat} {h0 h : Hp} {N : Mm} (hM : MX x am h0 h N) {k : Nat} (hk : k = 0 ∨ k = 3) (v : Int) : ∃ h', ptf h 6 k x v = some h' ∧ MX x am h0 h' (mup N k 0 v) := by
  refine ⟨hset h x.toNat k v, ?_, ?_⟩
  · unfold ptf
    rw [if_pos ⟨hM.1.1, hM.1.2.1⟩]
  · have hx : ∀ j, hF (hset h x.toNat k v) x.toNat j = if j = k then v else hF h x.toNat j := fun j => by
      show (if x.toNat = x.toNat ∧ j = k then v else hF h x.toNat j) = _
      simp
    have hn : ∀ j, isA j → ∀ n, hF (hset h x.toNat k v) (am j) n = hF h (am j) n := fun j hj n => if_neg (fun q => mx_ne hM hj q.1)
    refine ⟨⟨hM.1.1, hM.1.2.1, ?_, ?_⟩, fun j hj => ?_, hM.2.2.1, hM.2.2.2.1, hM.2.2.2.2.1, hM.2.2.2.2.2.1, fun a ha hb j => ?_⟩
    · rw [hx, hM.1.2.2.1]
      show _ = if 0 = k ∧ 0 = 0 then v else N 0 0
      simp
    · rw [hx, hM.1.2.2.2]
      show _ = if 3 = k ∧ 0 = 0 then v else N 3 0
      simp
    · obtain ⟨q1, q2, q3, q4⟩ := hM.2.1 j hj
      have hjk : j ≠ k := by rcases hk with rfl | rfl; exact hj.2.1; exact hj.2.2
      refine ⟨by rw [hx, if_neg hjk]; exact q1, q2, q3, fun n hn1 => ?_⟩
      rw [hn j hj, q4 n hn1]
      exact (if_neg (fun q => hjk q.1)).symm
    · rw [← hM.2.2.2.2.2.2 a ha hb j]
      exact if_neg (fun q => ha q.1)
theorem ex_bind {α β : Type} {x : Option α} {v : α} {f : α → Option (β × Hp)} {r : β} {P : Hp → Prop} (hx : x = some v) (h : ∃ h', f v = some (r, h') ∧ P h') : ∃ h', Option.bind x f = some (r, h') ∧ P h' := by
  rw [hx]; exact h
theorem ex_pos {c : Prop} [Decidable c] {β : Type} {A B : Option (β × Hp)} {r : β} {P : Hp → Prop} (hc : c) (h : ∃ h', A = some (r, h') ∧ P h') : ∃ h', (if c then A else B) = some (r, h') ∧ P h' := by rw [if_pos hc]; exact h
theorem ex_neg {c : Prop} [Decidable c] {β : Type} {A B : Option (β × Hp)} {r : β} {P : Hp → Prop} (hc : ¬ c) (h : ∃ h', B = some (r, h') ∧ P h') : ∃ h', (if c then A else B) = some (r, h') ∧ P h' := by rw [if_neg hc]; exact h
def rtM (v : Int) (N : Mm) : Option (Int × Mm) := if v = 0 ∨ v = 1 then some (v, N) else none
theorem ex_rtB {v r : Int} {h : Hp} {N N' : Mm} {P : Hp → Mm → Prop} (hg : rtM v N = some (r, N')) (hp : P h N) : ∃ h', rtB v h = some (r, h') ∧ P h' N' := by
  unfold rtM at hg
  split at hg
  · rename_i c
    cases hg
    exact ⟨h, by unfold rtB; rw [if_pos c], hp⟩
  · cases hg
theorem ex_ret {v r : Int} {h : Hp} {N N' : Mm} {P : Hp → Mm → Prop} (hg : some (v, N) = some (r, N')) (hp : P h N) : ∃ h', some (v, h) = some (r, h') ∧ P h' N' := by
  cases hg
  exact ⟨h, rfl, hp⟩
