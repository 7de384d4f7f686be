/-! chains of slabs -/
def lastA : Int → List Nat → Int
  | pr, [] => pr
  | _, y :: ys => lastA (y : Int) ys
section
variable {B A B' A' : Nat → Int} {a : Nat} {zs : List Nat}
theorem dl_at : ∀ (ys : List Nat) (pr : Int), dlf B A pr (ys ++ a :: zs) → B a = lastA pr ys ∧ A a = hdA zs := by
  intro ys
  induction ys with
  | nil => intro pr h; exact ⟨h.1, h.2.1⟩
  | cons y ys ih => intro pr h; exact ih _ h.2.2
theorem last_mem : ∀ (ys : List Nat) (pr : Int), lastA pr ys = pr ∨ ∃ y, y ∈ ys ∧ lastA pr ys = (y : Int) := by
  intro ys
  induction ys with
  | nil => intro pr; left; rfl
  | cons y ys ih =>
    intro pr
    right
    rcases ih (y : Int) with h | ⟨z, h1, h2⟩
    · exact ⟨y, List.mem_cons_self, h⟩
    · exact ⟨z, List.mem_cons_of_mem _ h1, h2⟩
theorem last_neg : ∀ (ys : List Nat), lastA (-1) ys < 0 → ys = [] := by
  intro ys h
  cases ys with
  | nil => rfl
  | cons y ys =>
    exfalso
    have h' : lastA (y : Int) ys < 0 := h
    rcases last_mem ys (y : Int) with q | ⟨z, _, q⟩ <;> omega
theorem dl_next : ∀ (ys : List Nat) (pr : Int), dlf B A pr (ys ++ a :: zs) → (ys ++ a :: zs).Nodup → ∀ y, y ∈ ys → (A y = (a : Int) ↔ (y : Int) = lastA pr ys) := by
  intro ys
  induction ys with
  | nil => intro _ _ _ y hy; cases hy
  | cons y0 ys ih =>
    intro pr h hn y hy
    have hn2 : (ys ++ a :: zs).Nodup := (List.nodup_cons.mp hn).2
    have hy0 : y0 ∉ ys ++ a :: zs := (List.nodup_cons.mp hn).1
    show _ ↔ (y : Int) = lastA (y0 : Int) ys
    rcases List.mem_cons.mp hy with rfl | hy
    · cases ys with
      | nil => exact ⟨fun _ => rfl, fun _ => h.2.1⟩
      | cons y1 ys =>
        have e1 : A y = (y1 : Int) := h.2.1
        constructor
        · intro q
          have e2 : y1 = a := by omega
          exact absurd (e2 ▸ List.mem_append_right ys List.mem_cons_self) (List.nodup_cons.mp hn2).1
        · intro q
          exfalso
          have q' : (y : Int) = lastA (y1 : Int) ys := q
          rcases last_mem ys (y1 : Int) with z | ⟨w, z1, z2⟩
          · have : y = y1 := by omega
            exact hy0 (this ▸ List.mem_cons_self)
          · have : y = w := by omega
            exact hy0 (this ▸ List.mem_cons_of_mem _ (List.mem_append_left _ z1))
    · exact ih _ h.2.2 hn2 y hy
theorem dl_rm : ∀ (ys : List Nat) (pr : Int), dlf B A pr (ys ++ a :: zs) → a ∉ ys → (∀ q, q ∈ ys ∨ q ∈ zs.tail → B' q = B q) → (∀ z r, zs = z :: r → B' z = lastA pr ys) → (∀ q, q ∈ zs → A' q = A q) → (∀ q, q ∈ ys → A q ≠ (a : Int) → A' q = A q) → (∀ q, q ∈ ys → A q = (a : Int) → A' q = hdA zs) → dlf B' A' pr (ys ++ zs) := by
  intro ys
  induction ys with
  | nil =>
    intro pr h _ h1 h2 h3 _ _
    cases zs with
    | nil => trivial
    | cons z r =>
      refine ⟨h2 z r rfl, ?_, dlf_congr r _ (fun q hq => ⟨h1 q (Or.inr hq), h3 q (List.mem_cons_of_mem _ hq)⟩) h.2.2.2.2⟩
      rw [h3 z List.mem_cons_self]
      exact h.2.2.2.1
  | cons y ys ih =>
    intro pr h ha h1 h2 h3 h4 h5
    refine ⟨?_, ?_, ih _ h.2.2 (fun q => ha (List.mem_cons_of_mem _ q)) (fun q hq => h1 q (hq.imp (List.mem_cons_of_mem _) id)) h2 h3 (fun q hq => h4 q (List.mem_cons_of_mem _ hq)) (fun q hq => h5 q (List.mem_cons_of_mem _ hq))⟩
    · rw [h1 y (Or.inl List.mem_cons_self)]; exact h.1
    · have e := h.2.1
      cases ys with
      | nil => exact h5 y List.mem_cons_self e
      | cons y1 ys =>
        have e1 : A y = (y1 : Int) := e
        rw [h4 y List.mem_cons_self (fun q => ha (List.mem_cons_of_mem _ (by
          have : y1 = a := by omega
          exact this ▸ List.mem_cons_self)))]
        exact e1
end
theorem hd_neg {zs : List Nat} (h : hdA zs < 0) : zs = [] := by
  cases zs with
  | nil => rfl
  | cons z r => exfalso; have : (z : Int) < 0 := h; omega
theorem hd_pos {zs : List Nat} (h : ¬ hdA zs < 0) : ∃ z r, zs = z :: r ∧ hdA zs = (z : Int) := by
  cases zs with
  | nil => exact absurd (show hdA [] < 0 by decide) h
  | cons z r => exact ⟨z, r, rfl, rfl⟩
def remT (t : Th) (L a : Nat) (P S : Int) : Th :=
  tset (tset (if S < 0 then (if 0 ≤ P then tset t P.toNat (gf 3 6) 0 S else tset t L (gf 4 0) 0 S) else tset (if 0 ≤ P then tset t P.toNat (gf 3 6) 0 S else tset t L (gf 4 0) 0 S) S.toNat (gf 3 5) 0 P) a (gf 3 5) 0 (-1)) a (gf 3 6) 0 (-1)
theorem rem_same (t : Th) (L a : Nat) (P S : Int) : tC (remT t L a P S) = tC t ∧ tI (remT t L a P S) = tI t ∧ tL (remT t L a P S) = tL t ∧ tN (remT t L a P S) = tN t := by
  unfold remT
  repeat' split
  all_goals exact ⟨rfl, rfl, rfl, rfl⟩
theorem rem_fe (t : Th) (L a : Nat) (P S : Int) : Fe t (remT t L a P S) [gf 3 5, gf 3 6, gf 4 0] := by
  unfold remT
  have f1 : Fe t (if 0 ≤ P then tset t P.toNat (gf 3 6) 0 S else tset t L (gf 4 0) 0 S) [gf 3 5, gf 3 6, gf 4 0] := by
    split
    · exact fe_sub (fe_set _ _ _ _ _) (by decide)
    · exact fe_sub (fe_set _ _ _ _ _) (by decide)
  have f2 : Fe t (if S < 0 then (if 0 ≤ P then tset t P.toNat (gf 3 6) 0 S else tset t L (gf 4 0) 0 S) else tset (if 0 ≤ P then tset t P.toNat (gf 3 6) 0 S else tset t L (gf 4 0) 0 S) S.toNat (gf 3 5) 0 P) [gf 3 5, gf 3 6, gf 4 0] := by
    split
    · exact f1
    · exact fe_sub (fe_trans f1 (fe_set _ _ _ _ _)) (by decide)
  exact fe_sub (fe_trans (fe_trans f2 (fe_set _ _ _ _ _)) (fe_set _ _ _ _ _)) (by decide)
theorem rem_eq {t : Th} {L a : Nat} {P S : Int} (hL : tC t L = 4 + 1) (ha : tC t a = 3 + 1) (hP : tV t a (gf 3 5) 0 = P) (hS : tV t a (gf 3 6) 0 = S) (cP : 0 ≤ P → tC t P.toNat = 3 + 1 ∧ P.toNat ≠ a) (cS : ¬ S < 0 → tC t S.toNat = 3 + 1) : t_X4_remove t (L : Int) (a : Int) = some (0, remT t L a P S) := by
  have fin : ∀ t1 : Th, tC t1 = tC t → tV t1 a (gf 3 5) 0 = P → tV t1 a (gf 3 6) 0 = S → t_X4_remove_j29 t1 (a : Int) = some (0, tset (tset (if S < 0 then t1 else tset t1 S.toNat (gf 3 5) 0 P) a (gf 3 5) 0 (-1)) a (gf 3 6) 0 (-1)) := by
    intro t1 hC h5 h6
    have ha1 : tC t1 a = 3 + 1 := by rw [hC]; exact ha
    unfold t_X4_remove_j29 t_X4_remove_j47
    rw [q_gt 6 ha1, Option.bind_some, h6]
    by_cases e : S < 0
    · rw [if_pos e, if_pos e, q_pt 5 _ ha1, Option.bind_some, q_pt 6 _ (show tC (tset t1 a (gf 3 5) 0 (-1)) a = 3 + 1 from ha1), Option.bind_some]
    · have eS : S = ((S.toNat : Nat) : Int) := by omega
      have hS1 : tC t1 S.toNat = 3 + 1 := by rw [hC]; exact cS e
      rw [if_neg e, if_neg e, Option.bind_some, q_gt 5 ha1, Option.bind_some, h5]
      have e1 : tpt t1 3 5 S P = some (tset t1 S.toNat (gf 3 5) 0 P) := by
        have := q_pt 5 P hS1
        rw [← eS] at this
        exact this
      rw [e1, Option.bind_some, q_pt 5 _ (show tC (tset t1 S.toNat (gf 3 5) 0 P) a = 3 + 1 from ha1), Option.bind_some, q_pt 6 _ (show tC (tset (tset t1 S.toNat (gf 3 5) 0 P) a (gf 3 5) 0 (-1)) a = 3 + 1 from ha1), Option.bind_some]
  unfold t_X4_remove
  rw [q_gt 5 ha, Option.bind_some, hP, Option.bind_some, q_gt 6 ha, Option.bind_some, hS, Option.bind_some]
  by_cases e : 0 ≤ P
  · have eP : P = ((P.toNat : Nat) : Int) := by omega
    have e1 : tpt t 3 6 P S = some (tset t P.toNat (gf 3 6) 0 S) := by
      have := q_pt 6 S (cP e).1
      rw [← eP] at this
      exact this
    rw [if_pos e, e1, Option.bind_some, fin (tset t P.toNat (gf 3 6) 0 S) rfl (by rw [tV_set, if_neg (fun q => by have := q.2.1; revert this; decide)]; exact hP) (by rw [tV_set, if_neg (fun q => (cP e).2 q.1.symm)]; exact hS)]
    unfold remT
    rw [if_pos e]
  · rw [if_neg e, q_pt 0 _ hL, Option.bind_some, fin (tset t L (gf 4 0) 0 S) rfl (by rw [tV_set, if_neg (fun q => by have := q.2.1; revert this; decide)]; exact hP) (by rw [tV_set, if_neg (fun q => by have := q.2.1; revert this; decide)]; exact hS)]
    unfold remT
    rw [if_neg e]
theorem rem_B (t : Th) (L a : Nat) (P S : Int) (q : Nat) : Bt (remT t L a P S) q = if q = a then -1 else if ¬ S < 0 ∧ q = S.toNat then P else Bt t q := by
  have n1 : gf 3 5 ≠ gf 3 6 := by decide
  have n2 : gf 3 5 ≠ gf 4 0 := by decide
  unfold Bt remT
  by_cases e1 : S < 0
  · by_cases e2 : 0 ≤ P <;> simp [tV_set, e1, e2, n1, n2]
  · by_cases e2 : 0 ≤ P <;> simp [tV_set, e1, e2, n1, n2]
theorem rem_A (t : Th) (L a : Nat) (P S : Int) (q : Nat) : At (remT t L a P S) q = if q = a then -1 else if 0 ≤ P ∧ q = P.toNat then S else At t q := by
  have n1 : gf 3 6 ≠ gf 3 5 := by decide
  have n2 : gf 3 6 ≠ gf 4 0 := by decide
  unfold At remT
  by_cases e1 : S < 0
  · by_cases e2 : 0 ≤ P <;> simp [tV_set, e1, e2, n1, n2]
  · by_cases e2 : 0 ≤ P <;> simp [tV_set, e1, e2, n1, n2]
theorem rem_F (t : Th) (L a : Nat) (P S : Int) (q : Nat) : tV (remT t L a P S) q (gf 4 0) 0 = if ¬ 0 ≤ P ∧ q = L then S else tV t q (gf 4 0) 0 := by
  have n1 : gf 4 0 ≠ gf 3 5 := by decide
  have n2 : gf 4 0 ≠ gf 3 6 := by decide
  unfold remT
  by_cases e1 : S < 0
  · by_cases e2 : 0 ≤ P <;> simp [tV_set, e1, e2, n1, n2]
  · by_cases e2 : 0 ≤ P <;> simp [tV_set, e1, e2, n1, n2]
def putT (t : Th) (L a : Nat) (F : Int) : Th :=
  tset (if F < 0 then tset (tset t a (gf 3 5) 0 (-1)) a (gf 3 6) 0 F else tset (tset (tset t a (gf 3 5) 0 (-1)) a (gf 3 6) 0 F) F.toNat (gf 3 5) 0 a) L (gf 4 0) 0 a
theorem put_same (t : Th) (L a : Nat) (F : Int) : tC (putT t L a F) = tC t ∧ tI (putT t L a F) = tI t ∧ tL (putT t L a F) = tL t ∧ tN (putT t L a F) = tN t := by
  unfold putT
  split
  all_goals exact ⟨rfl, rfl, rfl, rfl⟩
theorem put_fe (t : Th) (L a : Nat) (F : Int) : Fe t (putT t L a F) [gf 3 5, gf 3 6, gf 4 0] := by
  unfold putT
  split
  · exact fe_sub (fe_trans (fe_trans (fe_set _ _ _ _ _) (fe_set _ _ _ _ _)) (fe_set _ _ _ _ _)) (by decide)
  · exact fe_sub (fe_trans (fe_trans (fe_trans (fe_set _ _ _ _ _) (fe_set _ _ _ _ _)) (fe_set _ _ _ _ _)) (fe_set _ _ _ _ _)) (by decide)
theorem put_eq {t : Th} {L a : Nat} {F : Int} (hL : tC t L = 4 + 1) (ha : tC t a = 3 + 1) (hF : tV t L (gf 4 0) 0 = F) (cF : ¬ F < 0 → tC t F.toNat = 3 + 1) : t_X4_putFirst t (L : Int) (a : Int) = some (0, putT t L a F) := by
  unfold t_X4_putFirst t_X4_putFirst_j28
  rw [q_pt 5 _ ha, Option.bind_some, q_gt 0 (show tC (tset t a (gf 3 5) 0 (-1)) L = 4 + 1 from hL), Option.bind_some]
  have e1 : tV (tset t a (gf 3 5) 0 (-1)) L (gf 4 0) 0 = F := by rw [tV_set, if_neg (fun q => by have := q.2.1; revert this; decide)]; exact hF
  rw [e1, q_pt 6 _ (show tC (tset t a (gf 3 5) 0 (-1)) a = 3 + 1 from ha), Option.bind_some, q_gt 0 (show tC (tset (tset t a (gf 3 5) 0 (-1)) a (gf 3 6) 0 F) L = 4 + 1 from hL), Option.bind_some]
  have e2 : tV (tset (tset t a (gf 3 5) 0 (-1)) a (gf 3 6) 0 F) L (gf 4 0) 0 = F := by rw [tV_set, if_neg (fun q => by have := q.2.1; revert this; decide)]; exact e1
  rw [e2]
  unfold putT
  by_cases e : F < 0
  · rw [if_pos e, if_pos e, q_pt 0 _ (show tC (tset (tset t a (gf 3 5) 0 (-1)) a (gf 3 6) 0 F) L = 4 + 1 from hL), Option.bind_some]
  · have eS : F = ((F.toNat : Nat) : Int) := by omega
    have e3 : tpt (tset (tset t a (gf 3 5) 0 (-1)) a (gf 3 6) 0 F) 3 5 F (a : Int) = some (tset (tset (tset t a (gf 3 5) 0 (-1)) a (gf 3 6) 0 F) F.toNat (gf 3 5) 0 (a : Int)) := by
      have := q_pt (t := tset (tset t a (gf 3 5) 0 (-1)) a (gf 3 6) 0 F) 5 (a : Int) (cF e)
      rw [← eS] at this
      exact this
    rw [if_neg e, if_neg e, Option.bind_some, e3, Option.bind_some, q_pt 0 _ (show tC (tset (tset (tset t a (gf 3 5) 0 (-1)) a (gf 3 6) 0 F) F.toNat (gf 3 5) 0 (a : Int)) L = 4 + 1 from hL), Option.bind_some]
theorem put_B (t : Th) (L a : Nat) (F : Int) (q : Nat) : Bt (putT t L a F) q = if ¬ F < 0 ∧ q = F.toNat then (a : Int) else if q = a then -1 else Bt t q := by
  have n1 : gf 3 5 ≠ gf 3 6 := by decide
  have n2 : gf 3 5 ≠ gf 4 0 := by decide
  unfold Bt putT
  by_cases e1 : F < 0 <;> simp [tV_set, e1, n1, n2]
theorem put_A (t : Th) (L a : Nat) (F : Int) (q : Nat) : At (putT t L a F) q = if q = a then F else At t q := by
  have n1 : gf 3 6 ≠ gf 3 5 := by decide
  have n2 : gf 3 6 ≠ gf 4 0 := by decide
  unfold At putT
  by_cases e1 : F < 0 <;> simp [tV_set, e1, n1, n2]
theorem put_F (t : Th) (L a : Nat) (F : Int) (q : Nat) : tV (putT t L a F) q (gf 4 0) 0 = if q = L then (a : Int) else tV t q (gf 4 0) 0 := by
  have n1 : gf 4 0 ≠ gf 3 5 := by decide
  have n2 : gf 4 0 ≠ gf 3 6 := by decide
  unfold putT
  by_cases e1 : F < 0 <;> simp [tV_set, e1, n1, n2]
/-- the rows are sound: without repetition, of slabs of that cache, each in one -/
def GL (N : Mm) (LS : Nat → List Nat) : Prop := ∀ l, l < 24 → (LS l).Nodup ∧ (∀ p, p ∈ LS l → Sl N p ∧ wN N p = l / 3) ∧ ∀ l' p, l' < 24 → p ∈ LS l → p ∈ LS l' → l = l'
theorem wr_gl {N : Mm} {LS : Nat → List Nat} (h : WR N LS) : GL N LS := fun l hl => by
  refine ⟨(h.2 l hl).1, fun p hp => ?_, fun l' p hl' h1 h2 => ?_⟩
  · obtain ⟨h1, h2⟩ := ((h.2 l hl).2 p).mp hp
    have := wh_lt (N := N) (p := p)
    exact ⟨h1, by omega⟩
  · have e1 := ((h.2 l hl).2 p).mp h1
    have e2 := ((h.2 l' hl').2 p).mp h2
    omega
section
variable {t : Th} {ca la sa : Nat → Nat} {N : Mm} {LS FL : Nat → List Nat} {p l : Nat}
theorem sa_inj (hI : KI t sa ca N) {p q : Nat} (hp : Sl N p) (hq : Sl N q) (h : sa p = sa q) : p = q := by
  have h1 := (hI p hp).2.2.1
  have h2 := (hI q hq).2.2.1
  rw [h] at h1
  omega
theorem map_nd (hI : KI t sa ca N) : ∀ (xs : List Nat), xs.Nodup → (∀ p, p ∈ xs → Sl N p) → (xs.map sa).Nodup := by
  intro xs
  induction xs with
  | nil => intro _ _; exact List.nodup_nil
  | cons x xs ih =>
    intro hn hs
    rw [List.map_cons]
    refine List.nodup_cons.mpr ⟨fun h => ?_, ih (List.nodup_cons.mp hn).2 (fun p hp => hs p (List.mem_cons_of_mem _ hp))⟩
    obtain ⟨y, h1, h2⟩ := List.mem_map.mp h
    have := sa_inj hI (hs y (List.mem_cons_of_mem _ h1)) (hs x List.mem_cons_self) h2
    exact (List.nodup_cons.mp hn).1 (this ▸ h1)
theorem unlist_eq (hC : KC t ca la N) (hI : KI t sa ca N) (hL : KL t sa la N LS) (hG : GL N LS) (hl : l < 24) (hv : Lv N (l / 3)) (hp : p ∈ LS l) : ∃ t', t_X1_unlist t (ca (l / 3) : Int) (sa p : Int) = some (0, t') ∧ KL t' sa la N (lu LS l ((LS l).erase p)) ∧ Fe t t' [gf 3 4, gf 3 5, gf 3 6, gf 4 0] ∧ tV t' (sa p) (gf 3 4) 0 = -1 ∧ tC t' = tC t ∧ tI t' = tI t ∧ tL t' = tL t ∧ tN t' = tN t := by
  obtain ⟨g1, g2, g3⟩ := hG l hl
  obtain ⟨a1, a2, a3⟩ := hL l hl hv
  obtain ⟨ys, zs, e1, e2, e3, e4⟩ := split_mem hp g1
  have el : 3 * (l / 3) + l % 3 = l := by omega
  obtain ⟨hCa, -, ⟨hC12, -⟩, hCl⟩ := hC.1 _ hv
  obtain ⟨c1, c2⟩ := hCl (l % 3) (by omega)
  rw [el] at c1 c2
  have hsp : ∀ q, q ∈ LS l → Sl N q := fun q hq => (g2 q hq).1
  have hnd := map_nd hI _ g1 hsp
  have hpC := (hI p (hsp p hp)).1
  have em : (LS l).map sa = ys.map sa ++ sa p :: zs.map sa := by rw [e1, List.map_append, List.map_cons]
  rw [em] at a1 a2 hnd
  obtain ⟨b1, b2⟩ := dl_at _ _ a2
  have hmy : ∀ q, q ∈ ys → q ∈ LS l := fun q hq => by rw [e1]; exact List.mem_append_left _ hq
  have hmz : ∀ q, q ∈ zs → q ∈ LS l := fun q hq => by rw [e1]; exact List.mem_append_right _ (List.mem_cons_of_mem _ hq)
  have hny : sa p ∉ ys.map sa := fun h => by
    obtain ⟨y, h1, h2⟩ := List.mem_map.mp h
    have := sa_inj hI (hsp y (hmy y h1)) (hsp p hp) h2
    exact e2 (this ▸ h1)
  have hnz : sa p ∉ zs.map sa := fun h => by
    obtain ⟨y, h1, h2⟩ := List.mem_map.mp h
    have := sa_inj hI (hsp y (hmz y h1)) (hsp p hp) h2
    exact e3 (this ▸ h1)
  have cP : 0 ≤ lastA (-1) (ys.map sa) → ∃ y, y ∈ ys ∧ lastA (-1) (ys.map sa) = (sa y : Int) := fun h => by
    rcases last_mem (ys.map sa) (-1) with q | ⟨z, q1, q2⟩
    · omega
    · obtain ⟨y, h1, h2⟩ := List.mem_map.mp q1
      exact ⟨y, h1, by rw [q2, h2]⟩
  have cS : ¬ hdA (zs.map sa) < 0 → ∃ z, z ∈ zs ∧ hdA (zs.map sa) = (sa z : Int) := fun h => by
    obtain ⟨z, r, q1, q2⟩ := hd_pos h
    cases zs with
    | nil => cases q1
    | cons z' r' => exact ⟨z', List.mem_cons_self, rfl⟩
  have ev := rem_eq (t := t) (L := la l) (a := sa p) (P := lastA (-1) (ys.map sa)) (S := hdA (zs.map sa)) c2 hpC b1 b2 (fun h => by
    obtain ⟨y, h1, h2⟩ := cP h
    rw [h2, Int.toNat_natCast]
    exact ⟨(hI y (hsp y (hmy y h1))).1, fun q => hny (q ▸ List.mem_map_of_mem h1)⟩) (fun h => by
    obtain ⟨z, h1, h2⟩ := cS h
    rw [h2, Int.toNat_natCast]
    exact (hI z (hsp z (hmz z h1))).1)
  obtain ⟨s1, s2, s3, s4⟩ := rem_same t (la l) (sa p) (lastA (-1) (ys.map sa)) (hdA (zs.map sa))
  refine ⟨tset (remT t (la l) (sa p) (lastA (-1) (ys.map sa)) (hdA (zs.map sa))) (sa p) (gf 3 4) 0 (-1), ?_, ?_, ?_, ?_, s1, s2, s3, s4⟩
  · unfold t_X1_unlist t_X1_unlist_j26
    have h4 := a3 p hp
    rw [q_gt 4 hpC, Option.bind_some, h4, if_neg (by omega), q_rf 12 hCa, Option.bind_some, Option.bind_some, q_al hCa hC12.1 (by rw [hC12.2]; omega), Option.bind_some, c1, q_ck c2, Option.bind_some, ev, Option.bind_some]
    dsimp only
    rw [q_pt 4 _ (by rw [s1]; exact hpC), Option.bind_some]
  · intro l' hl' hv'
    have eB : ∀ q, Bt (tset (remT t (la l) (sa p) (lastA (-1) (ys.map sa)) (hdA (zs.map sa))) (sa p) (gf 3 4) 0 (-1)) q = Bt (remT t (la l) (sa p) (lastA (-1) (ys.map sa)) (hdA (zs.map sa))) q := fun q => if_neg (fun z => by have := z.2.1; revert this; decide)
    have eA : ∀ q, At (tset (remT t (la l) (sa p) (lastA (-1) (ys.map sa)) (hdA (zs.map sa))) (sa p) (gf 3 4) 0 (-1)) q = At (remT t (la l) (sa p) (lastA (-1) (ys.map sa)) (hdA (zs.map sa))) q := fun q => if_neg (fun z => by have := z.2.1; revert this; decide)
    have eF : ∀ q, tV (tset (remT t (la l) (sa p) (lastA (-1) (ys.map sa)) (hdA (zs.map sa))) (sa p) (gf 3 4) 0 (-1)) q (gf 4 0) 0 = tV (remT t (la l) (sa p) (lastA (-1) (ys.map sa)) (hdA (zs.map sa))) q (gf 4 0) 0 := fun q => if_neg (fun z => by have := z.2.1; revert this; decide)
    have e4' : ∀ q, q ≠ sa p → tC t q = 3 + 1 → tV (tset (remT t (la l) (sa p) (lastA (-1) (ys.map sa)) (hdA (zs.map sa))) (sa p) (gf 3 4) 0 (-1)) q (gf 3 4) 0 = tV t q (gf 3 4) 0 := fun q hq hc => by
      rw [tV_set, if_neg (fun z => hq z.1)]
      exact fe_v (rem_fe t (la l) (sa p) (lastA (-1) (ys.map sa)) (hdA (zs.map sa))) hc (by decide) 0
    by_cases e : l' = l
    · subst e
      unfold KLl
      rw [lu_same, e4, eF, rem_F, List.map_append]
      refine ⟨?_, ?_, fun q hq => ?_⟩
      · by_cases h : 0 ≤ lastA (-1) (ys.map sa)
        · rw [if_neg (fun z => z.1 h), a1]
          cases ys with
          | nil => exact absurd (show (0 : Int) ≤ -1 from h) (by decide)
          | cons y ys => rfl
        · have := last_neg (ys.map sa) (by omega)
          rw [if_pos ⟨h, rfl⟩, this]
          rfl
      · refine dl_rm (B := Bt t) (A := At t) (a := sa p) (zs := zs.map sa) (ys.map sa) (-1) a2 hny (fun q hq => ?_) (fun z r hz => ?_) (fun q hq => ?_) (fun q hq hA => ?_) (fun q hq hA => ?_)
        · rw [eB, rem_B]
          have hqa : q ≠ sa p := fun z => by
            rcases hq with h | h
            · exact hny (z ▸ h)
            · exact hnz (z ▸ List.mem_of_mem_tail h)
          rw [if_neg hqa, if_neg]
          rintro ⟨h1, h2⟩
          obtain ⟨z, r, q1, q2⟩ := hd_pos h1
          rw [q2, Int.toNat_natCast] at h2
          subst h2
          rw [q1] at hnd hq
          have hnd2 := List.nodup_append.mp hnd
          rcases hq with h | h
          · exact hnd2.2.2 q h q (List.mem_cons_of_mem _ List.mem_cons_self) rfl
          · exact (List.nodup_cons.mp (List.nodup_cons.mp hnd2.2.1).2).1 h
        · rw [eB, rem_B, hz]
          have hza : z ≠ sa p := fun q => hnz (by rw [hz, q]; exact List.mem_cons_self)
          rw [if_neg hza, if_pos ⟨by show ¬ (z : Int) < 0; omega, by show z = (z : Int).toNat; omega⟩]
        · rw [eA, rem_A, if_neg (fun z : q = sa p => hnz (z ▸ hq)), if_neg]
          rintro ⟨h1, h2⟩
          obtain ⟨y, q1, q2⟩ := cP h1
          rw [q2, Int.toNat_natCast] at h2
          exact (List.nodup_append.mp hnd).2.2 q (h2 ▸ List.mem_map_of_mem q1) q (List.mem_cons_of_mem _ hq) rfl
        · have := dl_next (ys.map sa) (-1) a2 hnd q hq
          rw [eA, rem_A, if_neg (fun z : q = sa p => hny (z ▸ hq)), if_neg]
          rintro ⟨h1, h2⟩
          exact hA (this.mpr (by omega))
        · have := (dl_next (ys.map sa) (-1) a2 hnd q hq).mp hA
          rw [eA, rem_A, if_neg (fun z : q = sa p => hny (z ▸ hq)), if_pos ⟨by omega, by omega⟩]
      · have hq2 : q ∈ LS l' := by
          rcases List.mem_append.mp hq with h | h
          · exact hmy q h
          · exact hmz q h
        rw [e4' (sa q) (fun z => by
          have := sa_inj hI (hsp q hq2) (hsp p hp) z
          subst this
          rcases List.mem_append.mp hq with h | h
          · exact e2 h
          · exact e3 h) (hI q (hsp q hq2)).1]
        exact a3 q hq2
    · obtain ⟨d1, d2, d3⟩ := hL l' hl' hv'
      have dis : ∀ q, q ∈ LS l' → ∀ y, y ∈ LS l → sa q ≠ sa y := fun q hq y hy z => by
        have h1 := (hG l' hl').2.1 q hq
        have := sa_inj hI h1.1 (hsp y hy) z
        subst this
        exact e ((hG l' hl').2.2 l q hl hq hy)
      unfold KLl
      rw [lu_ne e, eF, rem_F, if_neg (fun z => e (hC.2 l' l hv' hv z.2))]
      refine ⟨d1, dlf_congr _ _ (fun a ha => ?_) d2, fun q hq => ?_⟩
      · obtain ⟨q, hq, rfl⟩ := List.mem_map.mp ha
        rw [eB, eA, rem_B, rem_A, if_neg (dis q hq p hp), if_neg (dis q hq p hp), if_neg, if_neg]
        · exact ⟨rfl, rfl⟩
        · rintro ⟨h1, h2⟩
          obtain ⟨y, q1, q2⟩ := cP h1
          rw [q2, Int.toNat_natCast] at h2
          exact dis q hq y (hmy y q1) h2
        · rintro ⟨h1, h2⟩
          obtain ⟨y, q1, q2⟩ := cS h1
          rw [q2, Int.toNat_natCast] at h2
          exact dis q hq y (hmz y q1) h2
      · rw [e4' (sa q) (dis q hq p hp) (hI q ((hG l' hl').2.1 q hq).1).1]
        exact d3 q hq
  · exact fe_sub (fe_trans (rem_fe _ _ _ _ _) (fe_set _ _ _ _ _)) (by decide)
  · rw [tV_set, if_pos ⟨rfl, rfl, rfl⟩]
/-- a slab that stands in no row is put first into the row l -/
theorem putFirst_eq (hC : KC t ca la N) (hI : KI t sa ca N) (hL : KL t sa la N LS) (hG : GL N LS) (hl : l < 24) (hv : Lv N (l / 3)) (hp : Sl N p) (hno : ∀ l', l' < 24 → p ∉ LS l') (h4 : tV t (sa p) (gf 3 4) 0 = ((l % 3 : Nat) : Int)) : ∃ t', t_X4_putFirst t (la l : Int) (sa p : Int) = some (0, t') ∧ KL t' sa la N (lu LS l (p :: LS l)) ∧ Fe t t' [gf 3 5, gf 3 6, gf 4 0] ∧ tC t' = tC t ∧ tI t' = tI t ∧ tL t' = tL t ∧ tN t' = tN t := by
  obtain ⟨g1, g2, g3⟩ := hG l hl
  obtain ⟨a1, a2, a3⟩ := hL l hl hv
  have el : 3 * (l / 3) + l % 3 = l := by omega
  obtain ⟨hCa, -, ⟨hC12, -⟩, hCl⟩ := hC.1 _ hv
  obtain ⟨c1, c2⟩ := hCl (l % 3) (by omega)
  rw [el] at c1 c2
  have hpC := (hI p hp).1
  have hsp : ∀ q, q ∈ LS l → Sl N q := fun q hq => (g2 q hq).1
  have dis : ∀ l', l' < 24 → ∀ q, q ∈ LS l' → sa q ≠ sa p := fun l' hl' q hq z => by
    have := sa_inj hI ((hG l' hl').2.1 q hq).1 hp z
    subst this
    exact hno l' hl' hq
  have cF : ¬ hdA ((LS l).map sa) < 0 → ∃ z, z ∈ LS l ∧ hdA ((LS l).map sa) = (sa z : Int) := fun h => by
    cases hz : LS l with
    | nil => rw [hz] at h; exact absurd (show hdA [] < 0 by decide) h
    | cons z' r' => exact ⟨z', List.mem_cons_self, rfl⟩
  have ev := put_eq (t := t) (L := la l) (a := sa p) (F := hdA ((LS l).map sa)) c2 hpC a1 (fun h => by
    obtain ⟨z, h1, h2⟩ := cF h
    rw [h2, Int.toNat_natCast]
    exact (hI z (hsp z h1)).1)
  refine ⟨_, ev, ?_, put_fe _ _ _ _, put_same _ _ _ _⟩
  have e4 : ∀ q, tC t q = 3 + 1 → tV (putT t (la l) (sa p) (hdA ((LS l).map sa))) q (gf 3 4) 0 = tV t q (gf 3 4) 0 := fun q hc => fe_v (put_fe _ _ _ _) hc (by decide) 0
  intro l' hl' hv'
  by_cases e : l' = l
  · subst e
    unfold KLl
    rw [lu_same, put_F, if_pos rfl, List.map_cons]
    refine ⟨rfl, ⟨?_, ?_, ?_⟩, fun q hq => ?_⟩
    · rw [put_B, if_neg, if_pos rfl]
      rintro ⟨h1, h2⟩
      obtain ⟨z, q1, q2⟩ := cF h1
      rw [q2, Int.toNat_natCast] at h2
      exact dis l' hl' z q1 h2.symm
    · rw [put_A, if_pos rfl]
    · cases hz : LS l' with
      | nil => trivial
      | cons z r =>
        rw [hz] at a2
        have hnd := map_nd hI _ g1 hsp
        rw [hz, List.map_cons] at hnd
        rw [List.map_cons] at a2 ⊢
        have hzm : z ∈ LS l' := by rw [hz]; exact List.mem_cons_self
        refine ⟨?_, ?_, dlf_congr _ _ (fun a ha => ?_) a2.2.2⟩
        · rw [put_B, if_pos ⟨by show ¬ (sa z : Int) < 0; omega, by show sa z = (sa z : Int).toNat; omega⟩]
        · rw [put_A, if_neg (dis l' hl' z hzm)]; exact a2.2.1
        · obtain ⟨q, hq, rfl⟩ := List.mem_map.mp ha
          have hqm : q ∈ LS l' := by rw [hz]; exact List.mem_cons_of_mem _ hq
          rw [put_B, put_A, if_neg (dis l' hl' q hqm), if_neg (dis l' hl' q hqm), if_neg]
          · exact ⟨rfl, rfl⟩
          · rintro ⟨h1, h2⟩
            have h3 : sa q = sa z := by rw [h2]; show (sa z : Int).toNat = sa z; omega
            exact (List.nodup_cons.mp hnd).1 (h3 ▸ ha)
    · rcases List.mem_cons.mp hq with rfl | hq
      · rw [e4 _ hpC]; exact h4
      · rw [e4 _ (hI q (hsp q hq)).1]; exact a3 q hq
  · obtain ⟨d1, d2, d3⟩ := hL l' hl' hv'
    unfold KLl
    rw [lu_ne e, put_F, if_neg (fun z => e (hC.2 l' l hv' hv z))]
    refine ⟨d1, dlf_congr _ _ (fun a ha => ?_) d2, fun q hq => ?_⟩
    · obtain ⟨q, hq, rfl⟩ := List.mem_map.mp ha
      rw [put_B, put_A, if_neg (dis l' hl' q hq), if_neg (dis l' hl' q hq), if_neg]
      · exact ⟨rfl, rfl⟩
      · rintro ⟨h1, h2⟩
        obtain ⟨z, q1, q2⟩ := cF h1
        rw [q2, Int.toNat_natCast] at h2
        have h3 := sa_inj hI ((hG l' hl').2.1 q hq).1 (hsp z q1) h2
        subst h3
        exact e ((hG l' hl').2.2 l q hl hq q1)
    · rw [e4 _ (hI q ((hG l' hl').2.1 q hq).1).1]
      exact d3 q hq
end
