/-! the class: a slab changes -/
theorem fe_arr {t : Th} {a ci k n : Nat} {f : Nat → Int} (ha : tC t a = ci + 1) : Fe t (tarr t a ci k n f) [gf ci k] := by
  refine ⟨Nat.le_succ _, fun b cj hb => ⟨hb, fun j hj => ?_⟩, fun h b hb => Nat.lt_succ_of_lt (h b hb)⟩
  have hne : ¬ (b = a ∧ j = k) := by
    rintro ⟨rfl, rfl⟩
    have : ci = cj := by omega
    subst this
    exact hj List.mem_cons_self
  refine ⟨if_neg hne, if_neg hne, fun i => if_neg ?_⟩
  rintro ⟨rfl, h2⟩
  exact hj (by rw [h2]; exact List.mem_cons_self)
theorem q_cp {t : Th} {ci a k : Nat} {n : Nat} (h : tC t a = ci + 1) (hI : 0 ≤ tI t a k) (hn : tL t a k < n ∧ n ≤ 1024) : tcp t ci k (a : Int) (tI t a k) (n : Int) = some (tarr t a ci k n (fun j => if j < tL t a k then tV t a (gf ci k) j else 0)) := by
  unfold tcp
  rw [if_pos ⟨⟨by omega, by rw [Int.toNat_natCast]; exact h⟩, ⟨hI, by rw [Int.toNat_natCast]⟩, by rw [Int.toNat_natCast]; omega, by omega⟩, Int.toNat_natCast, Int.toNat_natCast]
section
variable {t : Th} {ca la sa : Nat → Nat} {N N' : Mm} {LS FL : Nat → List Nat} {p i l : Nat}
theorem gl_erase (hG : GL N LS) (hl : l < 24) (hp : p ∈ LS l) : GL N (lu LS l ((LS l).erase p)) ∧ ∀ l', l' < 24 → p ∉ lu LS l ((LS l).erase p) l' := by
  have hsub : ∀ l' q, l' < 24 → q ∈ lu LS l ((LS l).erase p) l' → q ∈ LS l' := fun l' q hl' h => by
    by_cases e : l' = l
    · subst e; rw [lu_same] at h; exact List.mem_of_mem_erase h
    · rw [lu_ne e] at h; exact h
  refine ⟨fun l' hl' => ⟨?_, fun q hq => (hG l' hl').2.1 q (hsub l' q hl' hq), fun l2 q hl2 h1 h2 => (hG l' hl').2.2 l2 q hl2 (hsub l' q hl' h1) (hsub l2 q hl2 h2)⟩, fun l' hl' h => ?_⟩
  · by_cases e : l' = l
    · subst e; rw [lu_same]; exact (hG l' hl').1.erase p
    · rw [lu_ne e]; exact (hG l' hl').1
  · by_cases e : l' = l
    · subst e
      rw [lu_same] at h
      exact ((hG l' hl').1.mem_erase_iff.mp h).1 rfl
    · rw [lu_ne e] at h
      exact e ((hG l' hl').2.2 l p hl h hp)
theorem kc_same {t' : Th} {js : List Nat} (hF : Fe t t' js) (h : ∀ k, k < 8 ∨ (12 ≤ k ∧ k < 16) → k = 12 ∨ k < 8 → gf 1 k ∉ js) (hi : tI t' = tI t) (hl : tL t' = tL t) (hC : KC t ca la N) : KC t' ca la N := kc_fe hF h (fun k _ _ a ci _ _ => by rw [hi, hl]; exact ⟨rfl, rfl⟩) hC
theorem kcj (js : List Nat) (h : (∀ j, j ∈ js → ¬ (32 ≤ j ∧ j < 40) ∧ j ≠ 44)) : ∀ k, k < 8 ∨ (12 ≤ k ∧ k < 16) → k = 12 ∨ k < 8 → gf 1 k ∉ js := by
  intro k _ hk hm
  have := h _ hm
  unfold gf at this
  omega
/-- the end of relist: a slab that stands in no row goes first into the row of its kind -/
theorem rl_tail {c w : Nat} (hC : KC t ca la N) (hI : KI t sa ca N) (hL : KL t sa la N LS) (hG : GL N LS) (hc : c < 8) (hw : w < 3) (hv : Lv N c) (hp : Sl N p) (hno : ∀ l', l' < 24 → p ∉ LS l') : ∃ t', (Option.bind (tpt t 3 4 (sa p : Int) (w : Int)) fun h6 => Option.bind (trf h6 1 12 (ca c : Int)) fun v7 => Option.bind (tal h6 1 12 (ca c : Int) v7 (w : Int)) fun v8 => Option.bind (tck h6 4 v8) fun u10 => Option.bind (t_X4_putFirst h6 v8 (sa p : Int)) fun r9 => t_X1_relist_j33 r9.2) = some (0, t') ∧ KL t' sa la N (lu LS (3 * c + w) (p :: LS (3 * c + w))) ∧ Fe t t' [gf 3 4, gf 3 5, gf 3 6, gf 4 0] ∧ tC t' = tC t ∧ tI t' = tI t ∧ tL t' = tL t ∧ tN t' = tN t := by
  have hpC := (hI p hp).1
  obtain ⟨hCa, -, ⟨hC12, -⟩, hCl⟩ := hC.1 c hv
  obtain ⟨c1, c2⟩ := hCl w hw
  have f1 := fe_set t (sa p) (gf 3 4) 0 (w : Int)
  have e3 : (3 * c + w) / 3 = c := by omega
  have hL1 : KL (tset t (sa p) (gf 3 4) 0 (w : Int)) sa la N LS := fun l hl hv => by
    obtain ⟨a1, a2, a3⟩ := hL l hl hv
    refine ⟨?_, dlf_congr _ _ (fun a ha => ⟨?_, ?_⟩) a2, fun q hq => ?_⟩
    · rw [tV_set, if_neg (fun z => by have := z.2.1; revert this; decide)]; exact a1
    · exact if_neg (fun z => by have := z.2.1; revert this; decide)
    · exact if_neg (fun z => by have := z.2.1; revert this; decide)
    · rw [tV_set, if_neg (fun z => by
        have := sa_inj hI ((hG l hl).2.1 q hq).1 hp z.1
        subst this
        exact hno l hl hq)]
      exact a3 q hq
  obtain ⟨t', k1, k2, k3, k4, k5, k6, k7⟩ := putFirst_eq (l := 3 * c + w) (p := p) (kc_same f1 (kcj _ (by decide)) rfl rfl hC) (ki_fe f1 (by decide) (by decide) (by decide) hI) hL1 hG (by omega) (by rw [e3]; exact hv) hp hno (by
    rw [tV_set, if_pos ⟨rfl, rfl, rfl⟩]
    have : (3 * c + w) % 3 = w := by omega
    rw [this])
  refine ⟨t', ?_, k2, fe_sub (fe_trans f1 k3) (by decide), k4, k5, k6, k7⟩
  rw [q_pt 4 _ hpC, Option.bind_some, q_rf 12 (show tC (tset t (sa p) (gf 3 4) 0 (w : Int)) (ca c) = 1 + 1 from hCa), Option.bind_some, q_al (show tC (tset t (sa p) (gf 3 4) 0 (w : Int)) (ca c) = 1 + 1 from hCa) hC12.1 (show w < tL t (ca c) 12 by rw [hC12.2]; omega), Option.bind_some]
  rw [tV_set, if_neg (fun z => by have := z.2.1; revert this; decide), c1, q_ck (show tC (tset t (sa p) (gf 3 4) 0 (w : Int)) (la (3 * c + w)) = 4 + 1 from c2), Option.bind_some, k1]
  rfl
theorem relist_eq {c w : Nat} (hC : KC t ca la N) (hI : KI t sa ca N) (hL : KL t sa la N LS) (hG : GL N LS) (hl : l < 24) (hlc : l / 3 = c) (hw : w < 3) (hv : Lv N c) (hp : p ∈ LS l) (hk : t_X3_kind t (sa p : Int) = some ((w : Int), t)) : ∃ t', t_X1_relist t (ca c : Int) (sa p : Int) = some (0, t') ∧ KL t' sa la N (mvL LS p l (3 * c + w)) ∧ Fe t t' [gf 3 4, gf 3 5, gf 3 6, gf 4 0] ∧ tC t' = tC t ∧ tI t' = tI t ∧ tL t' = tL t ∧ tN t' = tN t := by
  have hs := ((hG l hl).2.1 p hp).1
  have hpC := (hI p hs).1
  have hCa := (hC.1 c hv).1
  have h4 := (hL l hl (by rw [hlc]; exact hv)).2.2 p hp
  unfold t_X1_relist
  rw [q_ck hpC, Option.bind_some, hk, Option.bind_some]
  dsimp only
  rw [q_gt 4 hpC, Option.bind_some, h4]
  by_cases e : l % 3 = w
  · refine ⟨t, ?_, ?_, fe_refl _ _, rfl, rfl, rfl, rfl⟩
    · rw [if_pos (by omega)]; rfl
    · unfold mvL
      rw [if_pos (by omega)]
      exact hL
  · rw [if_neg (by omega), q_ck hCa, Option.bind_some]
    obtain ⟨t1, a1, a2, a3, a4, a5, a6, a7, a8⟩ := unlist_eq hC hI hL hG hl (by rw [hlc]; exact hv) hp
    rw [hlc] at a1
    obtain ⟨g1, g2⟩ := gl_erase hG hl hp
    obtain ⟨t2, b1, b2, b3, b4, b5, b6, b7⟩ := rl_tail (c := c) (w := w) (p := p) (kc_same a3 (kcj _ (by decide)) a6 a7 hC) (ki_fe a3 (by decide) (by decide) (by decide) hI) a2 g1 (by omega) hw hv hs g2
    refine ⟨t2, ?_, ?_, fe_sub (fe_trans a3 b3) (by decide), b4.trans a5, b5.trans a6, b6.trans a7, b7.trans a8⟩
    · rw [a1, Option.bind_some]
      exact b1
    · unfold mvL
      rw [if_neg (by omega)]
      rw [lu_ne (show 3 * c + w ≠ l by omega)] at b2
      exact b2
theorem relist_new {c : Nat} (hC : KC t ca la N) (hI : KI t sa ca N) (hL : KL t sa la N LS) (hG : GL N LS) (hc : c < 8) (hv : Lv N c) (hp : Sl N p) (hno : ∀ l', l' < 24 → p ∉ LS l') (h4 : tV t (sa p) (gf 3 4) 0 = -1) (hk : t_X3_kind t (sa p : Int) = some (2, t)) : ∃ t', t_X1_relist t (ca c : Int) (sa p : Int) = some (0, t') ∧ KL t' sa la N (lu LS (3 * c + 2) (p :: LS (3 * c + 2))) ∧ Fe t t' [gf 3 4, gf 3 5, gf 3 6, gf 4 0] ∧ tC t' = tC t ∧ tI t' = tI t ∧ tL t' = tL t ∧ tN t' = tN t := by
  have hpC := (hI p hp).1
  have hCa := (hC.1 c hv).1
  obtain ⟨t2, b1, b2⟩ := rl_tail (c := c) (w := 2) (p := p) hC hI hL hG hc (by decide) hv hp hno
  refine ⟨t2, ?_, b2⟩
  unfold t_X1_relist
  rw [q_ck hpC, Option.bind_some, hk, Option.bind_some]
  dsimp only
  rw [q_gt 4 hpC, Option.bind_some, h4, if_neg (by decide), q_ck hCa, Option.bind_some]
  unfold t_X1_unlist t_X1_unlist_j26
  rw [q_gt 4 hpC, Option.bind_some, h4, if_pos rfl, Option.bind_some]
  exact b1
theorem bc_eq {a nt : Nat} {v : Int} (hc : tC t a = 3 + 1) (h7 : tV t a (gf 3 7) 0 = (nt : Int)) (hi : i < nt) (h9 : 0 ≤ tI t a 9) (hL : i < tL t a 9) : t_X3_become t (a : Int) (i : Int) v = some (0, tset t a (gf 3 9) i v) := by
  unfold t_X3_become t_X3_become_j15
  have := wt_y (sa := fun _ => a) (p := 0) hc h7 (z := (i : Int)) (by omega)
  rw [q_ck hc, Option.bind_some, this, Option.bind_some]
  dsimp only
  rw [if_neg (by decide), q_rf 9 hc, Option.bind_some, q_as hc h9 hL, Option.bind_some]
theorem chm_eq (hG : WG N) (hC : KC t ca la N) (hI : KI t sa ca N) (hK : KS t sa N FL) (hp : Sl N p) (hi : i < fN N (wN N p)) (hf : i ∉ FL p) {v : Int} : t_X3_changeMark t (sa p : Int) (i : Int) v = some (N 20 (U N p i), tset t (sa p) (gf 3 10) i v) := by
  have c1 := (hI p hp).1
  have hm := mo_eq hG hC hI hK hp hi
  obtain ⟨a1, nt, L, cl, b1, b2, b3, b4, b5, b6, b7, b8, b9, b10, b11⟩ := hK p hp
  obtain ⟨n1, n2⟩ := nf_nt b1 hi hf
  unfold t_X3_changeMark t_X3_changeMark_j21
  rw [q_ck c1, Option.bind_some, hm, Option.bind_some]
  dsimp only
  rw [q_ck c1, Option.bind_some, wt_y c1 b3 (by omega), Option.bind_some]
  dsimp only
  rw [if_neg (by decide), q_rf 10 c1, Option.bind_some, q_as c1 b6.1 (by omega), Option.bind_some]
/-- the free row's head, as the class knows it -/
theorem ff_eq (hG : WG N) (hP : WP N) (hC : KC t ca la N) (hI : KI t sa ca N) (hK : KS t sa N FL) (hp : Sl N p) : t_X3_firstFree t (sa p : Int) = some (hdA (FL p), t) := by
  obtain ⟨k1, c1, c2, c3, c4⟩ := sl_c hG hC hI hp
  obtain ⟨d1, d2, d3⟩ := sl_pc hP hG hp
  obtain ⟨a1, nt, L, cl, b1, b2, b3, b4, b5, b6, b7, b8, b9, b10, b11⟩ := hK p hp
  unfold t_X3_firstFree t_X3_firstFree_j35
  rw [q_gt 8 c1, Option.bind_some, b4, b1]
  cases cl with
  | nil =>
    rw [if_pos (show hdA [] = -1 from rfl), q_gt 7 c1, Option.bind_some, b3, q_gt 0 c1, Option.bind_some, c2, q_gt 6 k1.1, Option.bind_some, k1.2.1.2.2.2.2.2.2.1, d1.2.2.2.1.1, Option.bind_some]
    by_cases e : (fN N (wN N p) : Int) ≤ (nt : Int)
    · rw [if_pos e]
      have : fN N (wN N p) - nt = 0 := by omega
      rw [this]; rfl
    · rw [if_neg e]
      obtain ⟨m, hm⟩ : ∃ m, fN N (wN N p) - nt = m + 1 := ⟨fN N (wN N p) - nt - 1, by omega⟩
      rw [hm]; rfl
  | cons x r =>
    rw [if_neg (by show ¬ (x : Int) = -1; omega), Option.bind_some]
    rfl
theorem room_eq {a f nt L o : Nat} (hc : tC t a = 3 + 1) (h0 : tV t a (gf 3 0) 0 = (o : Int)) (ho : tC t o = 1 + 1) (hf : tV t o (gf 1 6) 0 = (f : Int)) (hf2 : f ≤ 1024) (h7 : tV t a (gf 3 7) 0 = (nt : Int)) (hnt : nt < f) (hL1 : nt ≤ L ∧ 1 ≤ L ∧ L ≤ 1024) (h9 : 0 ≤ tI t a 9 ∧ tL t a 9 = L) (h10 : 0 ≤ tI t a 10 ∧ tL t a 10 = L) : ∃ t' L', t_X3_makeRoomForOne t (a : Int) = some (0, t') ∧ (nt < L' ∧ L' ≤ 1024) ∧ (0 ≤ tI t' a 9 ∧ tL t' a 9 = L') ∧ (0 ≤ tI t' a 10 ∧ tL t' a 10 = L') ∧ (∀ j, j < nt → tV t' a (gf 3 9) j = tV t a (gf 3 9) j ∧ tV t' a (gf 3 10) j = tV t a (gf 3 10) j) ∧ (∀ b j n, ¬ (b = a ∧ (j = gf 3 9 ∨ j = gf 3 10)) → tV t' b j n = tV t b j n) ∧ tC t' = tC t ∧ (∀ b k, b ≠ a → tI t' b k = tI t b k ∧ tL t' b k = tL t b k) ∧ Fe t t' [gf 3 9, gf 3 10] := by
  unfold t_X3_makeRoomForOne t_X3_makeRoomForOne_j54
  rw [q_gt 7 hc, Option.bind_some, h7, q_rf 9 hc, Option.bind_some, q_ln hc h9.1 (by omega), Option.bind_some, h9.2]
  by_cases e : (nt : Int) < (L : Int)
  · exact ⟨t, L, by rw [if_pos e], ⟨by omega, hL1.2.2⟩, h9, h10, fun _ _ => ⟨rfl, rfl⟩, fun _ _ _ _ => rfl, rfl, fun _ _ _ => ⟨rfl, rfl⟩, fe_refl _ _⟩
  · rw [if_neg e, q_gt 0 hc, Option.bind_some, h0, q_gt 6 ho, Option.bind_some, hf, Option.bind_some, q_ln hc h9.1 (by omega), Option.bind_some, h9.2, Option.bind_some]
    have e1 : wr (2 * (L : Int)) = ((2 * L : Nat) : Int) := by rw [wr_eq ⟨by omega, by omega⟩]; omega
    have e2 : imn (f : Int) ((2 * L : Nat) : Int) = ((if 2 * L < f then 2 * L else f : Nat) : Int) := by
      unfold imn
      split
      · rw [if_pos (by omega)]
      · rw [if_neg (by omega)]
    have hm : L < (if 2 * L < f then 2 * L else f) ∧ (if 2 * L < f then 2 * L else f) ≤ 1024 := by split <;> omega
    rw [e1, e2]
    generalize (if 2 * L < f then 2 * L else f) = M at hm
    rw [q_cp hc h9.1 (by rw [h9.2]; exact hm), Option.bind_some]
    have n1 : ¬ (a = a ∧ 10 = 9) := fun q => by omega
    have hI2 : tI (tarr t a 3 9 M (fun j => if j < tL t a 9 then tV t a (gf 3 9) j else 0)) a 10 = tI t a 10 := if_neg n1
    have hL2 : tL (tarr t a 3 9 M (fun j => if j < tL t a 9 then tV t a (gf 3 9) j else 0)) a 10 = tL t a 10 := if_neg n1
    have hc2 : tC (tarr t a 3 9 M (fun j => if j < tL t a 9 then tV t a (gf 3 9) j else 0)) a = 3 + 1 := hc
    rw [q_rf 10 hc2, Option.bind_some, q_cp hc2 (by rw [hI2]; exact h10.1) (by rw [hL2, h10.2]; exact hm), Option.bind_some]
    refine ⟨_, M, rfl, ⟨by omega, hm.2⟩, ?_, ?_, fun j hj => ⟨?_, ?_⟩, fun b j n h => ?_, rfl, fun b k hb => ⟨?_, ?_⟩, ?_⟩
    · refine ⟨?_, ?_⟩
      · show (0 : Int) ≤ if a = a ∧ 9 = 10 then _ else if a = a ∧ 9 = 9 then (tN t : Int) else tI t a 9
        rw [if_neg (fun q => by omega), if_pos ⟨rfl, rfl⟩]; omega
      · show (if a = a ∧ 9 = 10 then _ else if a = a ∧ 9 = 9 then M else tL t a 9) = M
        rw [if_neg (fun q => by omega), if_pos ⟨rfl, rfl⟩]
    · refine ⟨?_, ?_⟩
      · show (0 : Int) ≤ if a = a ∧ 10 = 10 then ((tN t + 1 : Nat) : Int) else _
        rw [if_pos ⟨rfl, rfl⟩]; omega
      · show (if a = a ∧ 10 = 10 then M else _) = M
        rw [if_pos ⟨rfl, rfl⟩]
    · show (if a = a ∧ gf 3 9 = gf 3 10 then _ else if a = a ∧ gf 3 9 = gf 3 9 then (if j < tL t a 9 then tV t a (gf 3 9) j else 0) else _) = _
      rw [if_neg (fun q => by have := q.2; revert this; decide), if_pos ⟨rfl, rfl⟩, if_pos (by omega)]
    · show (if a = a ∧ gf 3 10 = gf 3 10 then (if j < tL _ a 10 then tV _ a (gf 3 10) j else 0) else _) = _
      rw [if_pos ⟨rfl, rfl⟩, hL2, if_pos (by omega)]
      exact if_neg (fun q => by have := q.2; revert this; decide)
    · show (if b = a ∧ j = gf 3 10 then _ else if b = a ∧ j = gf 3 9 then _ else tV t b j n) = _
      rw [if_neg (fun q => h ⟨q.1, Or.inr q.2⟩), if_neg (fun q => h ⟨q.1, Or.inl q.2⟩)]
    · show (if b = a ∧ k = 10 then _ else if b = a ∧ k = 9 then _ else tI t b k) = _
      rw [if_neg (fun q => hb q.1), if_neg (fun q => hb q.1)]
    · show (if b = a ∧ k = 10 then _ else if b = a ∧ k = 9 then _ else tL t b k) = _
      rw [if_neg (fun q => hb q.1), if_neg (fun q => hb q.1)]
    · exact fe_sub (fe_trans (fe_arr hc) (fe_arr hc2)) (by decide)
end
