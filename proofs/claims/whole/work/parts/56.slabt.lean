/-! the class: a slab's objects -/
theorem fe_set2 {t t' : Th} {js : List Nat} (h : Fe t t' js) (a j i : Nat) (v : Int) : Fe (tset t a j i v) (tset t' a j i v) js := by
  refine ⟨h.1, fun b ci hb => ?_, h.2.2⟩
  obtain ⟨e1, e2⟩ := h.2.1 b ci hb
  refine ⟨e1, fun k hk => ⟨(e2 k hk).1, (e2 k hk).2.1, fun n => ?_⟩⟩
  rw [tV_set, tV_set, (e2 k hk).2.2 n]
theorem ch_ge {f : Nat → Int} : ∀ (cl : List Nat), chT f cl → ∀ i, i ∈ cl → -1 ≤ f i := by
  intro cl
  induction cl with
  | nil => intro _ i hi; cases hi
  | cons x r ih =>
    intro h i hi
    rcases List.mem_cons.mp hi with rfl | hi
    · rw [h.1]
      cases r with
      | nil => exact Int.le_refl _
      | cons y r => show (-1 : Int) ≤ (y : Int); omega
    · exact ih h.2 i hi
theorem chT_congr {f g : Nat → Int} : ∀ (cl : List Nat), (∀ i, i ∈ cl → g i = f i) → chT f cl → chT g cl := by
  intro cl
  induction cl with
  | nil => intro _ _; trivial
  | cons x r ih =>
    intro h1 h2
    exact ⟨(h1 x List.mem_cons_self).trans h2.1, ih (fun i hi => h1 i (List.mem_cons_of_mem _ hi)) h2.2⟩
theorem ksp_congr {t t' : Th} {sa : Nat → Nat} {N N' : Mm} {FL FL' : Nat → List Nat} {q : Nat} (h : KSp t sa N FL q) (hV : ∀ j i, tV t' (sa q) j i = tV t (sa q) j i) (hI : ∀ k, tI t' (sa q) k = tI t (sa q) k) (hL : ∀ k, tL t' (sa q) k = tL t (sa q) k) (h16 : N' 16 q = N 16 q) (hFL : FL' q = FL q) (hw : wN N' q = wN N q) (hf : fN N' (wN N q) = fN N (wN N q)) (hU : ∀ i, U N' q i = U N q i) (h8 : N' 8 (wN N q) = N 8 (wN N q)) (h18 : ∀ i, i < fN N (wN N q) → N' 18 (U N q i) = N 18 (U N q i)) (h20 : ∀ i, i < fN N (wN N q) → N' 20 (U N q i) = N 20 (U N q i)) : KSp t' sa N' FL' q := by
  obtain ⟨a1, nt, L, cl, b1, b2, b3, b4, b5, b6, b7, b8, b9, b10, b11⟩ := h
  have e9 : tV t' (sa q) (gf 3 9) = tV t (sa q) (gf 3 9) := by funext i; exact hV _ i
  refine ⟨by rw [hV, h16]; exact a1, nt, L, cl, ?_, ?_, by rw [hV]; exact b3, by rw [hV]; exact b4, by rw [hI, hL]; exact b5, by rw [hI, hL]; exact b6, by rw [e9]; exact b7, b8, fun i hi hc => ?_, fun i hi => ?_, fun i h1 h2 => ?_⟩
  · rw [hFL, hw, hf]; exact b1
  · rw [hw, hf]; exact b2
  · rw [hV, hU, h18 i (by omega)]; exact b9 i hi hc
  · rw [hV, hU, h20 i (by omega)]; exact b10 i hi
  · rw [hw, hf] at h2
    rw [hU, h20 i h2, hw, h8]; exact b11 i h1 h2
section
variable {t : Th} {ca la sa : Nat → Nat} {N : Mm} {LS FL : Nat → List Nat} {p i : Nat}
/-- what a slab and its cache hold -/
theorem sl_c (hG : WG N) (hC : KC t ca la N) (hI : KI t sa ca N) (hp : Sl N p) : KCc t ca la N (wN N p) ∧ tC t (sa p) = 3 + 1 ∧ tV t (sa p) (gf 3 0) 0 = (ca (wN N p) : Int) ∧ tV t (sa p) (gf 3 1) 0 = (p : Int) ∧ tV t (sa p) (gf 3 2) 0 = N 15 p :=
  ⟨hC.1 _ (hG.2 p hp).2.2.1, hI p hp⟩
theorem fb_eq (hI : KI t sa ca N) (hp : Sl N p) : t_X3_firstByte t (sa p : Int) = some (((1024 * p : Nat) : Int), t) := by
  obtain ⟨c1, c2, c3, c4⟩ := hI p hp
  have hp2 := hp.1
  unfold t_X3_firstByte
  rw [q_gt 1 c1, Option.bind_some, c3]
  have e : (p : Int) * 1024 = ((1024 * p : Nat) : Int) := by omega
  rw [e, wn (by omega)]
theorem bo_eq (hP : WP N) (hG : WG N) (hC : KC t ca la N) (hI : KI t sa ca N) (hp : Sl N p) (hi : i < fN N (wN N p)) : t_X3_beginOf t (sa p : Int) (i : Int) = some (((8 * U N p i : Nat) : Int), t) := by
  obtain ⟨k1, c1, c2, c3, c4⟩ := sl_c hG hC hI hp
  obtain ⟨d1, d2, d3⟩ := sl_pc hP hG hp
  obtain ⟨h1, h2, h3, h4⟩ := u_rng hP hG hp hi
  obtain ⟨g1, g2, g3, g4, g5, g6⟩ := hG.2 p hp
  have hp2 := hp.1
  unfold t_X3_beginOf
  rw [q_ck c1, Option.bind_some, fb_eq hI hp, Option.bind_some]
  dsimp only
  rw [q_gt 2 c1, Option.bind_some, q_gt 0 c1, Option.bind_some, c2, q_gt 2 k1.1, Option.bind_some, Option.bind_some, q_gt 5 k1.1, Option.bind_some, c4, k1.2.1.2.2.1, k1.2.1.2.2.2.2.2.1, g4.1, d1.2.1.1, d1.2.2.1.1]
  have e1 : (kN N p : Int) * (8 * (aN N (wN N p) : Int)) = ((8 * (kN N p * aN N (wN N p)) : Nat) : Int) := by
    rw [Int.natCast_mul, Int.natCast_mul, Int.mul_left_comm]; rfl
  have e2 : (i : Int) * (8 * (sN N (wN N p) : Int)) = ((8 * (i * sN N (wN N p)) : Nat) : Int) := by
    rw [Int.natCast_mul, Int.natCast_mul, Int.mul_left_comm]; rfl
  rw [e1, e2, wn (by omega), wn (by omega), wa (by omega), wa (by omega)]
  have : 1024 * p + 8 * (kN N p * aN N (wN N p)) + 8 * (i * sN N (wN N p)) = 8 * U N p i := by unfold U; omega
  rw [this]
/-- the number of the object over an address -/
def nOv (N : Mm) (p x : Nat) : Int := if x < 8 * U N p 0 then -1 else if (x - 8 * U N p 0) / (8 * sN N (wN N p)) < fN N (wN N p) then (((x - 8 * U N p 0) / (8 * sN N (wN N p)) : Nat) : Int) else -1
theorem no_eq (hP : WP N) (hG : WG N) (hC : KC t ca la N) (hI : KI t sa ca N) (hp : Sl N p) {x : Nat} (hx : x < 262144) : t_X3_numberOver t (sa p : Int) (x : Int) = some (nOv N p x, t) := by
  obtain ⟨k1, c1, c2, c3, c4⟩ := sl_c hG hC hI hp
  obtain ⟨d1, d2, d3⟩ := sl_pc hP hG hp
  have hf1 := d1.2.2.2.1.2
  obtain ⟨h1, h2, h3, h4⟩ := u_rng (i := 0) hP hG hp (by omega)
  have hs := (fn_le d1).2.1
  have b0 := bo_eq (i := 0) hP hG hC hI hp (by omega)
  unfold t_X3_numberOver t_X3_numberOver_j22 t_X3_numberOver_j50
  rw [q_ck c1, Option.bind_some]
  refine Eq.trans (congrArg (fun z => Option.bind z _) b0) ?_
  rw [Option.bind_some]
  dsimp only
  have hw : wr ((x : Int) - ((8 * U N p 0 : Nat) : Int)) = (x : Int) - ((8 * U N p 0 : Nat) : Int) := wr_eq ⟨by omega, by omega⟩
  rw [hw]
  unfold nOv
  by_cases e : x < 8 * U N p 0
  · rw [if_pos (by omega), if_pos e]
  · have e2 : (x : Int) - ((8 * U N p 0 : Nat) : Int) = ((x - 8 * U N p 0 : Nat) : Int) := by omega
    rw [if_neg (by omega), if_neg e, q_gt 0 c1, Option.bind_some, c2, q_gt 5 k1.1, Option.bind_some, k1.2.1.2.2.2.2.2.1, d1.2.2.1.1, if_pos (by have := d1.2.2.1.2; omega), Option.bind_some, q_gt 5 k1.1, Option.bind_some, k1.2.1.2.2.2.2.2.1, d1.2.2.1.1, e2]
    have e3 : (8 : Int) * (sN N (wN N p) : Int) = ((8 * sN N (wN N p) : Nat) : Int) := by omega
    rw [e3, idn (by have := d1.2.2.1.2; omega) (by omega), Option.bind_some, Option.bind_some, q_gt 6 k1.1, Option.bind_some, k1.2.1.2.2.2.2.2.2.1, d1.2.2.2.1.1]
    by_cases e4 : (x - 8 * U N p 0) / (8 * sN N (wN N p)) < fN N (wN N p)
    · rw [if_neg (by omega), if_pos e4]
    · rw [if_pos (by omega), if_neg e4]
theorem u_lin (i : Nat) : 8 * U N p i = 8 * U N p 0 + i * (8 * sN N (wN N p)) := by
  have : i * (8 * sN N (wN N p)) = 8 * (i * sN N (wN N p)) := Nat.mul_left_comm _ _ _
  unfold U
  omega
theorem no_at (hs : 1 ≤ sN N (wN N p)) {x : Nat} (hi : i < fN N (wN N p)) (h1 : 8 * U N p i ≤ x) (h2 : x < 8 * U N p i + 8 * sN N (wN N p)) : nOv N p x = (i : Int) := by
  rw [u_lin] at h1 h2
  unfold nOv
  have e : (x - 8 * U N p 0) / (8 * sN N (wN N p)) = i := by
    apply Nat.div_eq_of_lt_le
    · omega
    · rw [Nat.add_mul]; omega
  rw [if_neg (by omega), e, if_pos hi]
theorem no_spec (hs : 1 ≤ sN N (wN N p)) (x : Nat) : nOv N p x = -1 ∨ ∃ i, i < fN N (wN N p) ∧ nOv N p x = (i : Int) ∧ 8 * U N p i ≤ x ∧ x < 8 * U N p i + 8 * sN N (wN N p) := by
  unfold nOv
  split
  · left; rfl
  · rename_i h1
    split
    · rename_i h2
      right
      refine ⟨_, h2, rfl, ?_, ?_⟩
      · rw [u_lin]
        have := Nat.div_mul_le_self (x - 8 * U N p 0) (8 * sN N (wN N p))
        omega
      · rw [u_lin]
        have := Nat.lt_mul_div_succ (x - 8 * U N p 0) (show 0 < 8 * sN N (wN N p) by omega)
        rw [Nat.mul_add, Nat.mul_one, Nat.mul_comm (8 * sN N (wN N p))] at this
        omega
    · left; rfl
theorem wt_y {nt : Nat} (hc : tC t (sa p) = 3 + 1) (h7 : tV t (sa p) (gf 3 7) 0 = (nt : Int)) {z : Int} (h : 0 ≤ z ∧ z < (nt : Int)) : t_X3_wasTaken t (sa p : Int) z = some (1, t) := by
  unfold t_X3_wasTaken t_X3_wasTaken_j16 t_X3_wasTaken_j17 rtT
  rw [q_gt 7 hc, Option.bind_some, h7, if_neg (by omega), if_neg (by omega), if_pos (Or.inr rfl)]
theorem wt_n {nt : Nat} (hc : tC t (sa p) = 3 + 1) (h7 : tV t (sa p) (gf 3 7) 0 = (nt : Int)) {z : Int} (h : ¬ (0 ≤ z ∧ z < (nt : Int))) : t_X3_wasTaken t (sa p : Int) z = some (0, t) := by
  unfold t_X3_wasTaken t_X3_wasTaken_j16 t_X3_wasTaken_j17 rtT
  rw [q_gt 7 hc, Option.bind_some, h7]
  by_cases e : z < 0
  · rw [if_pos e, if_pos (Or.inl rfl)]
  · rw [if_neg e, if_pos (by omega), if_pos (Or.inl rfl)]
theorem il_eq (hG : WG N) (hS : WS N FL) (hC : KC t ca la N) (hI : KI t sa ca N) (hK : KS t sa N FL) (hp : Sl N p) (hi : i < fN N (wN N p)) : t_X3_isLive t (sa p : Int) (i : Int) = some (if N 18 (U N p i) = 2 then 1 else 0, t) := by
  have c1 := (hI p hp).1
  obtain ⟨a1, nt, L, cl, b1, b2, b3, b4, b5, b6, b7, b8, b9, b10, b11⟩ := hK p hp
  obtain ⟨s1, s2, s3, s4, s5, s6⟩ := hS p hp
  unfold t_X3_isLive t_X3_isLive_j23 t_X3_isLive_j24 rtT
  rw [q_ck c1, Option.bind_some]
  by_cases e : i < nt
  · rw [wt_y c1 b3 (by omega), Option.bind_some]
    dsimp only
    rw [if_neg (by decide), q_rf 9 c1, Option.bind_some, q_al c1 b5.1 (by omega), Option.bind_some]
    by_cases ec : i ∈ cl
    · have h1 := ch_ge cl b7 i ec
      have h2 : i ∈ FL p := by rw [b1]; exact List.mem_append_left _ ec
      have h3 : N 18 (U N p i) = 1 := by
        rcases s6 i hi with ⟨_, z⟩ | ⟨z, _⟩
        · exact z
        · exact absurd h2 z
      rw [if_pos (by omega), if_pos (Or.inl rfl), if_neg (by omega)]
    · rw [b9 i e ec]
      by_cases e2 : N 18 (U N p i) = 2
      · rw [if_pos e2, if_neg (by decide), if_pos (Or.inr rfl), if_pos e2]
      · rw [if_neg e2, if_pos (by decide), if_pos (Or.inl rfl), if_neg e2]
  · have h2 : i ∈ FL p := by rw [b1]; exact List.mem_append_right _ (List.mem_range'_1.mpr ⟨by omega, by omega⟩)
    have h3 : N 18 (U N p i) = 1 := by
      rcases s6 i hi with ⟨_, z⟩ | ⟨z, _⟩
      · exact z
      · exact absurd h2 z
    rw [wt_n c1 b3 (by omega), Option.bind_some]
    dsimp only
    rw [if_pos rfl, if_pos (Or.inl rfl), if_neg (by omega)]
theorem il_neg (hI : KI t sa ca N) (hK : KS t sa N FL) (hp : Sl N p) : t_X3_isLive t (sa p : Int) (-1) = some (0, t) := by
  have c1 := (hI p hp).1
  obtain ⟨a1, nt, L, cl, b1, b2, b3, b4, b5, b6, b7, b8, b9, b10, b11⟩ := hK p hp
  unfold t_X3_isLive t_X3_isLive_j23 t_X3_isLive_j24 rtT
  rw [q_ck c1, Option.bind_some, wt_n c1 b3 (by omega), Option.bind_some]
  dsimp only
  rw [if_pos rfl, if_pos (Or.inl rfl)]
/-- a live object begins at x -/
theorem lb_eq (hP : WP N) (hG : WG N) (hS : WS N FL) (hC : KC t ca la N) (hI : KI t sa ca N) (hK : KS t sa N FL) (hp : Sl N p) {x : Nat} (hx : x < 262144) : (∃ i, i < fN N (wN N p) ∧ x = 8 * U N p i ∧ N 18 (U N p i) = 2 ∧ nOv N p x = (i : Int) ∧ t_X3_liveBeginsAt t (sa p : Int) (x : Int) = some (1, t)) ∨ ((∀ i, i < fN N (wN N p) → x = 8 * U N p i → N 18 (U N p i) ≠ 2) ∧ t_X3_liveBeginsAt t (sa p : Int) (x : Int) = some (0, t)) := by
  obtain ⟨k1, c1, c2, c3, c4⟩ := sl_c hG hC hI hp
  obtain ⟨d1, d2, d3⟩ := sl_pc hP hG hp
  have hs := d1.2.2.1.2
  have ev : t_X3_liveBeginsAt t (sa p : Int) (x : Int) = Option.bind (t_X3_isLive t (sa p : Int) (nOv N p x)) fun r3 => if r3.1 = 0 then t_X3_liveBeginsAt_j27 r3.2 else Option.bind (tck r3.2 3 (sa p : Int)) fun u6 => Option.bind (t_X3_beginOf r3.2 (sa p : Int) (nOv N p x)) fun r5 => if r5.1 ≠ (x : Int) then t_X3_liveBeginsAt_j27 r5.2 else t_X3_liveBeginsAt_j28 r5.2 1 := by
    unfold t_X3_liveBeginsAt
    rw [q_ck c1, Option.bind_some, no_eq hP hG hC hI hp hx, Option.bind_some]
    dsimp only
    rw [q_ck c1, Option.bind_some]
  have j0 : t_X3_liveBeginsAt_j27 t = some (0, t) := by unfold t_X3_liveBeginsAt_j27 t_X3_liveBeginsAt_j28 rtT; rw [if_pos (Or.inl rfl)]
  have j1 : t_X3_liveBeginsAt_j28 t 1 = some (1, t) := by unfold t_X3_liveBeginsAt_j28 rtT; rw [if_pos (Or.inr rfl)]
  rcases no_spec hs x with h | ⟨i, h1, h2, h3, h4⟩
  · right
    refine ⟨fun i hi e _ => ?_, ?_⟩
    · have := no_at (p := p) hs hi (Nat.le_of_eq e.symm) (by omega)
      omega
    · rw [ev, h, il_neg hI hK hp, Option.bind_some]
      dsimp only
      rw [if_pos rfl, j0]
  · rw [ev, h2, il_eq hG hS hC hI hK hp h1, Option.bind_some]
    dsimp only
    by_cases e2 : N 18 (U N p i) = 2
    · rw [if_pos e2, if_neg (by decide), q_ck c1, Option.bind_some, bo_eq hP hG hC hI hp h1, Option.bind_some]
      dsimp only
      by_cases e3 : x = 8 * U N p i
      · left
        exact ⟨i, h1, e3, e2, rfl, by rw [if_neg (by omega), j1]⟩
      · right
        refine ⟨fun i' hi' e4 _ => ?_, by rw [if_pos (by omega), j0]⟩
        have := no_at (p := p) hs hi' (Nat.le_of_eq e4.symm) (by omega)
        have : i' = i := by omega
        subst this
        exact e3 e4
    · right
      rw [if_neg e2, if_pos rfl, j0]
      refine ⟨fun i' hi' e4 => ?_, rfl⟩
      have := no_at (p := p) hs hi' (Nat.le_of_eq e4.symm) (by omega)
      have : i' = i := by omega
      subst this
      exact e2
theorem mo_eq (hG : WG N) (hC : KC t ca la N) (hI : KI t sa ca N) (hK : KS t sa N FL) (hp : Sl N p) (hi : i < fN N (wN N p)) : t_X3_markOf t (sa p : Int) (i : Int) = some (N 20 (U N p i), t) := by
  obtain ⟨k1, c1, c2, c3, c4⟩ := sl_c hG hC hI hp
  obtain ⟨a1, nt, L, cl, b1, b2, b3, b4, b5, b6, b7, b8, b9, b10, b11⟩ := hK p hp
  unfold t_X3_markOf t_X3_markOf_j24
  rw [q_ck c1, Option.bind_some]
  by_cases e : i < nt
  · rw [wt_y c1 b3 (by omega), Option.bind_some]
    dsimp only
    rw [if_neg (by decide), q_rf 10 c1, Option.bind_some, q_al c1 b6.1 (by omega), Option.bind_some, b10 i e]
  · rw [wt_n c1 b3 (by omega), Option.bind_some]
    dsimp only
    rw [if_pos rfl, q_gt 0 c1, Option.bind_some, c2, q_gt 4 k1.1, Option.bind_some, k1.2.1.2.2.2.2.1, b11 i (by omega) hi]
/-- one that isn't free was taken -/
theorem nf_nt {nt : Nat} {cl : List Nat} (b1 : FL p = cl ++ List.range' nt (fN N (wN N p) - nt)) (hi : i < fN N (wN N p)) (hf : i ∉ FL p) : i < nt ∧ i ∉ cl := by
  refine ⟨?_, fun q => hf (by rw [b1]; exact List.mem_append_left _ q)⟩
  rcases Nat.lt_or_ge i nt with h | h
  · exact h
  · exact absurd (by rw [b1]; exact List.mem_append_right _ (List.mem_range'_1.mpr ⟨h, by omega⟩)) hf
theorem kd_eq (hP : WP N) (hG : WG N) (hC : KC t ca la N) (hI : KI t sa ca N) (hp : Sl N p) (v : Int) (h3 : tV t (sa p) (gf 3 3) 0 = v) (hv : 0 ≤ v ∧ v ≤ (fN N (wN N p) : Int)) : t_X3_kind t (sa p : Int) = some (if v = 0 then 2 else if v = N 10 (wN N p) then 0 else 1, t) := by
  obtain ⟨k1, c1, c2, c3, c4⟩ := sl_c hG hC hI hp
  obtain ⟨d1, d2, d3⟩ := sl_pc hP hG hp
  unfold t_X3_kind t_X3_kind_j28
  have hf := d1.2.2.2.1
  rw [q_gt 3 c1, Option.bind_some, h3, q_gt 0 c1, Option.bind_some, c2, q_gt 6 k1.1, Option.bind_some, k1.2.1.2.2.2.2.2.2.1, Option.bind_some, hf.1]
  by_cases e : v = 0
  · rw [if_pos (by omega), if_neg (by omega), if_pos e]
  · rw [if_neg e]
    by_cases e2 : v = (fN N (wN N p) : Int)
    · rw [if_neg (by omega), if_pos e2]
    · rw [if_pos (by omega), if_pos e, if_neg e2]
end
