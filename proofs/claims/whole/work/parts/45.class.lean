noncomputable def t_X0_init_s30 (k30 : Th → Int → Int → Option (Int × Th)) (h : Th) (x0 x1 : Int) : Option (Int × Th) :=
  if 256 ≤ x1 then (
    some (0, h)
  ) else (
    Option.bind (trf h 0 0 x0) fun v7 =>
    Option.bind (tas h 0 0 x0 v7 x1 6) fun h8 =>
    k30 h8 x0 (wr (x1 + 64))
  )
noncomputable def t_X0_init_b30 : Nat → Th → Int → Int → Option (Int × Th)
  | 0, _, _, _ => none
  | n + 1, h, x0, x1 => t_X0_init_s30 (t_X0_init_b30 n) h x0 x1
theorem h_X0_init_s30 {S : Nat → Prop} {h0 : Hp} {r : Int} {t' : Th} {kg30 : Th → Int → Int → Option (Int × Th)} {kf30 : Hp → Int → Int → Option (Int × Hp)} (hk30 : ∀ {h : Hp} {t : Th} {x0 x1 : Int}, HT S h0 h t → kg30 t x0 x1 = some (r, t') → ∃ h', kf30 h x0 x1 = some (r, h') ∧ HT S h0 h' t') {h : Hp} {t : Th} {x0 x1 : Int} (hT : HT S h0 h t) (hg : t_X0_init_s30 kg30 t x0 x1 = some (r, t')) : ∃ h', f_X0_init_s30 kf30 h x0 x1 = some (r, h') ∧ HT S h0 h' t' := by
  unfold t_X0_init_s30 at hg
  unfold f_X0_init_s30
  by_cases cd : 256 ≤ x1
  · replace hg := it_pos cd hg
    refine ey_pos cd ?_
    exact ey_ret hg hT
  · replace hg := it_neg cd hg
    refine ey_neg cd ?_
    obtain ⟨v7, ev7, hg⟩ := bd hg
    refine ey_bind (ht_ref hT (by decide) ev7) ?_
    obtain ⟨Nh8, eh8, hg⟩ := bd hg
    obtain ⟨h8, qh8, hT⟩ := ht_ast hT (kd := 8) rfl (by decide) eh8
    refine ey_bind qh8 ?_
    exact hk30 hT hg
theorem h_X0_init_b30 {S : Nat → Prop} {h0 : Hp} {r : Int} {t' : Th} {n : Nat} {h : Hp} {t : Th} {x0 x1 : Int} (hT : HT S h0 h t) (hg : t_X0_init_b30 n t x0 x1 = some (r, t')) : ∃ h', f_X0_init_b30 n h x0 x1 = some (r, h') ∧ HT S h0 h' t' := by
  induction n generalizing h t x0 x1 with
  | zero => exact absurd hg (fun q => nomatch (show (none : Option (Int × Th)) = some (r, t') from q))
  | succ n ih => exact h_X0_init_s30 @ih hT hg
noncomputable def t_X0_init (h : Th) (x0 : Int) : Option (Int × Th) :=
  Option.bind (tck h 0 x0) fun u1 =>
  Option.bind (tan h 0 0 256 x0 256) fun h3 =>
  Option.bind (tpt h3 0 1 x0 256) fun h4 =>
  Option.bind (trf h4 0 0 x0) fun v5 =>
  Option.bind (tfz h4 0 0 x0 v5 (-1)) fun r6 =>
  t_X0_init_b30 fuel r6.2 x0 0
theorem h_X0_init {S : Nat → Prop} {h0 : Hp} {r : Int} {t' : Th} {h : Hp} {t : Th} {x0 : Int} (hT : HT S h0 h t) (hg : t_X0_init t x0 = some (r, t')) : ∃ h', f_X0_init h x0 = some (r, h') ∧ HT S h0 h' t' := by
  unfold t_X0_init at hg
  unfold f_X0_init
  obtain ⟨u1, eu1, hg⟩ := bd hg
  refine ey_bind (ht_ck hT eu1) ?_
  obtain ⟨Nh3, eh3, hg⟩ := bd hg
  obtain ⟨h2, h3, qh2, qh3, hT⟩ := ht_an hT (kd := 8) rfl (by decide) eh3
  refine ey_bind qh2 ?_
  refine ey_bind qh3 ?_
  obtain ⟨Nh4, eh4, hg⟩ := bd hg
  obtain ⟨h4, qh4, hT⟩ := ht_put hT (by decide) eh4
  refine ey_bind qh4 ?_
  obtain ⟨v5, ev5, hg⟩ := bd hg
  refine ey_bind (ht_ref hT (by decide) ev5) ?_
  obtain ⟨r6, er6, hg⟩ := bd hg
  obtain ⟨hr6, qr6, hT⟩ := ht_fz hT rfl er6
  refine ey_bind qr6 ?_
  exact h_X0_init_b30 hT hg
noncomputable def t_X0_freePage_j35 (k5 : Th → Int → Int → Int → Int → Int → Option (Int × Th)) (h : Th) (x0 x1 x2 x3 x4 : Int) : Option (Int × Th) :=
  k5 h x0 x1 x2 x3 (wr (x4 + 1))
theorem h_X0_freePage_j35 {S : Nat → Prop} {h0 : Hp} {r : Int} {t' : Th} {kg5 : Th → Int → Int → Int → Int → Int → Option (Int × Th)} {kf5 : Hp → Int → Int → Int → Int → Int → Option (Int × Hp)} (hk5 : ∀ {h : Hp} {t : Th} {x0 x1 x2 x3 x4 : Int}, HT S h0 h t → kg5 t x0 x1 x2 x3 x4 = some (r, t') → ∃ h', kf5 h x0 x1 x2 x3 x4 = some (r, h') ∧ HT S h0 h' t') {h : Hp} {t : Th} {x0 x1 x2 x3 x4 : Int} (hT : HT S h0 h t) (hg : t_X0_freePage_j35 kg5 t x0 x1 x2 x3 x4 = some (r, t')) : ∃ h', f_X0_freePage_j35 kf5 h x0 x1 x2 x3 x4 = some (r, h') ∧ HT S h0 h' t' := by
  unfold t_X0_freePage_j35 at hg
  unfold f_X0_freePage_j35
  exact hk5 hT hg
noncomputable def t_X0_freePage_s5 (k5 : Th → Int → Int → Int → Int → Int → Option (Int × Th)) (h : Th) (x0 x1 x2 x3 x4 : Int) : Option (Int × Th) :=
  if 256 ≤ x4 then (
    some ((-1), h)
  ) else (
    Option.bind (trf h 0 0 x0) fun v1 =>
    Option.bind (tal h 0 0 x0 v1 x4) fun v2 =>
    if v2 ≠ x1 then (
      t_X0_freePage_j35 k5 h x0 x1 x2 x3 x4
    ) else (
      if x3 ≠ x2 then (
        t_X0_freePage_j35 k5 h x0 x1 x2 (wr (x3 + 1)) x4
      ) else (
        some (x4, h)
      )
    )
  )
noncomputable def t_X0_freePage_b5 : Nat → Th → Int → Int → Int → Int → Int → Option (Int × Th)
  | 0, _, _, _, _, _, _ => none
  | n + 1, h, x0, x1, x2, x3, x4 => t_X0_freePage_s5 (t_X0_freePage_b5 n) h x0 x1 x2 x3 x4
theorem h_X0_freePage_s5 {S : Nat → Prop} {h0 : Hp} {r : Int} {t' : Th} {kg5 : Th → Int → Int → Int → Int → Int → Option (Int × Th)} {kf5 : Hp → Int → Int → Int → Int → Int → Option (Int × Hp)} (hk5 : ∀ {h : Hp} {t : Th} {x0 x1 x2 x3 x4 : Int}, HT S h0 h t → kg5 t x0 x1 x2 x3 x4 = some (r, t') → ∃ h', kf5 h x0 x1 x2 x3 x4 = some (r, h') ∧ HT S h0 h' t') {h : Hp} {t : Th} {x0 x1 x2 x3 x4 : Int} (hT : HT S h0 h t) (hg : t_X0_freePage_s5 kg5 t x0 x1 x2 x3 x4 = some (r, t')) : ∃ h', f_X0_freePage_s5 kf5 h x0 x1 x2 x3 x4 = some (r, h') ∧ HT S h0 h' t' := by
  unfold t_X0_freePage_s5 at hg
  unfold f_X0_freePage_s5
  by_cases cd : 256 ≤ x4
  · replace hg := it_pos cd hg
    refine ey_pos cd ?_
    exact ey_ret hg hT
  · replace hg := it_neg cd hg
    refine ey_neg cd ?_
    obtain ⟨v1, ev1, hg⟩ := bd hg
    refine ey_bind (ht_ref hT (by decide) ev1) ?_
    obtain ⟨v2, ev2, hg⟩ := bd hg
    refine ey_bind (ht_ald hT (kd := 8) rfl (by decide) ev2) ?_
    by_cases cd : v2 ≠ x1
    · replace hg := it_pos cd hg
      refine ey_pos cd ?_
      exact h_X0_freePage_j35 @hk5 hT hg
    · replace hg := it_neg cd hg
      refine ey_neg cd ?_
      by_cases cd : x3 ≠ x2
      · replace hg := it_pos cd hg
        refine ey_pos cd ?_
        exact h_X0_freePage_j35 @hk5 hT hg
      · replace hg := it_neg cd hg
        refine ey_neg cd ?_
        exact ey_ret hg hT
theorem h_X0_freePage_b5 {S : Nat → Prop} {h0 : Hp} {r : Int} {t' : Th} {n : Nat} {h : Hp} {t : Th} {x0 x1 x2 x3 x4 : Int} (hT : HT S h0 h t) (hg : t_X0_freePage_b5 n t x0 x1 x2 x3 x4 = some (r, t')) : ∃ h', f_X0_freePage_b5 n h x0 x1 x2 x3 x4 = some (r, h') ∧ HT S h0 h' t' := by
  induction n generalizing h t x0 x1 x2 x3 x4 with
  | zero => exact absurd hg (fun q => nomatch (show (none : Option (Int × Th)) = some (r, t') from q))
  | succ n ih => exact h_X0_freePage_s5 @ih hT hg
noncomputable def t_X0_freePage (h : Th) (x0 x1 x2 : Int) : Option (Int × Th) :=
  t_X0_freePage_b5 fuel h x0 x1 x2 0 0
theorem h_X0_freePage {S : Nat → Prop} {h0 : Hp} {r : Int} {t' : Th} {h : Hp} {t : Th} {x0 x1 x2 : Int} (hT : HT S h0 h t) (hg : t_X0_freePage t x0 x1 x2 = some (r, t')) : ∃ h', f_X0_freePage h x0 x1 x2 = some (r, h') ∧ HT S h0 h' t' := by
  unfold t_X0_freePage at hg
  unfold f_X0_freePage
  exact h_X0_freePage_b5 hT hg
noncomputable def t_X0_setFree_j18 (h : Th) : Option (Int × Th) :=
  some (0, h)
theorem h_X0_setFree_j18 {S : Nat → Prop} {h0 : Hp} {r : Int} {t' : Th} {h : Hp} {t : Th} (hT : HT S h0 h t) (hg : t_X0_setFree_j18 t  = some (r, t')) : ∃ h', f_X0_setFree_j18 h  = some (r, h') ∧ HT S h0 h' t' := by
  unfold t_X0_setFree_j18 at hg
  unfold f_X0_setFree_j18
  exact ey_ret hg hT
noncomputable def t_X0_setFree (h : Th) (x0 x1 x2 : Int) : Option (Int × Th) :=
  if x1 < 0 then (
    t_X0_setFree_j18 h
  ) else (
    if 256 ≤ x1 then (
      t_X0_setFree_j18 h
    ) else (
      Option.bind (trf h 0 0 x0) fun v1 =>
      Option.bind (tas h 0 0 x0 v1 x1 x2) fun h2 =>
      t_X0_setFree_j18 h2
    )
  )
theorem h_X0_setFree {S : Nat → Prop} {h0 : Hp} {r : Int} {t' : Th} {h : Hp} {t : Th} {x0 x1 x2 : Int} (hT : HT S h0 h t) (hg : t_X0_setFree t x0 x1 x2 = some (r, t')) : ∃ h', f_X0_setFree h x0 x1 x2 = some (r, h') ∧ HT S h0 h' t' := by
  unfold t_X0_setFree at hg
  unfold f_X0_setFree
  by_cases cd : x1 < 0
  · replace hg := it_pos cd hg
    refine ey_pos cd ?_
    exact h_X0_setFree_j18 hT hg
  · replace hg := it_neg cd hg
    refine ey_neg cd ?_
    by_cases cd : 256 ≤ x1
    · replace hg := it_pos cd hg
      refine ey_pos cd ?_
      exact h_X0_setFree_j18 hT hg
    · replace hg := it_neg cd hg
      refine ey_neg cd ?_
      obtain ⟨v1, ev1, hg⟩ := bd hg
      refine ey_bind (ht_ref hT (by decide) ev1) ?_
      obtain ⟨Nh2, eh2, hg⟩ := bd hg
      obtain ⟨h2, qh2, hT⟩ := ht_ast hT (kd := 8) rfl (by decide) eh2
      refine ey_bind qh2 ?_
      exact h_X0_setFree_j18 hT hg
noncomputable def t_X0_halve_s12 (k12 : Th → Int → Int → Int → Int → Option (Int × Th)) (h : Th) (x0 x1 x3 x4 : Int) : Option (Int × Th) :=
  if x4 < x3 then (
    Option.bind (tgt h 0 1 x0) fun v3 =>
    Option.bind (tpt h 0 1 x0 (wr (v3 - (ish 1 x3)))) fun h4 =>
    some (0, h4)
  ) else (
    Option.bind (tck h 0 x0) fun u6 =>
    Option.bind (t_X0_setFree h x0 (wr (x1 + (ish 1 x4))) x4) fun r5 =>
    k12 r5.2 x0 x1 x3 (wr (x4 + (-1)))
  )
noncomputable def t_X0_halve_b12 : Nat → Th → Int → Int → Int → Int → Option (Int × Th)
  | 0, _, _, _, _, _ => none
  | n + 1, h, x0, x1, x3, x4 => t_X0_halve_s12 (t_X0_halve_b12 n) h x0 x1 x3 x4
theorem h_X0_halve_s12 {S : Nat → Prop} {h0 : Hp} {r : Int} {t' : Th} {kg12 : Th → Int → Int → Int → Int → Option (Int × Th)} {kf12 : Hp → Int → Int → Int → Int → Option (Int × Hp)} (hk12 : ∀ {h : Hp} {t : Th} {x0 x1 x3 x4 : Int}, HT S h0 h t → kg12 t x0 x1 x3 x4 = some (r, t') → ∃ h', kf12 h x0 x1 x3 x4 = some (r, h') ∧ HT S h0 h' t') {h : Hp} {t : Th} {x0 x1 x3 x4 : Int} (hT : HT S h0 h t) (hg : t_X0_halve_s12 kg12 t x0 x1 x3 x4 = some (r, t')) : ∃ h', f_X0_halve_s12 kf12 h x0 x1 x3 x4 = some (r, h') ∧ HT S h0 h' t' := by
  unfold t_X0_halve_s12 at hg
  unfold f_X0_halve_s12
  by_cases cd : x4 < x3
  · replace hg := it_pos cd hg
    refine ey_pos cd ?_
    obtain ⟨v3, ev3, hg⟩ := bd hg
    refine ey_bind (ht_get hT rfl ev3) ?_
    obtain ⟨Nh4, eh4, hg⟩ := bd hg
    obtain ⟨h4, qh4, hT⟩ := ht_put hT (by decide) eh4
    refine ey_bind qh4 ?_
    exact ey_ret hg hT
  · replace hg := it_neg cd hg
    refine ey_neg cd ?_
    obtain ⟨u6, eu6, hg⟩ := bd hg
    refine ey_bind (ht_ck hT eu6) ?_
    obtain ⟨r5, er5, hg⟩ := bd hg
    obtain ⟨hr5, qr5, hT⟩ := h_X0_setFree hT er5
    refine ey_bind qr5 ?_
    exact hk12 hT hg
theorem h_X0_halve_b12 {S : Nat → Prop} {h0 : Hp} {r : Int} {t' : Th} {n : Nat} {h : Hp} {t : Th} {x0 x1 x3 x4 : Int} (hT : HT S h0 h t) (hg : t_X0_halve_b12 n t x0 x1 x3 x4 = some (r, t')) : ∃ h', f_X0_halve_b12 n h x0 x1 x3 x4 = some (r, h') ∧ HT S h0 h' t' := by
  induction n generalizing h t x0 x1 x3 x4 with
  | zero => exact absurd hg (fun q => nomatch (show (none : Option (Int × Th)) = some (r, t') from q))
  | succ n ih => exact h_X0_halve_s12 @ih hT hg
noncomputable def t_X0_halve (h : Th) (x0 x1 x2 x3 : Int) : Option (Int × Th) :=
  Option.bind (trf h 0 0 x0) fun v1 =>
  Option.bind (tas h 0 0 x0 v1 x1 (-1)) fun h2 =>
  t_X0_halve_b12 fuel h2 x0 x1 x3 (wr (x2 - 1))
theorem h_X0_halve {S : Nat → Prop} {h0 : Hp} {r : Int} {t' : Th} {h : Hp} {t : Th} {x0 x1 x2 x3 : Int} (hT : HT S h0 h t) (hg : t_X0_halve t x0 x1 x2 x3 = some (r, t')) : ∃ h', f_X0_halve h x0 x1 x2 x3 = some (r, h') ∧ HT S h0 h' t' := by
  unfold t_X0_halve at hg
  unfold f_X0_halve
  obtain ⟨v1, ev1, hg⟩ := bd hg
  refine ey_bind (ht_ref hT (by decide) ev1) ?_
  obtain ⟨Nh2, eh2, hg⟩ := bd hg
  obtain ⟨h2, qh2, hT⟩ := ht_ast hT (kd := 8) rfl (by decide) eh2
  refine ey_bind qh2 ?_
  exact h_X0_halve_b12 hT hg
noncomputable def t_X0_take_s2 (k2 : Th → Int → Int → Int → Option (Int × Th)) (h : Th) (x0 x1 x2 : Int) : Option (Int × Th) :=
  if 6 < x2 then (
    some ((-1), h)
  ) else (
    Option.bind (tck h 0 x0) fun u2 =>
    Option.bind (t_X0_freePage h x0 x2 0) fun r1 =>
    if r1.1 = (-1) then (
      k2 r1.2 x0 x1 (wr (x2 + 1))
    ) else (
      Option.bind (tck r1.2 0 x0) fun u4 =>
      Option.bind (t_X0_halve r1.2 x0 r1.1 x2 x1) fun r3 =>
      some (r1.1, r3.2)
    )
  )
noncomputable def t_X0_take_b2 : Nat → Th → Int → Int → Int → Option (Int × Th)
  | 0, _, _, _, _ => none
  | n + 1, h, x0, x1, x2 => t_X0_take_s2 (t_X0_take_b2 n) h x0 x1 x2
theorem h_X0_take_s2 {S : Nat → Prop} {h0 : Hp} {r : Int} {t' : Th} {kg2 : Th → Int → Int → Int → Option (Int × Th)} {kf2 : Hp → Int → Int → Int → Option (Int × Hp)} (hk2 : ∀ {h : Hp} {t : Th} {x0 x1 x2 : Int}, HT S h0 h t → kg2 t x0 x1 x2 = some (r, t') → ∃ h', kf2 h x0 x1 x2 = some (r, h') ∧ HT S h0 h' t') {h : Hp} {t : Th} {x0 x1 x2 : Int} (hT : HT S h0 h t) (hg : t_X0_take_s2 kg2 t x0 x1 x2 = some (r, t')) : ∃ h', f_X0_take_s2 kf2 h x0 x1 x2 = some (r, h') ∧ HT S h0 h' t' := by
  unfold t_X0_take_s2 at hg
  unfold f_X0_take_s2
  by_cases cd : 6 < x2
  · replace hg := it_pos cd hg
    refine ey_pos cd ?_
    exact ey_ret hg hT
  · replace hg := it_neg cd hg
    refine ey_neg cd ?_
    obtain ⟨u2, eu2, hg⟩ := bd hg
    refine ey_bind (ht_ck hT eu2) ?_
    obtain ⟨r1, er1, hg⟩ := bd hg
    obtain ⟨hr1, qr1, hT⟩ := h_X0_freePage hT er1
    refine ey_bind qr1 ?_
    by_cases cd : r1.1 = (-1)
    · replace hg := it_pos cd hg
      refine ey_pos cd ?_
      exact hk2 hT hg
    · replace hg := it_neg cd hg
      refine ey_neg cd ?_
      obtain ⟨u4, eu4, hg⟩ := bd hg
      refine ey_bind (ht_ck hT eu4) ?_
      obtain ⟨r3, er3, hg⟩ := bd hg
      obtain ⟨hr3, qr3, hT⟩ := h_X0_halve hT er3
      refine ey_bind qr3 ?_
      exact ey_ret hg hT
theorem h_X0_take_b2 {S : Nat → Prop} {h0 : Hp} {r : Int} {t' : Th} {n : Nat} {h : Hp} {t : Th} {x0 x1 x2 : Int} (hT : HT S h0 h t) (hg : t_X0_take_b2 n t x0 x1 x2 = some (r, t')) : ∃ h', f_X0_take_b2 n h x0 x1 x2 = some (r, h') ∧ HT S h0 h' t' := by
  induction n generalizing h t x0 x1 x2 with
  | zero => exact absurd hg (fun q => nomatch (show (none : Option (Int × Th)) = some (r, t') from q))
  | succ n ih => exact h_X0_take_s2 @ih hT hg
noncomputable def t_X0_take (h : Th) (x0 x1 : Int) : Option (Int × Th) :=
  t_X0_take_b2 fuel h x0 x1 x1
theorem h_X0_take {S : Nat → Prop} {h0 : Hp} {r : Int} {t' : Th} {h : Hp} {t : Th} {x0 x1 : Int} (hT : HT S h0 h t) (hg : t_X0_take t x0 x1 = some (r, t')) : ∃ h', f_X0_take h x0 x1 = some (r, h') ∧ HT S h0 h' t' := by
  unfold t_X0_take at hg
  unfold f_X0_take
  exact h_X0_take_b2 hT hg
noncomputable def t_X0_isFree_j26 (h : Th) (s0 : Int) : Option (Int × Th) :=
  rtT s0 h
theorem h_X0_isFree_j26 {S : Nat → Prop} {h0 : Hp} {r : Int} {t' : Th} {h : Hp} {t : Th} {s0 : Int} (hT : HT S h0 h t) (hg : t_X0_isFree_j26 t s0 = some (r, t')) : ∃ h', f_X0_isFree_j26 h s0 = some (r, h') ∧ HT S h0 h' t' := by
  unfold t_X0_isFree_j26 at hg
  unfold f_X0_isFree_j26
  exact ey_rtB (P := HT S h0) hg hT
noncomputable def t_X0_isFree_j25 (h : Th) : Option (Int × Th) :=
  t_X0_isFree_j26 h 0
theorem h_X0_isFree_j25 {S : Nat → Prop} {h0 : Hp} {r : Int} {t' : Th} {h : Hp} {t : Th} (hT : HT S h0 h t) (hg : t_X0_isFree_j25 t  = some (r, t')) : ∃ h', f_X0_isFree_j25 h  = some (r, h') ∧ HT S h0 h' t' := by
  unfold t_X0_isFree_j25 at hg
  unfold f_X0_isFree_j25
  exact h_X0_isFree_j26 hT hg
noncomputable def t_X0_isFree (h : Th) (x0 x1 x2 : Int) : Option (Int × Th) :=
  if x1 < 0 then (
    t_X0_isFree_j25 h
  ) else (
    if 256 ≤ x1 then (
      t_X0_isFree_j25 h
    ) else (
      Option.bind (trf h 0 0 x0) fun v1 =>
      Option.bind (tal h 0 0 x0 v1 x1) fun v2 =>
      if v2 ≠ x2 then (
        t_X0_isFree_j25 h
      ) else (
        t_X0_isFree_j26 h 1
      )
    )
  )
theorem h_X0_isFree {S : Nat → Prop} {h0 : Hp} {r : Int} {t' : Th} {h : Hp} {t : Th} {x0 x1 x2 : Int} (hT : HT S h0 h t) (hg : t_X0_isFree t x0 x1 x2 = some (r, t')) : ∃ h', f_X0_isFree h x0 x1 x2 = some (r, h') ∧ HT S h0 h' t' := by
  unfold t_X0_isFree at hg
  unfold f_X0_isFree
  by_cases cd : x1 < 0
  · replace hg := it_pos cd hg
    refine ey_pos cd ?_
    exact h_X0_isFree_j25 hT hg
  · replace hg := it_neg cd hg
    refine ey_neg cd ?_
    by_cases cd : 256 ≤ x1
    · replace hg := it_pos cd hg
      refine ey_pos cd ?_
      exact h_X0_isFree_j25 hT hg
    · replace hg := it_neg cd hg
      refine ey_neg cd ?_
      obtain ⟨v1, ev1, hg⟩ := bd hg
      refine ey_bind (ht_ref hT (by decide) ev1) ?_
      obtain ⟨v2, ev2, hg⟩ := bd hg
      refine ey_bind (ht_ald hT (kd := 8) rfl (by decide) ev2) ?_
      by_cases cd : v2 ≠ x2
      · replace hg := it_pos cd hg
        refine ey_pos cd ?_
        exact h_X0_isFree_j25 hT hg
      · replace hg := it_neg cd hg
        refine ey_neg cd ?_
        exact h_X0_isFree_j26 hT hg
noncomputable def t_X0_giveBack_j53 (h : Th) (x0 x2 x3 x4 : Int) : Option (Int × Th) :=
  Option.bind (tck h 0 x0) fun u6 =>
  Option.bind (t_X0_setFree h x0 x3 x4) fun r5 =>
  Option.bind (tgt r5.2 0 1 x0) fun v7 =>
  Option.bind (tpt r5.2 0 1 x0 (wr (v7 + (ish 1 x2)))) fun h8 =>
  some (0, h8)
theorem h_X0_giveBack_j53 {S : Nat → Prop} {h0 : Hp} {r : Int} {t' : Th} {h : Hp} {t : Th} {x0 x2 x3 x4 : Int} (hT : HT S h0 h t) (hg : t_X0_giveBack_j53 t x0 x2 x3 x4 = some (r, t')) : ∃ h', f_X0_giveBack_j53 h x0 x2 x3 x4 = some (r, h') ∧ HT S h0 h' t' := by
  unfold t_X0_giveBack_j53 at hg
  unfold f_X0_giveBack_j53
  obtain ⟨u6, eu6, hg⟩ := bd hg
  refine ey_bind (ht_ck hT eu6) ?_
  obtain ⟨r5, er5, hg⟩ := bd hg
  obtain ⟨hr5, qr5, hT⟩ := h_X0_setFree hT er5
  refine ey_bind qr5 ?_
  obtain ⟨v7, ev7, hg⟩ := bd hg
  refine ey_bind (ht_get hT rfl ev7) ?_
  obtain ⟨Nh8, eh8, hg⟩ := bd hg
  obtain ⟨h8, qh8, hT⟩ := ht_put hT (by decide) eh8
  refine ey_bind qh8 ?_
  exact ey_ret hg hT
noncomputable def t_X0_giveBack_s5 (k5 : Th → Int → Int → Int → Int → Option (Int × Th)) (h : Th) (x0 x2 x3 x4 : Int) : Option (Int × Th) :=
  if 6 ≤ x4 then (
    t_X0_giveBack_j53 h x0 x2 x3 x4
  ) else (
    Option.bind (tck h 0 x0) fun u2 =>
    Option.bind (t_X0_isFree h x0 (ixr x3 (ish 1 x4)) x4) fun r1 =>
    if r1.1 = 0 then (
      t_X0_giveBack_j53 r1.2 x0 x2 x3 x4
    ) else (
      Option.bind (tck r1.2 0 x0) fun u4 =>
      Option.bind (t_X0_setFree r1.2 x0 (ixr x3 (ish 1 x4)) (-1)) fun r3 =>
      k5 r3.2 x0 x2 (ian x3 (ixr (ish 1 x4) (-1))) (wr (x4 + 1))
    )
  )
noncomputable def t_X0_giveBack_b5 : Nat → Th → Int → Int → Int → Int → Option (Int × Th)
  | 0, _, _, _, _, _ => none
  | n + 1, h, x0, x2, x3, x4 => t_X0_giveBack_s5 (t_X0_giveBack_b5 n) h x0 x2 x3 x4
theorem h_X0_giveBack_s5 {S : Nat → Prop} {h0 : Hp} {r : Int} {t' : Th} {kg5 : Th → Int → Int → Int → Int → Option (Int × Th)} {kf5 : Hp → Int → Int → Int → Int → Option (Int × Hp)} (hk5 : ∀ {h : Hp} {t : Th} {x0 x2 x3 x4 : Int}, HT S h0 h t → kg5 t x0 x2 x3 x4 = some (r, t') → ∃ h', kf5 h x0 x2 x3 x4 = some (r, h') ∧ HT S h0 h' t') {h : Hp} {t : Th} {x0 x2 x3 x4 : Int} (hT : HT S h0 h t) (hg : t_X0_giveBack_s5 kg5 t x0 x2 x3 x4 = some (r, t')) : ∃ h', f_X0_giveBack_s5 kf5 h x0 x2 x3 x4 = some (r, h') ∧ HT S h0 h' t' := by
  unfold t_X0_giveBack_s5 at hg
  unfold f_X0_giveBack_s5
  by_cases cd : 6 ≤ x4
  · replace hg := it_pos cd hg
    refine ey_pos cd ?_
    exact h_X0_giveBack_j53 hT hg
  · replace hg := it_neg cd hg
    refine ey_neg cd ?_
    obtain ⟨u2, eu2, hg⟩ := bd hg
    refine ey_bind (ht_ck hT eu2) ?_
    obtain ⟨r1, er1, hg⟩ := bd hg
    obtain ⟨hr1, qr1, hT⟩ := h_X0_isFree hT er1
    refine ey_bind qr1 ?_
    by_cases cd : r1.1 = 0
    · replace hg := it_pos cd hg
      refine ey_pos cd ?_
      exact h_X0_giveBack_j53 hT hg
    · replace hg := it_neg cd hg
      refine ey_neg cd ?_
      obtain ⟨u4, eu4, hg⟩ := bd hg
      refine ey_bind (ht_ck hT eu4) ?_
      obtain ⟨r3, er3, hg⟩ := bd hg
      obtain ⟨hr3, qr3, hT⟩ := h_X0_setFree hT er3
      refine ey_bind qr3 ?_
      exact hk5 hT hg
theorem h_X0_giveBack_b5 {S : Nat → Prop} {h0 : Hp} {r : Int} {t' : Th} {n : Nat} {h : Hp} {t : Th} {x0 x2 x3 x4 : Int} (hT : HT S h0 h t) (hg : t_X0_giveBack_b5 n t x0 x2 x3 x4 = some (r, t')) : ∃ h', f_X0_giveBack_b5 n h x0 x2 x3 x4 = some (r, h') ∧ HT S h0 h' t' := by
  induction n generalizing h t x0 x2 x3 x4 with
  | zero => exact absurd hg (fun q => nomatch (show (none : Option (Int × Th)) = some (r, t') from q))
  | succ n ih => exact h_X0_giveBack_s5 @ih hT hg
noncomputable def t_X0_giveBack (h : Th) (x0 x1 x2 : Int) : Option (Int × Th) :=
  t_X0_giveBack_b5 fuel h x0 x2 x1 x2
theorem h_X0_giveBack {S : Nat → Prop} {h0 : Hp} {r : Int} {t' : Th} {h : Hp} {t : Th} {x0 x1 x2 : Int} (hT : HT S h0 h t) (hg : t_X0_giveBack t x0 x1 x2 = some (r, t')) : ∃ h', f_X0_giveBack h x0 x1 x2 = some (r, h') ∧ HT S h0 h' t' := by
  unfold t_X0_giveBack at hg
  unfold f_X0_giveBack
  exact h_X0_giveBack_b5 hT hg
noncomputable def t_X2_init (h : Th) (x0 : Int) : Option (Int × Th) :=
  Option.bind (tck h 2 x0) fun u1 =>
  Option.bind (tan h 2 0 4 x0 4) fun h3 =>
  some (0, h3)
theorem h_X2_init {S : Nat → Prop} {h0 : Hp} {r : Int} {t' : Th} {h : Hp} {t : Th} {x0 : Int} (hT : HT S h0 h t) (hg : t_X2_init t x0 = some (r, t')) : ∃ h', f_X2_init h x0 = some (r, h') ∧ HT S h0 h' t' := by
  unfold t_X2_init at hg
  unfold f_X2_init
  obtain ⟨u1, eu1, hg⟩ := bd hg
  refine ey_bind (ht_ck hT eu1) ?_
  obtain ⟨Nh3, eh3, hg⟩ := bd hg
  obtain ⟨h2, h3, qh2, qh3, hT⟩ := ht_an hT (kd := 8) rfl (by decide) eh3
  refine ey_bind qh2 ?_
  refine ey_bind qh3 ?_
  exact ey_ret hg hT
noncomputable def t_X2_isFull_j13 (h : Th) (s0 : Int) : Option (Int × Th) :=
  rtT s0 h
theorem h_X2_isFull_j13 {S : Nat → Prop} {h0 : Hp} {r : Int} {t' : Th} {h : Hp} {t : Th} {s0 : Int} (hT : HT S h0 h t) (hg : t_X2_isFull_j13 t s0 = some (r, t')) : ∃ h', f_X2_isFull_j13 h s0 = some (r, h') ∧ HT S h0 h' t' := by
  unfold t_X2_isFull_j13 at hg
  unfold f_X2_isFull_j13
  exact ey_rtB (P := HT S h0) hg hT
noncomputable def t_X2_isFull (h : Th) (x0 : Int) : Option (Int × Th) :=
  Option.bind (tgt h 2 1 x0) fun v1 =>
  if v1 < 4 then (
    t_X2_isFull_j13 h 0
  ) else (
    t_X2_isFull_j13 h 1
  )
theorem h_X2_isFull {S : Nat → Prop} {h0 : Hp} {r : Int} {t' : Th} {h : Hp} {t : Th} {x0 : Int} (hT : HT S h0 h t) (hg : t_X2_isFull t x0 = some (r, t')) : ∃ h', f_X2_isFull h x0 = some (r, h') ∧ HT S h0 h' t' := by
  unfold t_X2_isFull at hg
  unfold f_X2_isFull
  obtain ⟨v1, ev1, hg⟩ := bd hg
  refine ey_bind (ht_get hT rfl ev1) ?_
  by_cases cd : v1 < 4
  · replace hg := it_pos cd hg
    refine ey_pos cd ?_
    exact h_X2_isFull_j13 hT hg
  · replace hg := it_neg cd hg
    refine ey_neg cd ?_
    exact h_X2_isFull_j13 hT hg
noncomputable def t_X2_put (h : Th) (x0 x1 : Int) : Option (Int × Th) :=
  Option.bind (tck h 2 x0) fun u2 =>
  Option.bind (t_X2_isFull h x0) fun r1 =>
  if r1.1 = 0 then (
    Option.bind (trf r1.2 2 0 x0) fun v3 =>
    Option.bind (tgt r1.2 2 1 x0) fun v4 =>
    Option.bind (tas r1.2 2 0 x0 v3 v4 x1) fun h5 =>
    Option.bind (tgt h5 2 1 x0) fun v6 =>
    Option.bind (tpt h5 2 1 x0 (wr (v6 + 1))) fun h7 =>
    rtT 1 h7
  ) else (
    rtT 0 r1.2
  )
theorem h_X2_put {S : Nat → Prop} {h0 : Hp} {r : Int} {t' : Th} {h : Hp} {t : Th} {x0 x1 : Int} (hT : HT S h0 h t) (hg : t_X2_put t x0 x1 = some (r, t')) : ∃ h', f_X2_put h x0 x1 = some (r, h') ∧ HT S h0 h' t' := by
  unfold t_X2_put at hg
  unfold f_X2_put
  obtain ⟨u2, eu2, hg⟩ := bd hg
  refine ey_bind (ht_ck hT eu2) ?_
  obtain ⟨r1, er1, hg⟩ := bd hg
  obtain ⟨hr1, qr1, hT⟩ := h_X2_isFull hT er1
  refine ey_bind qr1 ?_
  by_cases cd : r1.1 = 0
  · replace hg := it_pos cd hg
    refine ey_pos cd ?_
    obtain ⟨v3, ev3, hg⟩ := bd hg
    refine ey_bind (ht_ref hT (by decide) ev3) ?_
    obtain ⟨v4, ev4, hg⟩ := bd hg
    refine ey_bind (ht_get hT rfl ev4) ?_
    obtain ⟨Nh5, eh5, hg⟩ := bd hg
    obtain ⟨h5, qh5, hT⟩ := ht_ast hT (kd := 8) rfl (by decide) eh5
    refine ey_bind qh5 ?_
    obtain ⟨v6, ev6, hg⟩ := bd hg
    refine ey_bind (ht_get hT rfl ev6) ?_
    obtain ⟨Nh7, eh7, hg⟩ := bd hg
    obtain ⟨h7, qh7, hT⟩ := ht_put hT (by decide) eh7
    refine ey_bind qh7 ?_
    exact ey_rtB (P := HT S h0) hg hT
  · replace hg := it_neg cd hg
    refine ey_neg cd ?_
    exact ey_rtB (P := HT S h0) hg hT
noncomputable def t_X2_takeLast (h : Th) (x0 : Int) : Option (Int × Th) :=
  Option.bind (tgt h 2 1 x0) fun v1 =>
  if 0 < v1 then (
    Option.bind (tgt h 2 1 x0) fun v2 =>
    Option.bind (tpt h 2 1 x0 (wr (v2 - 1))) fun h3 =>
    Option.bind (trf h3 2 0 x0) fun v4 =>
    Option.bind (tgt h3 2 1 x0) fun v5 =>
    Option.bind (tal h3 2 0 x0 v4 v5) fun v6 =>
    some (v6, h3)
  ) else (
    some ((-1), h)
  )
theorem h_X2_takeLast {S : Nat → Prop} {h0 : Hp} {r : Int} {t' : Th} {h : Hp} {t : Th} {x0 : Int} (hT : HT S h0 h t) (hg : t_X2_takeLast t x0 = some (r, t')) : ∃ h', f_X2_takeLast h x0 = some (r, h') ∧ HT S h0 h' t' := by
  unfold t_X2_takeLast at hg
  unfold f_X2_takeLast
  obtain ⟨v1, ev1, hg⟩ := bd hg
  refine ey_bind (ht_get hT rfl ev1) ?_
  by_cases cd : 0 < v1
  · replace hg := it_pos cd hg
    refine ey_pos cd ?_
    obtain ⟨v2, ev2, hg⟩ := bd hg
    refine ey_bind (ht_get hT rfl ev2) ?_
    obtain ⟨Nh3, eh3, hg⟩ := bd hg
    obtain ⟨h3, qh3, hT⟩ := ht_put hT (by decide) eh3
    refine ey_bind qh3 ?_
    obtain ⟨v4, ev4, hg⟩ := bd hg
    refine ey_bind (ht_ref hT (by decide) ev4) ?_
    obtain ⟨v5, ev5, hg⟩ := bd hg
    refine ey_bind (ht_get hT rfl ev5) ?_
    obtain ⟨v6, ev6, hg⟩ := bd hg
    refine ey_bind (ht_ald hT (kd := 8) rfl (by decide) ev6) ?_
    exact ey_ret hg hT
  · replace hg := it_neg cd hg
    refine ey_neg cd ?_
    exact ey_ret hg hT
noncomputable def t_X4_init (h : Th) (x0 : Int) : Option (Int × Th) :=
  Option.bind (tck h 4 x0) fun u1 =>
  some (0, h)
theorem h_X4_init {S : Nat → Prop} {h0 : Hp} {r : Int} {t' : Th} {h : Hp} {t : Th} {x0 : Int} (hT : HT S h0 h t) (hg : t_X4_init t x0 = some (r, t')) : ∃ h', f_X4_init h x0 = some (r, h') ∧ HT S h0 h' t' := by
  unfold t_X4_init at hg
  unfold f_X4_init
  obtain ⟨u1, eu1, hg⟩ := bd hg
  refine ey_bind (ht_ck hT eu1) ?_
  exact ey_ret hg hT
noncomputable def t_X4_putFirst_j28 (h : Th) (x0 x1 : Int) : Option (Int × Th) :=
  Option.bind (tpt h 4 0 x0 x1) fun h7 =>
  some (0, h7)
theorem h_X4_putFirst_j28 {S : Nat → Prop} {h0 : Hp} {r : Int} {t' : Th} {h : Hp} {t : Th} {x0 x1 : Int} (hT : HT S h0 h t) (hg : t_X4_putFirst_j28 t x0 x1 = some (r, t')) : ∃ h', f_X4_putFirst_j28 h x0 x1 = some (r, h') ∧ HT S h0 h' t' := by
  unfold t_X4_putFirst_j28 at hg
  unfold f_X4_putFirst_j28
  obtain ⟨Nh7, eh7, hg⟩ := bd hg
  obtain ⟨h7, qh7, hT⟩ := ht_put hT (by decide) eh7
  refine ey_bind qh7 ?_
  exact ey_ret hg hT
noncomputable def t_X4_putFirst (h : Th) (x0 x1 : Int) : Option (Int × Th) :=
  Option.bind (tpt h 3 5 x1 (-1)) fun h1 =>
  Option.bind (tgt h1 4 0 x0) fun v2 =>
  Option.bind (tpt h1 3 6 x1 v2) fun h3 =>
  Option.bind (tgt h3 4 0 x0) fun v4 =>
  if v4 < 0 then (
    t_X4_putFirst_j28 h3 x0 x1
  ) else (
    Option.bind (tgt h3 4 0 x0) fun v5 =>
    Option.bind (tpt h3 3 5 v5 x1) fun h6 =>
    t_X4_putFirst_j28 h6 x0 x1
  )
theorem h_X4_putFirst {S : Nat → Prop} {h0 : Hp} {r : Int} {t' : Th} {h : Hp} {t : Th} {x0 x1 : Int} (hT : HT S h0 h t) (hg : t_X4_putFirst t x0 x1 = some (r, t')) : ∃ h', f_X4_putFirst h x0 x1 = some (r, h') ∧ HT S h0 h' t' := by
  unfold t_X4_putFirst at hg
  unfold f_X4_putFirst
  obtain ⟨Nh1, eh1, hg⟩ := bd hg
  obtain ⟨h1, qh1, hT⟩ := ht_put hT (by decide) eh1
  refine ey_bind qh1 ?_
  obtain ⟨v2, ev2, hg⟩ := bd hg
  refine ey_bind (ht_get hT rfl ev2) ?_
  obtain ⟨Nh3, eh3, hg⟩ := bd hg
  obtain ⟨h3, qh3, hT⟩ := ht_put hT (by decide) eh3
  refine ey_bind qh3 ?_
  obtain ⟨v4, ev4, hg⟩ := bd hg
  refine ey_bind (ht_get hT rfl ev4) ?_
  by_cases cd : v4 < 0
  · replace hg := it_pos cd hg
    refine ey_pos cd ?_
    exact h_X4_putFirst_j28 hT hg
  · replace hg := it_neg cd hg
    refine ey_neg cd ?_
    obtain ⟨v5, ev5, hg⟩ := bd hg
    refine ey_bind (ht_get hT rfl ev5) ?_
    obtain ⟨Nh6, eh6, hg⟩ := bd hg
    obtain ⟨h6, qh6, hT⟩ := ht_put hT (by decide) eh6
    refine ey_bind qh6 ?_
    exact h_X4_putFirst_j28 hT hg
noncomputable def t_X4_remove_j47 (h : Th) (x1 : Int) : Option (Int × Th) :=
  Option.bind (tpt h 3 5 x1 (-1)) fun h11 =>
  Option.bind (tpt h11 3 6 x1 (-1)) fun h12 =>
  some (0, h12)
theorem h_X4_remove_j47 {S : Nat → Prop} {h0 : Hp} {r : Int} {t' : Th} {h : Hp} {t : Th} {x1 : Int} (hT : HT S h0 h t) (hg : t_X4_remove_j47 t x1 = some (r, t')) : ∃ h', f_X4_remove_j47 h x1 = some (r, h') ∧ HT S h0 h' t' := by
  unfold t_X4_remove_j47 at hg
  unfold f_X4_remove_j47
  obtain ⟨Nh11, eh11, hg⟩ := bd hg
  obtain ⟨h11, qh11, hT⟩ := ht_put hT (by decide) eh11
  refine ey_bind qh11 ?_
  obtain ⟨Nh12, eh12, hg⟩ := bd hg
  obtain ⟨h12, qh12, hT⟩ := ht_put hT (by decide) eh12
  refine ey_bind qh12 ?_
  exact ey_ret hg hT
noncomputable def t_X4_remove_j29 (h : Th) (x1 : Int) : Option (Int × Th) :=
  Option.bind (tgt h 3 6 x1) fun v7 =>
  if v7 < 0 then (
    t_X4_remove_j47 h x1
  ) else (
    Option.bind (tgt h 3 6 x1) fun v8 =>
    Option.bind (tgt h 3 5 x1) fun v9 =>
    Option.bind (tpt h 3 5 v8 v9) fun h10 =>
    t_X4_remove_j47 h10 x1
  )
theorem h_X4_remove_j29 {S : Nat → Prop} {h0 : Hp} {r : Int} {t' : Th} {h : Hp} {t : Th} {x1 : Int} (hT : HT S h0 h t) (hg : t_X4_remove_j29 t x1 = some (r, t')) : ∃ h', f_X4_remove_j29 h x1 = some (r, h') ∧ HT S h0 h' t' := by
  unfold t_X4_remove_j29 at hg
  unfold f_X4_remove_j29
  obtain ⟨v7, ev7, hg⟩ := bd hg
  refine ey_bind (ht_get hT rfl ev7) ?_
  by_cases cd : v7 < 0
  · replace hg := it_pos cd hg
    refine ey_pos cd ?_
    exact h_X4_remove_j47 hT hg
  · replace hg := it_neg cd hg
    refine ey_neg cd ?_
    obtain ⟨v8, ev8, hg⟩ := bd hg
    refine ey_bind (ht_get hT rfl ev8) ?_
    obtain ⟨v9, ev9, hg⟩ := bd hg
    refine ey_bind (ht_get hT rfl ev9) ?_
    obtain ⟨Nh10, eh10, hg⟩ := bd hg
    obtain ⟨h10, qh10, hT⟩ := ht_put hT (by decide) eh10
    refine ey_bind qh10 ?_
    exact h_X4_remove_j47 hT hg
noncomputable def t_X4_remove (h : Th) (x0 x1 : Int) : Option (Int × Th) :=
  Option.bind (tgt h 3 5 x1) fun v1 =>
  if 0 ≤ v1 then (
    Option.bind (tgt h 3 5 x1) fun v2 =>
    Option.bind (tgt h 3 6 x1) fun v3 =>
    Option.bind (tpt h 3 6 v2 v3) fun h4 =>
    t_X4_remove_j29 h4 x1
  ) else (
    Option.bind (tgt h 3 6 x1) fun v5 =>
    Option.bind (tpt h 4 0 x0 v5) fun h6 =>
    t_X4_remove_j29 h6 x1
  )
theorem h_X4_remove {S : Nat → Prop} {h0 : Hp} {r : Int} {t' : Th} {h : Hp} {t : Th} {x0 x1 : Int} (hT : HT S h0 h t) (hg : t_X4_remove t x0 x1 = some (r, t')) : ∃ h', f_X4_remove h x0 x1 = some (r, h') ∧ HT S h0 h' t' := by
  unfold t_X4_remove at hg
  unfold f_X4_remove
  obtain ⟨v1, ev1, hg⟩ := bd hg
  refine ey_bind (ht_get hT rfl ev1) ?_
  by_cases cd : 0 ≤ v1
  · replace hg := it_pos cd hg
    refine ey_pos cd ?_
    obtain ⟨v2, ev2, hg⟩ := bd hg
    refine ey_bind (ht_get hT rfl ev2) ?_
    obtain ⟨v3, ev3, hg⟩ := bd hg
    refine ey_bind (ht_get hT rfl ev3) ?_
    obtain ⟨Nh4, eh4, hg⟩ := bd hg
    obtain ⟨h4, qh4, hT⟩ := ht_put hT (by decide) eh4
    refine ey_bind qh4 ?_
    exact h_X4_remove_j29 hT hg
  · replace hg := it_neg cd hg
    refine ey_neg cd ?_
    obtain ⟨v5, ev5, hg⟩ := bd hg
    refine ey_bind (ht_get hT rfl ev5) ?_
    obtain ⟨Nh6, eh6, hg⟩ := bd hg
    obtain ⟨h6, qh6, hT⟩ := ht_put hT (by decide) eh6
    refine ey_bind qh6 ?_
    exact h_X4_remove_j29 hT hg
noncomputable def t_X4_slabAtPlace_j32 (h : Th) (x3 : Int) : Option (Int × Th) :=
  some (x3, h)
theorem h_X4_slabAtPlace_j32 {S : Nat → Prop} {h0 : Hp} {r : Int} {t' : Th} {h : Hp} {t : Th} {x3 : Int} (hT : HT S h0 h t) (hg : t_X4_slabAtPlace_j32 t x3 = some (r, t')) : ∃ h', f_X4_slabAtPlace_j32 h x3 = some (r, h') ∧ HT S h0 h' t' := by
  unfold t_X4_slabAtPlace_j32 at hg
  unfold f_X4_slabAtPlace_j32
  exact ey_ret hg hT
noncomputable def t_X4_slabAtPlace_s13 (k13 : Th → Int → Int → Option (Int × Th)) (h : Th) (x2 x3 : Int) : Option (Int × Th) :=
  if x3 < 0 then (
    t_X4_slabAtPlace_j32 h x3
  ) else (
    if x2 ≤ 0 then (
      t_X4_slabAtPlace_j32 h x3
    ) else (
      Option.bind (tgt h 3 6 x3) fun v2 =>
      k13 h (wr (x2 + (-1))) v2
    )
  )
noncomputable def t_X4_slabAtPlace_b13 : Nat → Th → Int → Int → Option (Int × Th)
  | 0, _, _, _ => none
  | n + 1, h, x2, x3 => t_X4_slabAtPlace_s13 (t_X4_slabAtPlace_b13 n) h x2 x3
theorem h_X4_slabAtPlace_s13 {S : Nat → Prop} {h0 : Hp} {r : Int} {t' : Th} {kg13 : Th → Int → Int → Option (Int × Th)} {kf13 : Hp → Int → Int → Option (Int × Hp)} (hk13 : ∀ {h : Hp} {t : Th} {x2 x3 : Int}, HT S h0 h t → kg13 t x2 x3 = some (r, t') → ∃ h', kf13 h x2 x3 = some (r, h') ∧ HT S h0 h' t') {h : Hp} {t : Th} {x2 x3 : Int} (hT : HT S h0 h t) (hg : t_X4_slabAtPlace_s13 kg13 t x2 x3 = some (r, t')) : ∃ h', f_X4_slabAtPlace_s13 kf13 h x2 x3 = some (r, h') ∧ HT S h0 h' t' := by
  unfold t_X4_slabAtPlace_s13 at hg
  unfold f_X4_slabAtPlace_s13
  by_cases cd : x3 < 0
  · replace hg := it_pos cd hg
    refine ey_pos cd ?_
    exact h_X4_slabAtPlace_j32 hT hg
  · replace hg := it_neg cd hg
    refine ey_neg cd ?_
    by_cases cd : x2 ≤ 0
    · replace hg := it_pos cd hg
      refine ey_pos cd ?_
      exact h_X4_slabAtPlace_j32 hT hg
    · replace hg := it_neg cd hg
      refine ey_neg cd ?_
      obtain ⟨v2, ev2, hg⟩ := bd hg
      refine ey_bind (ht_get hT rfl ev2) ?_
      exact hk13 hT hg
theorem h_X4_slabAtPlace_b13 {S : Nat → Prop} {h0 : Hp} {r : Int} {t' : Th} {n : Nat} {h : Hp} {t : Th} {x2 x3 : Int} (hT : HT S h0 h t) (hg : t_X4_slabAtPlace_b13 n t x2 x3 = some (r, t')) : ∃ h', f_X4_slabAtPlace_b13 n h x2 x3 = some (r, h') ∧ HT S h0 h' t' := by
  induction n generalizing h t x2 x3 with
  | zero => exact absurd hg (fun q => nomatch (show (none : Option (Int × Th)) = some (r, t') from q))
  | succ n ih => exact h_X4_slabAtPlace_s13 @ih hT hg
noncomputable def t_X4_slabAtPlace (h : Th) (x0 x1 : Int) : Option (Int × Th) :=
  if 0 ≤ x1 then (
    Option.bind (tgt h 4 0 x0) fun v1 =>
    t_X4_slabAtPlace_b13 fuel h x1 v1
  ) else (
    some ((-1), h)
  )
theorem h_X4_slabAtPlace {S : Nat → Prop} {h0 : Hp} {r : Int} {t' : Th} {h : Hp} {t : Th} {x0 x1 : Int} (hT : HT S h0 h t) (hg : t_X4_slabAtPlace t x0 x1 = some (r, t')) : ∃ h', f_X4_slabAtPlace h x0 x1 = some (r, h') ∧ HT S h0 h' t' := by
  unfold t_X4_slabAtPlace at hg
  unfold f_X4_slabAtPlace
  by_cases cd : 0 ≤ x1
  · replace hg := it_pos cd hg
    refine ey_pos cd ?_
    obtain ⟨v1, ev1, hg⟩ := bd hg
    refine ey_bind (ht_get hT rfl ev1) ?_
    exact h_X4_slabAtPlace_b13 hT hg
  · replace hg := it_neg cd hg
    refine ey_neg cd ?_
    exact ey_ret hg hT
noncomputable def t_X3_firstByte (h : Th) (x0 : Int) : Option (Int × Th) :=
  Option.bind (tgt h 3 1 x0) fun v1 =>
  some (wr (v1 * 1024), h)
theorem h_X3_firstByte {S : Nat → Prop} {h0 : Hp} {r : Int} {t' : Th} {h : Hp} {t : Th} {x0 : Int} (hT : HT S h0 h t) (hg : t_X3_firstByte t x0 = some (r, t')) : ∃ h', f_X3_firstByte h x0 = some (r, h') ∧ HT S h0 h' t' := by
  unfold t_X3_firstByte at hg
  unfold f_X3_firstByte
  obtain ⟨v1, ev1, hg⟩ := bd hg
  refine ey_bind (ht_get hT rfl ev1) ?_
  exact ey_ret hg hT
noncomputable def t_X3_beginOf (h : Th) (x0 x1 : Int) : Option (Int × Th) :=
  Option.bind (tck h 3 x0) fun u2 =>
  Option.bind (t_X3_firstByte h x0) fun r1 =>
  Option.bind (tgt r1.2 3 2 x0) fun v3 =>
  Option.bind (tgt r1.2 3 0 x0) fun v4 =>
  Option.bind (tgt r1.2 1 2 v4) fun v5 =>
  Option.bind (tgt r1.2 3 0 x0) fun v6 =>
  Option.bind (tgt r1.2 1 5 v6) fun v7 =>
  some (wr ((wr (r1.1 + (wr (v3 * v5)))) + (wr (x1 * v7))), r1.2)
theorem h_X3_beginOf {S : Nat → Prop} {h0 : Hp} {r : Int} {t' : Th} {h : Hp} {t : Th} {x0 x1 : Int} (hT : HT S h0 h t) (hg : t_X3_beginOf t x0 x1 = some (r, t')) : ∃ h', f_X3_beginOf h x0 x1 = some (r, h') ∧ HT S h0 h' t' := by
  unfold t_X3_beginOf at hg
  unfold f_X3_beginOf
  obtain ⟨u2, eu2, hg⟩ := bd hg
  refine ey_bind (ht_ck hT eu2) ?_
  obtain ⟨r1, er1, hg⟩ := bd hg
  obtain ⟨hr1, qr1, hT⟩ := h_X3_firstByte hT er1
  refine ey_bind qr1 ?_
  obtain ⟨v3, ev3, hg⟩ := bd hg
  refine ey_bind (ht_get hT rfl ev3) ?_
  obtain ⟨v4, ev4, hg⟩ := bd hg
  refine ey_bind (ht_get hT rfl ev4) ?_
  obtain ⟨v5, ev5, hg⟩ := bd hg
  refine ey_bind (ht_get hT rfl ev5) ?_
  obtain ⟨v6, ev6, hg⟩ := bd hg
  refine ey_bind (ht_get hT rfl ev6) ?_
  obtain ⟨v7, ev7, hg⟩ := bd hg
  refine ey_bind (ht_get hT rfl ev7) ?_
  exact ey_ret hg hT
noncomputable def t_X3_numberOver_j22 (h : Th) : Option (Int × Th) :=
  some ((-1), h)
theorem h_X3_numberOver_j22 {S : Nat → Prop} {h0 : Hp} {r : Int} {t' : Th} {h : Hp} {t : Th} (hT : HT S h0 h t) (hg : t_X3_numberOver_j22 t  = some (r, t')) : ∃ h', f_X3_numberOver_j22 h  = some (r, h') ∧ HT S h0 h' t' := by
  unfold t_X3_numberOver_j22 at hg
  unfold f_X3_numberOver_j22
  exact ey_ret hg hT
noncomputable def t_X3_numberOver_j50 (h : Th) (s0 : Int) : Option (Int × Th) :=
  some (s0, h)
theorem h_X3_numberOver_j50 {S : Nat → Prop} {h0 : Hp} {r : Int} {t' : Th} {h : Hp} {t : Th} {s0 : Int} (hT : HT S h0 h t) (hg : t_X3_numberOver_j50 t s0 = some (r, t')) : ∃ h', f_X3_numberOver_j50 h s0 = some (r, h') ∧ HT S h0 h' t' := by
  unfold t_X3_numberOver_j50 at hg
  unfold f_X3_numberOver_j50
  exact ey_ret hg hT
noncomputable def t_X3_numberOver (h : Th) (x0 x1 : Int) : Option (Int × Th) :=
  Option.bind (tck h 3 x0) fun u2 =>
  Option.bind (t_X3_beginOf h x0 0) fun r1 =>
  if (wr (x1 - r1.1)) < 0 then (
    t_X3_numberOver_j22 r1.2
  ) else (
    Option.bind (tgt r1.2 3 0 x0) fun v3 =>
    Option.bind (tgt r1.2 1 5 v3) fun v4 =>
    if 0 < v4 then (
      Option.bind (tgt r1.2 3 0 x0) fun v5 =>
      Option.bind (tgt r1.2 1 5 v5) fun v6 =>
      Option.bind (idv (wr (x1 - r1.1)) v6) fun v7 =>
      Option.bind (tgt r1.2 3 0 x0) fun v8 =>
      Option.bind (tgt r1.2 1 6 v8) fun v9 =>
      if v9 ≤ v7 then (
        t_X3_numberOver_j50 r1.2 (-1)
      ) else (
        t_X3_numberOver_j50 r1.2 v7
      )
    ) else (
      t_X3_numberOver_j22 r1.2
    )
  )
theorem h_X3_numberOver {S : Nat → Prop} {h0 : Hp} {r : Int} {t' : Th} {h : Hp} {t : Th} {x0 x1 : Int} (hT : HT S h0 h t) (hg : t_X3_numberOver t x0 x1 = some (r, t')) : ∃ h', f_X3_numberOver h x0 x1 = some (r, h') ∧ HT S h0 h' t' := by
  unfold t_X3_numberOver at hg
  unfold f_X3_numberOver
  obtain ⟨u2, eu2, hg⟩ := bd hg
  refine ey_bind (ht_ck hT eu2) ?_
  obtain ⟨r1, er1, hg⟩ := bd hg
  obtain ⟨hr1, qr1, hT⟩ := h_X3_beginOf hT er1
  refine ey_bind qr1 ?_
  by_cases cd : (wr (x1 - r1.1)) < 0
  · replace hg := it_pos cd hg
    refine ey_pos cd ?_
    exact h_X3_numberOver_j22 hT hg
  · replace hg := it_neg cd hg
    refine ey_neg cd ?_
    obtain ⟨v3, ev3, hg⟩ := bd hg
    refine ey_bind (ht_get hT rfl ev3) ?_
    obtain ⟨v4, ev4, hg⟩ := bd hg
    refine ey_bind (ht_get hT rfl ev4) ?_
    by_cases cd : 0 < v4
    · replace hg := it_pos cd hg
      refine ey_pos cd ?_
      obtain ⟨v5, ev5, hg⟩ := bd hg
      refine ey_bind (ht_get hT rfl ev5) ?_
      obtain ⟨v6, ev6, hg⟩ := bd hg
      refine ey_bind (ht_get hT rfl ev6) ?_
      obtain ⟨v7, ev7, hg⟩ := bd hg
      refine ey_bind (ev7) ?_
      obtain ⟨v8, ev8, hg⟩ := bd hg
      refine ey_bind (ht_get hT rfl ev8) ?_
      obtain ⟨v9, ev9, hg⟩ := bd hg
      refine ey_bind (ht_get hT rfl ev9) ?_
      by_cases cd : v9 ≤ v7
      · replace hg := it_pos cd hg
        refine ey_pos cd ?_
        exact h_X3_numberOver_j50 hT hg
      · replace hg := it_neg cd hg
        refine ey_neg cd ?_
        exact h_X3_numberOver_j50 hT hg
    · replace hg := it_neg cd hg
      refine ey_neg cd ?_
      exact h_X3_numberOver_j22 hT hg
noncomputable def t_X3_wasTaken_j17 (h : Th) (s0 : Int) : Option (Int × Th) :=
  rtT s0 h
theorem h_X3_wasTaken_j17 {S : Nat → Prop} {h0 : Hp} {r : Int} {t' : Th} {h : Hp} {t : Th} {s0 : Int} (hT : HT S h0 h t) (hg : t_X3_wasTaken_j17 t s0 = some (r, t')) : ∃ h', f_X3_wasTaken_j17 h s0 = some (r, h') ∧ HT S h0 h' t' := by
  unfold t_X3_wasTaken_j17 at hg
  unfold f_X3_wasTaken_j17
  exact ey_rtB (P := HT S h0) hg hT
noncomputable def t_X3_wasTaken_j16 (h : Th) : Option (Int × Th) :=
  t_X3_wasTaken_j17 h 0
theorem h_X3_wasTaken_j16 {S : Nat → Prop} {h0 : Hp} {r : Int} {t' : Th} {h : Hp} {t : Th} (hT : HT S h0 h t) (hg : t_X3_wasTaken_j16 t  = some (r, t')) : ∃ h', f_X3_wasTaken_j16 h  = some (r, h') ∧ HT S h0 h' t' := by
  unfold t_X3_wasTaken_j16 at hg
  unfold f_X3_wasTaken_j16
  exact h_X3_wasTaken_j17 hT hg
noncomputable def t_X3_wasTaken (h : Th) (x0 x1 : Int) : Option (Int × Th) :=
  if x1 < 0 then (
    t_X3_wasTaken_j16 h
  ) else (
    Option.bind (tgt h 3 7 x0) fun v1 =>
    if v1 ≤ x1 then (
      t_X3_wasTaken_j16 h
    ) else (
      t_X3_wasTaken_j17 h 1
    )
  )
theorem h_X3_wasTaken {S : Nat → Prop} {h0 : Hp} {r : Int} {t' : Th} {h : Hp} {t : Th} {x0 x1 : Int} (hT : HT S h0 h t) (hg : t_X3_wasTaken t x0 x1 = some (r, t')) : ∃ h', f_X3_wasTaken h x0 x1 = some (r, h') ∧ HT S h0 h' t' := by
  unfold t_X3_wasTaken at hg
  unfold f_X3_wasTaken
  by_cases cd : x1 < 0
  · replace hg := it_pos cd hg
    refine ey_pos cd ?_
    exact h_X3_wasTaken_j16 hT hg
  · replace hg := it_neg cd hg
    refine ey_neg cd ?_
    obtain ⟨v1, ev1, hg⟩ := bd hg
    refine ey_bind (ht_get hT rfl ev1) ?_
    by_cases cd : v1 ≤ x1
    · replace hg := it_pos cd hg
      refine ey_pos cd ?_
      exact h_X3_wasTaken_j16 hT hg
    · replace hg := it_neg cd hg
      refine ey_neg cd ?_
      exact h_X3_wasTaken_j17 hT hg
noncomputable def t_X3_isLive_j24 (h : Th) (s0 : Int) : Option (Int × Th) :=
  rtT s0 h
theorem h_X3_isLive_j24 {S : Nat → Prop} {h0 : Hp} {r : Int} {t' : Th} {h : Hp} {t : Th} {s0 : Int} (hT : HT S h0 h t) (hg : t_X3_isLive_j24 t s0 = some (r, t')) : ∃ h', f_X3_isLive_j24 h s0 = some (r, h') ∧ HT S h0 h' t' := by
  unfold t_X3_isLive_j24 at hg
  unfold f_X3_isLive_j24
  exact ey_rtB (P := HT S h0) hg hT
noncomputable def t_X3_isLive_j23 (h : Th) : Option (Int × Th) :=
  t_X3_isLive_j24 h 0
theorem h_X3_isLive_j23 {S : Nat → Prop} {h0 : Hp} {r : Int} {t' : Th} {h : Hp} {t : Th} (hT : HT S h0 h t) (hg : t_X3_isLive_j23 t  = some (r, t')) : ∃ h', f_X3_isLive_j23 h  = some (r, h') ∧ HT S h0 h' t' := by
  unfold t_X3_isLive_j23 at hg
  unfold f_X3_isLive_j23
  exact h_X3_isLive_j24 hT hg
noncomputable def t_X3_isLive (h : Th) (x0 x1 : Int) : Option (Int × Th) :=
  Option.bind (tck h 3 x0) fun u2 =>
  Option.bind (t_X3_wasTaken h x0 x1) fun r1 =>
  if r1.1 = 0 then (
    t_X3_isLive_j23 r1.2
  ) else (
    Option.bind (trf r1.2 3 9 x0) fun v3 =>
    Option.bind (tal r1.2 3 9 x0 v3 x1) fun v4 =>
    if v4 ≠ (-2) then (
      t_X3_isLive_j23 r1.2
    ) else (
      t_X3_isLive_j24 r1.2 1
    )
  )
theorem h_X3_isLive {S : Nat → Prop} {h0 : Hp} {r : Int} {t' : Th} {h : Hp} {t : Th} {x0 x1 : Int} (hT : HT S h0 h t) (hg : t_X3_isLive t x0 x1 = some (r, t')) : ∃ h', f_X3_isLive h x0 x1 = some (r, h') ∧ HT S h0 h' t' := by
  unfold t_X3_isLive at hg
  unfold f_X3_isLive
  obtain ⟨u2, eu2, hg⟩ := bd hg
  refine ey_bind (ht_ck hT eu2) ?_
  obtain ⟨r1, er1, hg⟩ := bd hg
  obtain ⟨hr1, qr1, hT⟩ := h_X3_wasTaken hT er1
  refine ey_bind qr1 ?_
  by_cases cd : r1.1 = 0
  · replace hg := it_pos cd hg
    refine ey_pos cd ?_
    exact h_X3_isLive_j23 hT hg
  · replace hg := it_neg cd hg
    refine ey_neg cd ?_
    obtain ⟨v3, ev3, hg⟩ := bd hg
    refine ey_bind (ht_ref hT (by decide) ev3) ?_
    obtain ⟨v4, ev4, hg⟩ := bd hg
    refine ey_bind (ht_ald hT (kd := 8) rfl (by decide) ev4) ?_
    by_cases cd : v4 ≠ (-2)
    · replace hg := it_pos cd hg
      refine ey_pos cd ?_
      exact h_X3_isLive_j23 hT hg
    · replace hg := it_neg cd hg
      refine ey_neg cd ?_
      exact h_X3_isLive_j24 hT hg
noncomputable def t_X3_liveBeginsAt_j28 (h : Th) (s0 : Int) : Option (Int × Th) :=
  rtT s0 h
theorem h_X3_liveBeginsAt_j28 {S : Nat → Prop} {h0 : Hp} {r : Int} {t' : Th} {h : Hp} {t : Th} {s0 : Int} (hT : HT S h0 h t) (hg : t_X3_liveBeginsAt_j28 t s0 = some (r, t')) : ∃ h', f_X3_liveBeginsAt_j28 h s0 = some (r, h') ∧ HT S h0 h' t' := by
  unfold t_X3_liveBeginsAt_j28 at hg
  unfold f_X3_liveBeginsAt_j28
  exact ey_rtB (P := HT S h0) hg hT
noncomputable def t_X3_liveBeginsAt_j27 (h : Th) : Option (Int × Th) :=
  t_X3_liveBeginsAt_j28 h 0
theorem h_X3_liveBeginsAt_j27 {S : Nat → Prop} {h0 : Hp} {r : Int} {t' : Th} {h : Hp} {t : Th} (hT : HT S h0 h t) (hg : t_X3_liveBeginsAt_j27 t  = some (r, t')) : ∃ h', f_X3_liveBeginsAt_j27 h  = some (r, h') ∧ HT S h0 h' t' := by
  unfold t_X3_liveBeginsAt_j27 at hg
  unfold f_X3_liveBeginsAt_j27
  exact h_X3_liveBeginsAt_j28 hT hg
noncomputable def t_X3_liveBeginsAt (h : Th) (x0 x1 : Int) : Option (Int × Th) :=
  Option.bind (tck h 3 x0) fun u2 =>
  Option.bind (t_X3_numberOver h x0 x1) fun r1 =>
  Option.bind (tck r1.2 3 x0) fun u4 =>
  Option.bind (t_X3_isLive r1.2 x0 r1.1) fun r3 =>
  if r3.1 = 0 then (
    t_X3_liveBeginsAt_j27 r3.2
  ) else (
    Option.bind (tck r3.2 3 x0) fun u6 =>
    Option.bind (t_X3_beginOf r3.2 x0 r1.1) fun r5 =>
    if r5.1 ≠ x1 then (
      t_X3_liveBeginsAt_j27 r5.2
    ) else (
      t_X3_liveBeginsAt_j28 r5.2 1
    )
  )
theorem h_X3_liveBeginsAt {S : Nat → Prop} {h0 : Hp} {r : Int} {t' : Th} {h : Hp} {t : Th} {x0 x1 : Int} (hT : HT S h0 h t) (hg : t_X3_liveBeginsAt t x0 x1 = some (r, t')) : ∃ h', f_X3_liveBeginsAt h x0 x1 = some (r, h') ∧ HT S h0 h' t' := by
  unfold t_X3_liveBeginsAt at hg
  unfold f_X3_liveBeginsAt
  obtain ⟨u2, eu2, hg⟩ := bd hg
  refine ey_bind (ht_ck hT eu2) ?_
  obtain ⟨r1, er1, hg⟩ := bd hg
  obtain ⟨hr1, qr1, hT⟩ := h_X3_numberOver hT er1
  refine ey_bind qr1 ?_
  obtain ⟨u4, eu4, hg⟩ := bd hg
  refine ey_bind (ht_ck hT eu4) ?_
  obtain ⟨r3, er3, hg⟩ := bd hg
  obtain ⟨hr3, qr3, hT⟩ := h_X3_isLive hT er3
  refine ey_bind qr3 ?_
  by_cases cd : r3.1 = 0
  · replace hg := it_pos cd hg
    refine ey_pos cd ?_
    exact h_X3_liveBeginsAt_j27 hT hg
  · replace hg := it_neg cd hg
    refine ey_neg cd ?_
    obtain ⟨u6, eu6, hg⟩ := bd hg
    refine ey_bind (ht_ck hT eu6) ?_
    obtain ⟨r5, er5, hg⟩ := bd hg
    obtain ⟨hr5, qr5, hT⟩ := h_X3_beginOf hT er5
    refine ey_bind qr5 ?_
    by_cases cd : r5.1 ≠ x1
    · replace hg := it_pos cd hg
      refine ey_pos cd ?_
      exact h_X3_liveBeginsAt_j27 hT hg
    · replace hg := it_neg cd hg
      refine ey_neg cd ?_
      exact h_X3_liveBeginsAt_j28 hT hg
noncomputable def t_X3_markOf_j24 (h : Th) (s0 : Int) : Option (Int × Th) :=
  some (s0, h)
theorem h_X3_markOf_j24 {S : Nat → Prop} {h0 : Hp} {r : Int} {t' : Th} {h : Hp} {t : Th} {s0 : Int} (hT : HT S h0 h t) (hg : t_X3_markOf_j24 t s0 = some (r, t')) : ∃ h', f_X3_markOf_j24 h s0 = some (r, h') ∧ HT S h0 h' t' := by
  unfold t_X3_markOf_j24 at hg
  unfold f_X3_markOf_j24
  exact ey_ret hg hT
noncomputable def t_X3_markOf (h : Th) (x0 x1 : Int) : Option (Int × Th) :=
  Option.bind (tck h 3 x0) fun u2 =>
  Option.bind (t_X3_wasTaken h x0 x1) fun r1 =>
  if r1.1 = 0 then (
    Option.bind (tgt r1.2 3 0 x0) fun v3 =>
    Option.bind (tgt r1.2 1 4 v3) fun v4 =>
    t_X3_markOf_j24 r1.2 v4
  ) else (
    Option.bind (trf r1.2 3 10 x0) fun v5 =>
    Option.bind (tal r1.2 3 10 x0 v5 x1) fun v6 =>
    t_X3_markOf_j24 r1.2 v6
  )
theorem h_X3_markOf {S : Nat → Prop} {h0 : Hp} {r : Int} {t' : Th} {h : Hp} {t : Th} {x0 x1 : Int} (hT : HT S h0 h t) (hg : t_X3_markOf t x0 x1 = some (r, t')) : ∃ h', f_X3_markOf h x0 x1 = some (r, h') ∧ HT S h0 h' t' := by
  unfold t_X3_markOf at hg
  unfold f_X3_markOf
  obtain ⟨u2, eu2, hg⟩ := bd hg
  refine ey_bind (ht_ck hT eu2) ?_
  obtain ⟨r1, er1, hg⟩ := bd hg
  obtain ⟨hr1, qr1, hT⟩ := h_X3_wasTaken hT er1
  refine ey_bind qr1 ?_
  by_cases cd : r1.1 = 0
  · replace hg := it_pos cd hg
    refine ey_pos cd ?_
    obtain ⟨v3, ev3, hg⟩ := bd hg
    refine ey_bind (ht_get hT rfl ev3) ?_
    obtain ⟨v4, ev4, hg⟩ := bd hg
    refine ey_bind (ht_get hT rfl ev4) ?_
    exact h_X3_markOf_j24 hT hg
  · replace hg := it_neg cd hg
    refine ey_neg cd ?_
    obtain ⟨v5, ev5, hg⟩ := bd hg
    refine ey_bind (ht_ref hT (by decide) ev5) ?_
    obtain ⟨v6, ev6, hg⟩ := bd hg
    refine ey_bind (ht_ald hT (kd := 8) rfl (by decide) ev6) ?_
    exact h_X3_markOf_j24 hT hg
noncomputable def t_X3_changeMark_j21 (h : Th) (x3 : Int) : Option (Int × Th) :=
  some (x3, h)
theorem h_X3_changeMark_j21 {S : Nat → Prop} {h0 : Hp} {r : Int} {t' : Th} {h : Hp} {t : Th} {x3 : Int} (hT : HT S h0 h t) (hg : t_X3_changeMark_j21 t x3 = some (r, t')) : ∃ h', f_X3_changeMark_j21 h x3 = some (r, h') ∧ HT S h0 h' t' := by
  unfold t_X3_changeMark_j21 at hg
  unfold f_X3_changeMark_j21
  exact ey_ret hg hT
noncomputable def t_X3_changeMark (h : Th) (x0 x1 x2 : Int) : Option (Int × Th) :=
  Option.bind (tck h 3 x0) fun u2 =>
  Option.bind (t_X3_markOf h x0 x1) fun r1 =>
  Option.bind (tck r1.2 3 x0) fun u4 =>
  Option.bind (t_X3_wasTaken r1.2 x0 x1) fun r3 =>
  if r3.1 = 0 then (
    t_X3_changeMark_j21 r3.2 r1.1
  ) else (
    Option.bind (trf r3.2 3 10 x0) fun v5 =>
    Option.bind (tas r3.2 3 10 x0 v5 x1 x2) fun h6 =>
    t_X3_changeMark_j21 h6 r1.1
  )
theorem h_X3_changeMark {S : Nat → Prop} {h0 : Hp} {r : Int} {t' : Th} {h : Hp} {t : Th} {x0 x1 x2 : Int} (hT : HT S h0 h t) (hg : t_X3_changeMark t x0 x1 x2 = some (r, t')) : ∃ h', f_X3_changeMark h x0 x1 x2 = some (r, h') ∧ HT S h0 h' t' := by
  unfold t_X3_changeMark at hg
  unfold f_X3_changeMark
  obtain ⟨u2, eu2, hg⟩ := bd hg
  refine ey_bind (ht_ck hT eu2) ?_
  obtain ⟨r1, er1, hg⟩ := bd hg
  obtain ⟨hr1, qr1, hT⟩ := h_X3_markOf hT er1
  refine ey_bind qr1 ?_
  obtain ⟨u4, eu4, hg⟩ := bd hg
  refine ey_bind (ht_ck hT eu4) ?_
  obtain ⟨r3, er3, hg⟩ := bd hg
  obtain ⟨hr3, qr3, hT⟩ := h_X3_wasTaken hT er3
  refine ey_bind qr3 ?_
  by_cases cd : r3.1 = 0
  · replace hg := it_pos cd hg
    refine ey_pos cd ?_
    exact h_X3_changeMark_j21 hT hg
  · replace hg := it_neg cd hg
    refine ey_neg cd ?_
    obtain ⟨v5, ev5, hg⟩ := bd hg
    refine ey_bind (ht_ref hT (by decide) ev5) ?_
    obtain ⟨Nh6, eh6, hg⟩ := bd hg
    obtain ⟨h6, qh6, hT⟩ := ht_ast hT (kd := 8) rfl (by decide) eh6
    refine ey_bind qh6 ?_
    exact h_X3_changeMark_j21 hT hg
noncomputable def t_X3_kind_j28 (h : Th) (s0 : Int) : Option (Int × Th) :=
  some (s0, h)
theorem h_X3_kind_j28 {S : Nat → Prop} {h0 : Hp} {r : Int} {t' : Th} {h : Hp} {t : Th} {s0 : Int} (hT : HT S h0 h t) (hg : t_X3_kind_j28 t s0 = some (r, t')) : ∃ h', f_X3_kind_j28 h s0 = some (r, h') ∧ HT S h0 h' t' := by
  unfold t_X3_kind_j28 at hg
  unfold f_X3_kind_j28
  exact ey_ret hg hT
noncomputable def t_X3_kind (h : Th) (x0 : Int) : Option (Int × Th) :=
  Option.bind (tgt h 3 3 x0) fun v1 =>
  Option.bind (tgt h 3 0 x0) fun v2 =>
  Option.bind (tgt h 1 6 v2) fun v3 =>
  if v1 < v3 then (
    Option.bind (tgt h 3 3 x0) fun v4 =>
    if v4 ≠ 0 then (
      t_X3_kind_j28 h 1
    ) else (
      t_X3_kind_j28 h 2
    )
  ) else (
    some (0, h)
  )
theorem h_X3_kind {S : Nat → Prop} {h0 : Hp} {r : Int} {t' : Th} {h : Hp} {t : Th} {x0 : Int} (hT : HT S h0 h t) (hg : t_X3_kind t x0 = some (r, t')) : ∃ h', f_X3_kind h x0 = some (r, h') ∧ HT S h0 h' t' := by
  unfold t_X3_kind at hg
  unfold f_X3_kind
  obtain ⟨v1, ev1, hg⟩ := bd hg
  refine ey_bind (ht_get hT rfl ev1) ?_
  obtain ⟨v2, ev2, hg⟩ := bd hg
  refine ey_bind (ht_get hT rfl ev2) ?_
  obtain ⟨v3, ev3, hg⟩ := bd hg
  refine ey_bind (ht_get hT rfl ev3) ?_
  by_cases cd : v1 < v3
  · replace hg := it_pos cd hg
    refine ey_pos cd ?_
    obtain ⟨v4, ev4, hg⟩ := bd hg
    refine ey_bind (ht_get hT rfl ev4) ?_
    by_cases cd : v4 ≠ 0
    · replace hg := it_pos cd hg
      refine ey_pos cd ?_
      exact h_X3_kind_j28 hT hg
    · replace hg := it_neg cd hg
      refine ey_neg cd ?_
      exact h_X3_kind_j28 hT hg
  · replace hg := it_neg cd hg
    refine ey_neg cd ?_
    exact ey_ret hg hT
noncomputable def t_X3_firstFree_j35 (h : Th) (s0 : Int) : Option (Int × Th) :=
  some (s0, h)
theorem h_X3_firstFree_j35 {S : Nat → Prop} {h0 : Hp} {r : Int} {t' : Th} {h : Hp} {t : Th} {s0 : Int} (hT : HT S h0 h t) (hg : t_X3_firstFree_j35 t s0 = some (r, t')) : ∃ h', f_X3_firstFree_j35 h s0 = some (r, h') ∧ HT S h0 h' t' := by
  unfold t_X3_firstFree_j35 at hg
  unfold f_X3_firstFree_j35
  exact ey_ret hg hT
noncomputable def t_X3_firstFree (h : Th) (x0 : Int) : Option (Int × Th) :=
  Option.bind (tgt h 3 8 x0) fun v1 =>
  if v1 = (-1) then (
    Option.bind (tgt h 3 7 x0) fun v2 =>
    Option.bind (tgt h 3 0 x0) fun v3 =>
    Option.bind (tgt h 1 6 v3) fun v4 =>
    if v4 ≤ v2 then (
      t_X3_firstFree_j35 h (-1)
    ) else (
      Option.bind (tgt h 3 7 x0) fun v5 =>
      t_X3_firstFree_j35 h v5
    )
  ) else (
    Option.bind (tgt h 3 8 x0) fun v6 =>
    some (v6, h)
  )
theorem h_X3_firstFree {S : Nat → Prop} {h0 : Hp} {r : Int} {t' : Th} {h : Hp} {t : Th} {x0 : Int} (hT : HT S h0 h t) (hg : t_X3_firstFree t x0 = some (r, t')) : ∃ h', f_X3_firstFree h x0 = some (r, h') ∧ HT S h0 h' t' := by
  unfold t_X3_firstFree at hg
  unfold f_X3_firstFree
  obtain ⟨v1, ev1, hg⟩ := bd hg
  refine ey_bind (ht_get hT rfl ev1) ?_
  by_cases cd : v1 = (-1)
  · replace hg := it_pos cd hg
    refine ey_pos cd ?_
    obtain ⟨v2, ev2, hg⟩ := bd hg
    refine ey_bind (ht_get hT rfl ev2) ?_
    obtain ⟨v3, ev3, hg⟩ := bd hg
    refine ey_bind (ht_get hT rfl ev3) ?_
    obtain ⟨v4, ev4, hg⟩ := bd hg
    refine ey_bind (ht_get hT rfl ev4) ?_
    by_cases cd : v4 ≤ v2
    · replace hg := it_pos cd hg
      refine ey_pos cd ?_
      exact h_X3_firstFree_j35 hT hg
    · replace hg := it_neg cd hg
      refine ey_neg cd ?_
      obtain ⟨v5, ev5, hg⟩ := bd hg
      refine ey_bind (ht_get hT rfl ev5) ?_
      exact h_X3_firstFree_j35 hT hg
  · replace hg := it_neg cd hg
    refine ey_neg cd ?_
    obtain ⟨v6, ev6, hg⟩ := bd hg
    refine ey_bind (ht_get hT rfl ev6) ?_
    exact ey_ret hg hT
noncomputable def t_X3_become_j15 (h : Th) : Option (Int × Th) :=
  some (0, h)
theorem h_X3_become_j15 {S : Nat → Prop} {h0 : Hp} {r : Int} {t' : Th} {h : Hp} {t : Th} (hT : HT S h0 h t) (hg : t_X3_become_j15 t  = some (r, t')) : ∃ h', f_X3_become_j15 h  = some (r, h') ∧ HT S h0 h' t' := by
  unfold t_X3_become_j15 at hg
  unfold f_X3_become_j15
  exact ey_ret hg hT
noncomputable def t_X3_become (h : Th) (x0 x1 x2 : Int) : Option (Int × Th) :=
  Option.bind (tck h 3 x0) fun u2 =>
  Option.bind (t_X3_wasTaken h x0 x1) fun r1 =>
  if r1.1 = 0 then (
    t_X3_become_j15 r1.2
  ) else (
    Option.bind (trf r1.2 3 9 x0) fun v3 =>
    Option.bind (tas r1.2 3 9 x0 v3 x1 x2) fun h4 =>
    t_X3_become_j15 h4
  )
theorem h_X3_become {S : Nat → Prop} {h0 : Hp} {r : Int} {t' : Th} {h : Hp} {t : Th} {x0 x1 x2 : Int} (hT : HT S h0 h t) (hg : t_X3_become t x0 x1 x2 = some (r, t')) : ∃ h', f_X3_become h x0 x1 x2 = some (r, h') ∧ HT S h0 h' t' := by
  unfold t_X3_become at hg
  unfold f_X3_become
  obtain ⟨u2, eu2, hg⟩ := bd hg
  refine ey_bind (ht_ck hT eu2) ?_
  obtain ⟨r1, er1, hg⟩ := bd hg
  obtain ⟨hr1, qr1, hT⟩ := h_X3_wasTaken hT er1
  refine ey_bind qr1 ?_
  by_cases cd : r1.1 = 0
  · replace hg := it_pos cd hg
    refine ey_pos cd ?_
    exact h_X3_become_j15 hT hg
  · replace hg := it_neg cd hg
    refine ey_neg cd ?_
    obtain ⟨v3, ev3, hg⟩ := bd hg
    refine ey_bind (ht_ref hT (by decide) ev3) ?_
    obtain ⟨Nh4, eh4, hg⟩ := bd hg
    obtain ⟨h4, qh4, hT⟩ := ht_ast hT (kd := 8) rfl (by decide) eh4
    refine ey_bind qh4 ?_
    exact h_X3_become_j15 hT hg
noncomputable def t_X3_putFirst_j33 (h : Th) : Option (Int × Th) :=
  some (0, h)
theorem h_X3_putFirst_j33 {S : Nat → Prop} {h0 : Hp} {r : Int} {t' : Th} {h : Hp} {t : Th} (hT : HT S h0 h t) (hg : t_X3_putFirst_j33 t  = some (r, t')) : ∃ h', f_X3_putFirst_j33 h  = some (r, h') ∧ HT S h0 h' t' := by
  unfold t_X3_putFirst_j33 at hg
  unfold f_X3_putFirst_j33
  exact ey_ret hg hT
noncomputable def t_X3_putFirst (h : Th) (x0 x1 : Int) : Option (Int × Th) :=
  Option.bind (tck h 3 x0) fun u2 =>
  Option.bind (t_X3_wasTaken h x0 x1) fun r1 =>
  if r1.1 = 0 then (
    t_X3_putFirst_j33 r1.2
  ) else (
    Option.bind (trf r1.2 3 9 x0) fun v3 =>
    Option.bind (tgt r1.2 3 8 x0) fun v4 =>
    Option.bind (tas r1.2 3 9 x0 v3 x1 v4) fun h5 =>
    Option.bind (tpt h5 3 8 x0 x1) fun h6 =>
    Option.bind (tgt h6 3 3 x0) fun v7 =>
    Option.bind (tpt h6 3 3 x0 (wr (v7 - 1))) fun h8 =>
    t_X3_putFirst_j33 h8
  )
theorem h_X3_putFirst {S : Nat → Prop} {h0 : Hp} {r : Int} {t' : Th} {h : Hp} {t : Th} {x0 x1 : Int} (hT : HT S h0 h t) (hg : t_X3_putFirst t x0 x1 = some (r, t')) : ∃ h', f_X3_putFirst h x0 x1 = some (r, h') ∧ HT S h0 h' t' := by
  unfold t_X3_putFirst at hg
  unfold f_X3_putFirst
  obtain ⟨u2, eu2, hg⟩ := bd hg
  refine ey_bind (ht_ck hT eu2) ?_
  obtain ⟨r1, er1, hg⟩ := bd hg
  obtain ⟨hr1, qr1, hT⟩ := h_X3_wasTaken hT er1
  refine ey_bind qr1 ?_
  by_cases cd : r1.1 = 0
  · replace hg := it_pos cd hg
    refine ey_pos cd ?_
    exact h_X3_putFirst_j33 hT hg
  · replace hg := it_neg cd hg
    refine ey_neg cd ?_
    obtain ⟨v3, ev3, hg⟩ := bd hg
    refine ey_bind (ht_ref hT (by decide) ev3) ?_
    obtain ⟨v4, ev4, hg⟩ := bd hg
    refine ey_bind (ht_get hT rfl ev4) ?_
    obtain ⟨Nh5, eh5, hg⟩ := bd hg
    obtain ⟨h5, qh5, hT⟩ := ht_ast hT (kd := 8) rfl (by decide) eh5
    refine ey_bind qh5 ?_
    obtain ⟨Nh6, eh6, hg⟩ := bd hg
    obtain ⟨h6, qh6, hT⟩ := ht_put hT (by decide) eh6
    refine ey_bind qh6 ?_
    obtain ⟨v7, ev7, hg⟩ := bd hg
    refine ey_bind (ht_get hT rfl ev7) ?_
    obtain ⟨Nh8, eh8, hg⟩ := bd hg
    obtain ⟨h8, qh8, hT⟩ := ht_put hT (by decide) eh8
    refine ey_bind qh8 ?_
    exact h_X3_putFirst_j33 hT hg
noncomputable def t_X3_init (h : Th) (x0 x1 x2 x3 : Int) : Option (Int × Th) :=
  Option.bind (tck h 3 x0) fun u1 =>
  Option.bind (tpt h 3 4 x0 (-1)) fun h2 =>
  Option.bind (tpt h2 3 8 x0 (-1)) fun h3 =>
  Option.bind (tpt h3 3 0 x0 x1) fun h4 =>
  Option.bind (tpt h4 3 1 x0 x2) fun h5 =>
  Option.bind (tpt h5 3 2 x0 x3) fun h6 =>
  Option.bind (tgt h6 1 6 x1) fun v7 =>
  Option.bind (tan h6 3 9 4 x0 (imx 1 (imn 4 v7))) fun h9 =>
  Option.bind (tan h9 3 10 4 x0 (imx 1 (imn 4 v7))) fun h11 =>
  some (0, h11)
theorem h_X3_init {S : Nat → Prop} {h0 : Hp} {r : Int} {t' : Th} {h : Hp} {t : Th} {x0 x1 x2 x3 : Int} (hT : HT S h0 h t) (hg : t_X3_init t x0 x1 x2 x3 = some (r, t')) : ∃ h', f_X3_init h x0 x1 x2 x3 = some (r, h') ∧ HT S h0 h' t' := by
  unfold t_X3_init at hg
  unfold f_X3_init
  obtain ⟨u1, eu1, hg⟩ := bd hg
  refine ey_bind (ht_ck hT eu1) ?_
  obtain ⟨Nh2, eh2, hg⟩ := bd hg
  obtain ⟨h2, qh2, hT⟩ := ht_put hT (by decide) eh2
  refine ey_bind qh2 ?_
  obtain ⟨Nh3, eh3, hg⟩ := bd hg
  obtain ⟨h3, qh3, hT⟩ := ht_put hT (by decide) eh3
  refine ey_bind qh3 ?_
  obtain ⟨Nh4, eh4, hg⟩ := bd hg
  obtain ⟨h4, qh4, hT⟩ := ht_put hT (by decide) eh4
  refine ey_bind qh4 ?_
  obtain ⟨Nh5, eh5, hg⟩ := bd hg
  obtain ⟨h5, qh5, hT⟩ := ht_put hT (by decide) eh5
  refine ey_bind qh5 ?_
  obtain ⟨Nh6, eh6, hg⟩ := bd hg
  obtain ⟨h6, qh6, hT⟩ := ht_put hT (by decide) eh6
  refine ey_bind qh6 ?_
  obtain ⟨v7, ev7, hg⟩ := bd hg
  refine ey_bind (ht_get hT rfl ev7) ?_
  obtain ⟨Nh9, eh9, hg⟩ := bd hg
  obtain ⟨h8, h9, qh8, qh9, hT⟩ := ht_an hT (kd := 8) rfl (by decide) eh9
  refine ey_bind qh8 ?_
  refine ey_bind qh9 ?_
  obtain ⟨Nh11, eh11, hg⟩ := bd hg
  obtain ⟨h10, h11, qh10, qh11, hT⟩ := ht_an hT (kd := 8) rfl (by decide) eh11
  refine ey_bind qh10 ?_
  refine ey_bind qh11 ?_
  exact ey_ret hg hT
noncomputable def t_X5_roundedUp (h : Th) (x0 x1 : Int) : Option (Int × Th) :=
  some (ian (wr ((wr (x0 + x1)) - 1)) (wr (-x1)), h)
theorem h_X5_roundedUp {S : Nat → Prop} {h0 : Hp} {r : Int} {t' : Th} {h : Hp} {t : Th} {x0 x1 : Int} (hT : HT S h0 h t) (hg : t_X5_roundedUp t x0 x1 = some (r, t')) : ∃ h', f_X5_roundedUp h x0 x1 = some (r, h') ∧ HT S h0 h' t' := by
  unfold t_X5_roundedUp at hg
  unfold f_X5_roundedUp
  exact ey_ret hg hT
noncomputable def t_X1_init_j131 (h : Th) (x0 s0 s1 : Int) : Option (Int × Th) :=
  Option.bind (tpt h 1 7 s0 s1) fun h24 =>
  Option.bind (trf h24 1 12 x0) fun v25 =>
  Option.bind (tno h24 4) fun h26 =>
  Option.bind (tck h26 4 (tN h24 : Int)) fun u28 =>
  Option.bind (t_X4_init h26 (tN h24 : Int)) fun r27 =>
  Option.bind (trs r27.2 1 12 x0 v25 0 (tN h24 : Int)) fun h29 =>
  Option.bind (trf h29 1 12 x0) fun v30 =>
  Option.bind (tno h29 4) fun h31 =>
  Option.bind (tck h31 4 (tN h29 : Int)) fun u33 =>
  Option.bind (t_X4_init h31 (tN h29 : Int)) fun r32 =>
  Option.bind (trs r32.2 1 12 x0 v30 1 (tN h29 : Int)) fun h34 =>
  Option.bind (trf h34 1 12 x0) fun v35 =>
  Option.bind (tno h34 4) fun h36 =>
  Option.bind (tck h36 4 (tN h34 : Int)) fun u38 =>
  Option.bind (t_X4_init h36 (tN h34 : Int)) fun r37 =>
  Option.bind (trs r37.2 1 12 x0 v35 2 (tN h34 : Int)) fun h39 =>
  Option.bind (trf h39 1 13 x0) fun v40 =>
  Option.bind (tno h39 2) fun h41 =>
  Option.bind (tck h41 2 (tN h39 : Int)) fun u43 =>
  Option.bind (t_X2_init h41 (tN h39 : Int)) fun r42 =>
  Option.bind (trs r42.2 1 13 x0 v40 0 (tN h39 : Int)) fun h44 =>
  Option.bind (trf h44 1 14 x0) fun v45 =>
  Option.bind (tno h44 2) fun h46 =>
  Option.bind (tck h46 2 (tN h44 : Int)) fun u48 =>
  Option.bind (t_X2_init h46 (tN h44 : Int)) fun r47 =>
  Option.bind (trs r47.2 1 14 x0 v45 0 (tN h44 : Int)) fun h49 =>
  Option.bind (trf h49 1 13 x0) fun v50 =>
  Option.bind (tno h49 2) fun h51 =>
  Option.bind (tck h51 2 (tN h49 : Int)) fun u53 =>
  Option.bind (t_X2_init h51 (tN h49 : Int)) fun r52 =>
  Option.bind (trs r52.2 1 13 x0 v50 1 (tN h49 : Int)) fun h54 =>
  Option.bind (trf h54 1 14 x0) fun v55 =>
  Option.bind (tno h54 2) fun h56 =>
  Option.bind (tck h56 2 (tN h54 : Int)) fun u58 =>
  Option.bind (t_X2_init h56 (tN h54 : Int)) fun r57 =>
  Option.bind (trs r57.2 1 14 x0 v55 1 (tN h54 : Int)) fun h59 =>
  Option.bind (trf h59 1 13 x0) fun v60 =>
  Option.bind (tno h59 2) fun h61 =>
  Option.bind (tck h61 2 (tN h59 : Int)) fun u63 =>
  Option.bind (t_X2_init h61 (tN h59 : Int)) fun r62 =>
  Option.bind (trs r62.2 1 13 x0 v60 2 (tN h59 : Int)) fun h64 =>
  Option.bind (trf h64 1 14 x0) fun v65 =>
  Option.bind (tno h64 2) fun h66 =>
  Option.bind (tck h66 2 (tN h64 : Int)) fun u68 =>
  Option.bind (t_X2_init h66 (tN h64 : Int)) fun r67 =>
  Option.bind (trs r67.2 1 14 x0 v65 2 (tN h64 : Int)) fun h69 =>
  Option.bind (trf h69 1 13 x0) fun v70 =>
  Option.bind (tno h69 2) fun h71 =>
  Option.bind (tck h71 2 (tN h69 : Int)) fun u73 =>
  Option.bind (t_X2_init h71 (tN h69 : Int)) fun r72 =>
  Option.bind (trs r72.2 1 13 x0 v70 3 (tN h69 : Int)) fun h74 =>
  Option.bind (trf h74 1 14 x0) fun v75 =>
  Option.bind (tno h74 2) fun h76 =>
  Option.bind (tck h76 2 (tN h74 : Int)) fun u78 =>
  Option.bind (t_X2_init h76 (tN h74 : Int)) fun r77 =>
  Option.bind (trs r77.2 1 14 x0 v75 3 (tN h74 : Int)) fun h79 =>
  some (0, h79)
theorem h_X1_init_j131 {S : Nat → Prop} {h0 : Hp} {r : Int} {t' : Th} {h : Hp} {t : Th} {x0 s0 s1 : Int} (hT : HT S h0 h t) (hg : t_X1_init_j131 t x0 s0 s1 = some (r, t')) : ∃ h', f_X1_init_j131 h x0 s0 s1 = some (r, h') ∧ HT S h0 h' t' := by
  unfold t_X1_init_j131 at hg
  unfold f_X1_init_j131
  obtain ⟨Nh24, eh24, hg⟩ := bd hg
  obtain ⟨h24, qh24, hT⟩ := ht_put hT (by decide) eh24
  refine ey_bind qh24 ?_
  obtain ⟨v25, ev25, hg⟩ := bd hg
  refine ey_bind (ht_ref hT (by decide) ev25) ?_
  obtain ⟨Nh26, eh26, hg⟩ := bd hg
  obtain ⟨h26, qh26, hT, enh26⟩ := ht_new hT (by decide) eh26
  refine ey_bind qh26 ?_
  try rw [enh26]
  obtain ⟨u28, eu28, hg⟩ := bd hg
  refine ey_bind (ht_ck hT eu28) ?_
  obtain ⟨r27, er27, hg⟩ := bd hg
  obtain ⟨hr27, qr27, hT⟩ := h_X4_init hT er27
  refine ey_bind qr27 ?_
  obtain ⟨Nh29, eh29, hg⟩ := bd hg
  obtain ⟨h29, qh29, hT⟩ := ht_asr hT (kd := 14) rfl (by decide) eh29
  refine ey_bind qh29 ?_
  obtain ⟨v30, ev30, hg⟩ := bd hg
  refine ey_bind (ht_ref hT (by decide) ev30) ?_
  obtain ⟨Nh31, eh31, hg⟩ := bd hg
  obtain ⟨h31, qh31, hT, enh31⟩ := ht_new hT (by decide) eh31
  refine ey_bind qh31 ?_
  try rw [enh31]
  obtain ⟨u33, eu33, hg⟩ := bd hg
  refine ey_bind (ht_ck hT eu33) ?_
  obtain ⟨r32, er32, hg⟩ := bd hg
  obtain ⟨hr32, qr32, hT⟩ := h_X4_init hT er32
  refine ey_bind qr32 ?_
  obtain ⟨Nh34, eh34, hg⟩ := bd hg
  obtain ⟨h34, qh34, hT⟩ := ht_asr hT (kd := 14) rfl (by decide) eh34
  refine ey_bind qh34 ?_
  obtain ⟨v35, ev35, hg⟩ := bd hg
  refine ey_bind (ht_ref hT (by decide) ev35) ?_
  obtain ⟨Nh36, eh36, hg⟩ := bd hg
  obtain ⟨h36, qh36, hT, enh36⟩ := ht_new hT (by decide) eh36
  refine ey_bind qh36 ?_
  try rw [enh36]
  obtain ⟨u38, eu38, hg⟩ := bd hg
  refine ey_bind (ht_ck hT eu38) ?_
  obtain ⟨r37, er37, hg⟩ := bd hg
  obtain ⟨hr37, qr37, hT⟩ := h_X4_init hT er37
  refine ey_bind qr37 ?_
  obtain ⟨Nh39, eh39, hg⟩ := bd hg
  obtain ⟨h39, qh39, hT⟩ := ht_asr hT (kd := 14) rfl (by decide) eh39
  refine ey_bind qh39 ?_
  obtain ⟨v40, ev40, hg⟩ := bd hg
  refine ey_bind (ht_ref hT (by decide) ev40) ?_
  obtain ⟨Nh41, eh41, hg⟩ := bd hg
  obtain ⟨h41, qh41, hT, enh41⟩ := ht_new hT (by decide) eh41
  refine ey_bind qh41 ?_
  try rw [enh41]
  obtain ⟨u43, eu43, hg⟩ := bd hg
  refine ey_bind (ht_ck hT eu43) ?_
  obtain ⟨r42, er42, hg⟩ := bd hg
  obtain ⟨hr42, qr42, hT⟩ := h_X2_init hT er42
  refine ey_bind qr42 ?_
  obtain ⟨Nh44, eh44, hg⟩ := bd hg
  obtain ⟨h44, qh44, hT⟩ := ht_asr hT (kd := 12) rfl (by decide) eh44
  refine ey_bind qh44 ?_
  obtain ⟨v45, ev45, hg⟩ := bd hg
  refine ey_bind (ht_ref hT (by decide) ev45) ?_
  obtain ⟨Nh46, eh46, hg⟩ := bd hg
  obtain ⟨h46, qh46, hT, enh46⟩ := ht_new hT (by decide) eh46
  refine ey_bind qh46 ?_
  try rw [enh46]
  obtain ⟨u48, eu48, hg⟩ := bd hg
  refine ey_bind (ht_ck hT eu48) ?_
  obtain ⟨r47, er47, hg⟩ := bd hg
  obtain ⟨hr47, qr47, hT⟩ := h_X2_init hT er47
  refine ey_bind qr47 ?_
  obtain ⟨Nh49, eh49, hg⟩ := bd hg
  obtain ⟨h49, qh49, hT⟩ := ht_asr hT (kd := 12) rfl (by decide) eh49
  refine ey_bind qh49 ?_
  obtain ⟨v50, ev50, hg⟩ := bd hg
  refine ey_bind (ht_ref hT (by decide) ev50) ?_
  obtain ⟨Nh51, eh51, hg⟩ := bd hg
  obtain ⟨h51, qh51, hT, enh51⟩ := ht_new hT (by decide) eh51
  refine ey_bind qh51 ?_
  try rw [enh51]
  obtain ⟨u53, eu53, hg⟩ := bd hg
  refine ey_bind (ht_ck hT eu53) ?_
  obtain ⟨r52, er52, hg⟩ := bd hg
  obtain ⟨hr52, qr52, hT⟩ := h_X2_init hT er52
  refine ey_bind qr52 ?_
  obtain ⟨Nh54, eh54, hg⟩ := bd hg
  obtain ⟨h54, qh54, hT⟩ := ht_asr hT (kd := 12) rfl (by decide) eh54
  refine ey_bind qh54 ?_
  obtain ⟨v55, ev55, hg⟩ := bd hg
  refine ey_bind (ht_ref hT (by decide) ev55) ?_
  obtain ⟨Nh56, eh56, hg⟩ := bd hg
  obtain ⟨h56, qh56, hT, enh56⟩ := ht_new hT (by decide) eh56
  refine ey_bind qh56 ?_
  try rw [enh56]
  obtain ⟨u58, eu58, hg⟩ := bd hg
  refine ey_bind (ht_ck hT eu58) ?_
  obtain ⟨r57, er57, hg⟩ := bd hg
  obtain ⟨hr57, qr57, hT⟩ := h_X2_init hT er57
  refine ey_bind qr57 ?_
  obtain ⟨Nh59, eh59, hg⟩ := bd hg
  obtain ⟨h59, qh59, hT⟩ := ht_asr hT (kd := 12) rfl (by decide) eh59
  refine ey_bind qh59 ?_
  obtain ⟨v60, ev60, hg⟩ := bd hg
  refine ey_bind (ht_ref hT (by decide) ev60) ?_
  obtain ⟨Nh61, eh61, hg⟩ := bd hg
  obtain ⟨h61, qh61, hT, enh61⟩ := ht_new hT (by decide) eh61
  refine ey_bind qh61 ?_
  try rw [enh61]
  obtain ⟨u63, eu63, hg⟩ := bd hg
  refine ey_bind (ht_ck hT eu63) ?_
  obtain ⟨r62, er62, hg⟩ := bd hg
  obtain ⟨hr62, qr62, hT⟩ := h_X2_init hT er62
  refine ey_bind qr62 ?_
  obtain ⟨Nh64, eh64, hg⟩ := bd hg
  obtain ⟨h64, qh64, hT⟩ := ht_asr hT (kd := 12) rfl (by decide) eh64
  refine ey_bind qh64 ?_
  obtain ⟨v65, ev65, hg⟩ := bd hg
  refine ey_bind (ht_ref hT (by decide) ev65) ?_
  obtain ⟨Nh66, eh66, hg⟩ := bd hg
  obtain ⟨h66, qh66, hT, enh66⟩ := ht_new hT (by decide) eh66
  refine ey_bind qh66 ?_
  try rw [enh66]
  obtain ⟨u68, eu68, hg⟩ := bd hg
  refine ey_bind (ht_ck hT eu68) ?_
  obtain ⟨r67, er67, hg⟩ := bd hg
  obtain ⟨hr67, qr67, hT⟩ := h_X2_init hT er67
  refine ey_bind qr67 ?_
  obtain ⟨Nh69, eh69, hg⟩ := bd hg
  obtain ⟨h69, qh69, hT⟩ := ht_asr hT (kd := 12) rfl (by decide) eh69
  refine ey_bind qh69 ?_
  obtain ⟨v70, ev70, hg⟩ := bd hg
  refine ey_bind (ht_ref hT (by decide) ev70) ?_
  obtain ⟨Nh71, eh71, hg⟩ := bd hg
  obtain ⟨h71, qh71, hT, enh71⟩ := ht_new hT (by decide) eh71
  refine ey_bind qh71 ?_
  try rw [enh71]
  obtain ⟨u73, eu73, hg⟩ := bd hg
  refine ey_bind (ht_ck hT eu73) ?_
  obtain ⟨r72, er72, hg⟩ := bd hg
  obtain ⟨hr72, qr72, hT⟩ := h_X2_init hT er72
  refine ey_bind qr72 ?_
  obtain ⟨Nh74, eh74, hg⟩ := bd hg
  obtain ⟨h74, qh74, hT⟩ := ht_asr hT (kd := 12) rfl (by decide) eh74
  refine ey_bind qh74 ?_
  obtain ⟨v75, ev75, hg⟩ := bd hg
  refine ey_bind (ht_ref hT (by decide) ev75) ?_
  obtain ⟨Nh76, eh76, hg⟩ := bd hg
  obtain ⟨h76, qh76, hT, enh76⟩ := ht_new hT (by decide) eh76
  refine ey_bind qh76 ?_
  try rw [enh76]
  obtain ⟨u78, eu78, hg⟩ := bd hg
  refine ey_bind (ht_ck hT eu78) ?_
  obtain ⟨r77, er77, hg⟩ := bd hg
  obtain ⟨hr77, qr77, hT⟩ := h_X2_init hT er77
  refine ey_bind qr77 ?_
  obtain ⟨Nh79, eh79, hg⟩ := bd hg
  obtain ⟨h79, qh79, hT⟩ := ht_asr hT (kd := 12) rfl (by decide) eh79
  refine ey_bind qh79 ?_
  exact ey_ret hg hT
noncomputable def t_X1_init_j99 (h : Th) (x0 x3 x6 s0 s1 : Int) : Option (Int × Th) :=
  Option.bind (tpt h 1 6 s0 s1) fun h20 =>
  Option.bind (tgt h20 1 6 x0) fun v21 =>
  Option.bind (tgt h20 1 5 x0) fun v22 =>
  if x3 ≤ 0 then (
    t_X1_init_j131 h20 x0 x0 1
  ) else (
    Option.bind (idv (wr (x6 - (wr (v21 * v22)))) x3) fun v23 =>
    t_X1_init_j131 h20 x0 x0 (wr (v23 + 1))
  )
theorem h_X1_init_j99 {S : Nat → Prop} {h0 : Hp} {r : Int} {t' : Th} {h : Hp} {t : Th} {x0 x3 x6 s0 s1 : Int} (hT : HT S h0 h t) (hg : t_X1_init_j99 t x0 x3 x6 s0 s1 = some (r, t')) : ∃ h', f_X1_init_j99 h x0 x3 x6 s0 s1 = some (r, h') ∧ HT S h0 h' t' := by
  unfold t_X1_init_j99 at hg
  unfold f_X1_init_j99
  obtain ⟨Nh20, eh20, hg⟩ := bd hg
  obtain ⟨h20, qh20, hT⟩ := ht_put hT (by decide) eh20
  refine ey_bind qh20 ?_
  obtain ⟨v21, ev21, hg⟩ := bd hg
  refine ey_bind (ht_get hT rfl ev21) ?_
  obtain ⟨v22, ev22, hg⟩ := bd hg
  refine ey_bind (ht_get hT rfl ev22) ?_
  by_cases cd : x3 ≤ 0
  · replace hg := it_pos cd hg
    refine ey_pos cd ?_
    exact h_X1_init_j131 hT hg
  · replace hg := it_neg cd hg
    refine ey_neg cd ?_
    obtain ⟨v23, ev23, hg⟩ := bd hg
    refine ey_bind (ev23) ?_
    exact h_X1_init_j131 hT hg
noncomputable def t_X1_init (h : Th) (x0 x1 x2 x3 x4 x5 : Int) : Option (Int × Th) :=
  Option.bind (tck h 1 x0) fun u1 =>
  Option.bind (tan h 1 12 3 x0 3) fun h3 =>
  Option.bind (tan h3 1 13 4 x0 4) fun h5 =>
  Option.bind (tan h5 1 14 4 x0 4) fun h7 =>
  Option.bind (tan h7 1 15 3 x0 3) fun h9 =>
  Option.bind (tpt h9 1 0 x0 x1) fun h10 =>
  Option.bind (tpt h10 1 1 x0 x2) fun h11 =>
  Option.bind (tpt h11 1 2 x0 x3) fun h12 =>
  Option.bind (tpt h12 1 3 x0 x4) fun h13 =>
  Option.bind (tpt h13 1 4 x0 x5) fun h14 =>
  Option.bind (t_X5_roundedUp h14 x2 x3) fun r15 =>
  Option.bind (tpt r15.2 1 5 x0 r15.1) fun h16 =>
  Option.bind (tgt h16 1 5 x0) fun v17 =>
  if v17 ≤ 0 then (
    t_X1_init_j99 h16 x0 x3 (ish 1024 x4) x0 0
  ) else (
    Option.bind (tgt h16 1 5 x0) fun v18 =>
    Option.bind (idv (ish 1024 x4) v18) fun v19 =>
    t_X1_init_j99 h16 x0 x3 (ish 1024 x4) x0 v19
  )
theorem h_X1_init {S : Nat → Prop} {h0 : Hp} {r : Int} {t' : Th} {h : Hp} {t : Th} {x0 x1 x2 x3 x4 x5 : Int} (hT : HT S h0 h t) (hg : t_X1_init t x0 x1 x2 x3 x4 x5 = some (r, t')) : ∃ h', f_X1_init h x0 x1 x2 x3 x4 x5 = some (r, h') ∧ HT S h0 h' t' := by
  unfold t_X1_init at hg
  unfold f_X1_init
  obtain ⟨u1, eu1, hg⟩ := bd hg
  refine ey_bind (ht_ck hT eu1) ?_
  obtain ⟨Nh3, eh3, hg⟩ := bd hg
  obtain ⟨h2, h3, qh2, qh3, hT⟩ := ht_an hT (kd := 14) rfl (by decide) eh3
  refine ey_bind qh2 ?_
  refine ey_bind qh3 ?_
  obtain ⟨Nh5, eh5, hg⟩ := bd hg
  obtain ⟨h4, h5, qh4, qh5, hT⟩ := ht_an hT (kd := 12) rfl (by decide) eh5
  refine ey_bind qh4 ?_
  refine ey_bind qh5 ?_
  obtain ⟨Nh7, eh7, hg⟩ := bd hg
  obtain ⟨h6, h7, qh6, qh7, hT⟩ := ht_an hT (kd := 12) rfl (by decide) eh7
  refine ey_bind qh6 ?_
  refine ey_bind qh7 ?_
  obtain ⟨Nh9, eh9, hg⟩ := bd hg
  obtain ⟨h8, h9, qh8, qh9, hT⟩ := ht_an hT (kd := 12) rfl (by decide) eh9
  refine ey_bind qh8 ?_
  refine ey_bind qh9 ?_
  obtain ⟨Nh10, eh10, hg⟩ := bd hg
  obtain ⟨h10, qh10, hT⟩ := ht_put hT (by decide) eh10
  refine ey_bind qh10 ?_
  obtain ⟨Nh11, eh11, hg⟩ := bd hg
  obtain ⟨h11, qh11, hT⟩ := ht_put hT (by decide) eh11
  refine ey_bind qh11 ?_
  obtain ⟨Nh12, eh12, hg⟩ := bd hg
  obtain ⟨h12, qh12, hT⟩ := ht_put hT (by decide) eh12
  refine ey_bind qh12 ?_
  obtain ⟨Nh13, eh13, hg⟩ := bd hg
  obtain ⟨h13, qh13, hT⟩ := ht_put hT (by decide) eh13
  refine ey_bind qh13 ?_
  obtain ⟨Nh14, eh14, hg⟩ := bd hg
  obtain ⟨h14, qh14, hT⟩ := ht_put hT (by decide) eh14
  refine ey_bind qh14 ?_
  obtain ⟨r15, er15, hg⟩ := bd hg
  obtain ⟨hr15, qr15, hT⟩ := h_X5_roundedUp hT er15
  refine ey_bind qr15 ?_
  obtain ⟨Nh16, eh16, hg⟩ := bd hg
  obtain ⟨h16, qh16, hT⟩ := ht_put hT (by decide) eh16
  refine ey_bind qh16 ?_
  obtain ⟨v17, ev17, hg⟩ := bd hg
  refine ey_bind (ht_get hT rfl ev17) ?_
  by_cases cd : v17 ≤ 0
  · replace hg := it_pos cd hg
    refine ey_pos cd ?_
    exact h_X1_init_j99 hT hg
  · replace hg := it_neg cd hg
    refine ey_neg cd ?_
    obtain ⟨v18, ev18, hg⟩ := bd hg
    refine ey_bind (ht_get hT rfl ev18) ?_
    obtain ⟨v19, ev19, hg⟩ := bd hg
    refine ey_bind (ev19) ?_
    exact h_X1_init_j99 hT hg
noncomputable def t_X1_unlist_j26 (h : Th) : Option (Int × Th) :=
  some (0, h)
theorem h_X1_unlist_j26 {S : Nat → Prop} {h0 : Hp} {r : Int} {t' : Th} {h : Hp} {t : Th} (hT : HT S h0 h t) (hg : t_X1_unlist_j26 t  = some (r, t')) : ∃ h', f_X1_unlist_j26 h  = some (r, h') ∧ HT S h0 h' t' := by
  unfold t_X1_unlist_j26 at hg
  unfold f_X1_unlist_j26
  exact ey_ret hg hT
noncomputable def t_X1_unlist (h : Th) (x0 x1 : Int) : Option (Int × Th) :=
  Option.bind (tgt h 3 4 x1) fun v1 =>
  if v1 = (-1) then (
    t_X1_unlist_j26 h
  ) else (
    Option.bind (trf h 1 12 x0) fun v2 =>
    Option.bind (tgt h 3 4 x1) fun v3 =>
    Option.bind (tal h 1 12 x0 v2 v3) fun v4 =>
    Option.bind (tck h 4 v4) fun u6 =>
    Option.bind (t_X4_remove h v4 x1) fun r5 =>
    Option.bind (tpt r5.2 3 4 x1 (-1)) fun h7 =>
    t_X1_unlist_j26 h7
  )
theorem h_X1_unlist {S : Nat → Prop} {h0 : Hp} {r : Int} {t' : Th} {h : Hp} {t : Th} {x0 x1 : Int} (hT : HT S h0 h t) (hg : t_X1_unlist t x0 x1 = some (r, t')) : ∃ h', f_X1_unlist h x0 x1 = some (r, h') ∧ HT S h0 h' t' := by
  unfold t_X1_unlist at hg
  unfold f_X1_unlist
  obtain ⟨v1, ev1, hg⟩ := bd hg
  refine ey_bind (ht_get hT rfl ev1) ?_
  by_cases cd : v1 = (-1)
  · replace hg := it_pos cd hg
    refine ey_pos cd ?_
    exact h_X1_unlist_j26 hT hg
  · replace hg := it_neg cd hg
    refine ey_neg cd ?_
    obtain ⟨v2, ev2, hg⟩ := bd hg
    refine ey_bind (ht_ref hT (by decide) ev2) ?_
    obtain ⟨v3, ev3, hg⟩ := bd hg
    refine ey_bind (ht_get hT rfl ev3) ?_
    obtain ⟨v4, ev4, hg⟩ := bd hg
    refine ey_bind (ht_ald hT (kd := 14) rfl (by decide) ev4) ?_
    obtain ⟨u6, eu6, hg⟩ := bd hg
    refine ey_bind (ht_ck hT eu6) ?_
    obtain ⟨r5, er5, hg⟩ := bd hg
    obtain ⟨hr5, qr5, hT⟩ := h_X4_remove hT er5
    refine ey_bind qr5 ?_
    obtain ⟨Nh7, eh7, hg⟩ := bd hg
    obtain ⟨h7, qh7, hT⟩ := ht_put hT (by decide) eh7
    refine ey_bind qh7 ?_
    exact h_X1_unlist_j26 hT hg
noncomputable def t_X1_relist_j33 (h : Th) : Option (Int × Th) :=
  some (0, h)
theorem h_X1_relist_j33 {S : Nat → Prop} {h0 : Hp} {r : Int} {t' : Th} {h : Hp} {t : Th} (hT : HT S h0 h t) (hg : t_X1_relist_j33 t  = some (r, t')) : ∃ h', f_X1_relist_j33 h  = some (r, h') ∧ HT S h0 h' t' := by
  unfold t_X1_relist_j33 at hg
  unfold f_X1_relist_j33
  exact ey_ret hg hT
noncomputable def t_X1_relist (h : Th) (x0 x1 : Int) : Option (Int × Th) :=
  Option.bind (tck h 3 x1) fun u2 =>
  Option.bind (t_X3_kind h x1) fun r1 =>
  Option.bind (tgt r1.2 3 4 x1) fun v3 =>
  if v3 = r1.1 then (
    t_X1_relist_j33 r1.2
  ) else (
    Option.bind (tck r1.2 1 x0) fun u5 =>
    Option.bind (t_X1_unlist r1.2 x0 x1) fun r4 =>
    Option.bind (tpt r4.2 3 4 x1 r1.1) fun h6 =>
    Option.bind (trf h6 1 12 x0) fun v7 =>
    Option.bind (tal h6 1 12 x0 v7 r1.1) fun v8 =>
    Option.bind (tck h6 4 v8) fun u10 =>
    Option.bind (t_X4_putFirst h6 v8 x1) fun r9 =>
    t_X1_relist_j33 r9.2
  )
theorem h_X1_relist {S : Nat → Prop} {h0 : Hp} {r : Int} {t' : Th} {h : Hp} {t : Th} {x0 x1 : Int} (hT : HT S h0 h t) (hg : t_X1_relist t x0 x1 = some (r, t')) : ∃ h', f_X1_relist h x0 x1 = some (r, h') ∧ HT S h0 h' t' := by
  unfold t_X1_relist at hg
  unfold f_X1_relist
  obtain ⟨u2, eu2, hg⟩ := bd hg
  refine ey_bind (ht_ck hT eu2) ?_
  obtain ⟨r1, er1, hg⟩ := bd hg
  obtain ⟨hr1, qr1, hT⟩ := h_X3_kind hT er1
  refine ey_bind qr1 ?_
  obtain ⟨v3, ev3, hg⟩ := bd hg
  refine ey_bind (ht_get hT rfl ev3) ?_
  by_cases cd : v3 = r1.1
  · replace hg := it_pos cd hg
    refine ey_pos cd ?_
    exact h_X1_relist_j33 hT hg
  · replace hg := it_neg cd hg
    refine ey_neg cd ?_
    obtain ⟨u5, eu5, hg⟩ := bd hg
    refine ey_bind (ht_ck hT eu5) ?_
    obtain ⟨r4, er4, hg⟩ := bd hg
    obtain ⟨hr4, qr4, hT⟩ := h_X1_unlist hT er4
    refine ey_bind qr4 ?_
    obtain ⟨Nh6, eh6, hg⟩ := bd hg
    obtain ⟨h6, qh6, hT⟩ := ht_put hT (by decide) eh6
    refine ey_bind qh6 ?_
    obtain ⟨v7, ev7, hg⟩ := bd hg
    refine ey_bind (ht_ref hT (by decide) ev7) ?_
    obtain ⟨v8, ev8, hg⟩ := bd hg
    refine ey_bind (ht_ald hT (kd := 14) rfl (by decide) ev8) ?_
    obtain ⟨u10, eu10, hg⟩ := bd hg
    refine ey_bind (ht_ck hT eu10) ?_
    obtain ⟨r9, er9, hg⟩ := bd hg
    obtain ⟨hr9, qr9, hT⟩ := h_X4_putFirst hT er9
    refine ey_bind qr9 ?_
    exact h_X1_relist_j33 hT hg
noncomputable def t_X1_takeFromDepot (h : Th) (x0 : Int) : Option (Int × Th) :=
  Option.bind (tgt h 1 16 x0) fun v1 =>
  if 0 < v1 then (
    Option.bind (tgt h 1 16 x0) fun v2 =>
    Option.bind (tpt h 1 16 x0 (wr (v2 - 1))) fun h3 =>
    Option.bind (trf h3 1 15 x0) fun v4 =>
    Option.bind (tgt h3 1 16 x0) fun v5 =>
    Option.bind (tal h3 1 15 x0 v4 v5) fun v6 =>
    Option.bind (trf h3 1 15 x0) fun v7 =>
    Option.bind (tgt h3 1 16 x0) fun v8 =>
    Option.bind (trs h3 1 15 x0 v7 v8 (-1)) fun h9 =>
    some (v6, h9)
  ) else (
    some ((-1), h)
  )
theorem h_X1_takeFromDepot {S : Nat → Prop} {h0 : Hp} {r : Int} {t' : Th} {h : Hp} {t : Th} {x0 : Int} (hT : HT S h0 h t) (hg : t_X1_takeFromDepot t x0 = some (r, t')) : ∃ h', f_X1_takeFromDepot h x0 = some (r, h') ∧ HT S h0 h' t' := by
  unfold t_X1_takeFromDepot at hg
  unfold f_X1_takeFromDepot
  obtain ⟨v1, ev1, hg⟩ := bd hg
  refine ey_bind (ht_get hT rfl ev1) ?_
  by_cases cd : 0 < v1
  · replace hg := it_pos cd hg
    refine ey_pos cd ?_
    obtain ⟨v2, ev2, hg⟩ := bd hg
    refine ey_bind (ht_get hT rfl ev2) ?_
    obtain ⟨Nh3, eh3, hg⟩ := bd hg
    obtain ⟨h3, qh3, hT⟩ := ht_put hT (by decide) eh3
    refine ey_bind qh3 ?_
    obtain ⟨v4, ev4, hg⟩ := bd hg
    refine ey_bind (ht_ref hT (by decide) ev4) ?_
    obtain ⟨v5, ev5, hg⟩ := bd hg
    refine ey_bind (ht_get hT rfl ev5) ?_
    obtain ⟨v6, ev6, hg⟩ := bd hg
    refine ey_bind (ht_ald hT (kd := 12) rfl (by decide) ev6) ?_
    obtain ⟨v7, ev7, hg⟩ := bd hg
    refine ey_bind (ht_ref hT (by decide) ev7) ?_
    obtain ⟨v8, ev8, hg⟩ := bd hg
    refine ey_bind (ht_get hT rfl ev8) ?_
    obtain ⟨Nh9, eh9, hg⟩ := bd hg
    obtain ⟨h9, qh9, hT⟩ := ht_asr hT (kd := 12) rfl (by decide) eh9
    refine ey_bind qh9 ?_
    exact ey_ret hg hT
  · replace hg := it_neg cd hg
    refine ey_neg cd ?_
    exact ey_ret hg hT
noncomputable def t_X1_changePlaces (h : Th) (x0 x1 : Int) : Option (Int × Th) :=
  Option.bind (trf h 1 13 x0) fun v1 =>
  Option.bind (tal h 1 13 x0 v1 x1) fun v2 =>
  Option.bind (trf h 1 13 x0) fun v3 =>
  Option.bind (trf h 1 14 x0) fun v4 =>
  Option.bind (tal h 1 14 x0 v4 x1) fun v5 =>
  Option.bind (trs h 1 13 x0 v3 x1 v5) fun h6 =>
  Option.bind (trf h6 1 14 x0) fun v7 =>
  Option.bind (trs h6 1 14 x0 v7 x1 v2) fun h8 =>
  some (0, h8)
theorem h_X1_changePlaces {S : Nat → Prop} {h0 : Hp} {r : Int} {t' : Th} {h : Hp} {t : Th} {x0 x1 : Int} (hT : HT S h0 h t) (hg : t_X1_changePlaces t x0 x1 = some (r, t')) : ∃ h', f_X1_changePlaces h x0 x1 = some (r, h') ∧ HT S h0 h' t' := by
  unfold t_X1_changePlaces at hg
  unfold f_X1_changePlaces
  obtain ⟨v1, ev1, hg⟩ := bd hg
  refine ey_bind (ht_ref hT (by decide) ev1) ?_
  obtain ⟨v2, ev2, hg⟩ := bd hg
  refine ey_bind (ht_ald hT (kd := 12) rfl (by decide) ev2) ?_
  obtain ⟨v3, ev3, hg⟩ := bd hg
  refine ey_bind (ht_ref hT (by decide) ev3) ?_
  obtain ⟨v4, ev4, hg⟩ := bd hg
  refine ey_bind (ht_ref hT (by decide) ev4) ?_
  obtain ⟨v5, ev5, hg⟩ := bd hg
  refine ey_bind (ht_ald hT (kd := 12) rfl (by decide) ev5) ?_
  obtain ⟨Nh6, eh6, hg⟩ := bd hg
  obtain ⟨h6, qh6, hT⟩ := ht_asr hT (kd := 12) rfl (by decide) eh6
  refine ey_bind qh6 ?_
  obtain ⟨v7, ev7, hg⟩ := bd hg
  refine ey_bind (ht_ref hT (by decide) ev7) ?_
  obtain ⟨Nh8, eh8, hg⟩ := bd hg
  obtain ⟨h8, qh8, hT⟩ := ht_asr hT (kd := 12) rfl (by decide) eh8
  refine ey_bind qh8 ?_
  exact ey_ret hg hT
noncomputable def t_X1_takeFromMagazines_j69 (h : Th) (x0 x1 : Int) : Option (Int × Th) :=
  Option.bind (trf h 1 13 x0) fun v17 =>
  Option.bind (tal h 1 13 x0 v17 x1) fun v18 =>
  Option.bind (tck h 2 v18) fun u20 =>
  Option.bind (t_X2_takeLast h v18) fun r19 =>
  some (r19.1, r19.2)
theorem h_X1_takeFromMagazines_j69 {S : Nat → Prop} {h0 : Hp} {r : Int} {t' : Th} {h : Hp} {t : Th} {x0 x1 : Int} (hT : HT S h0 h t) (hg : t_X1_takeFromMagazines_j69 t x0 x1 = some (r, t')) : ∃ h', f_X1_takeFromMagazines_j69 h x0 x1 = some (r, h') ∧ HT S h0 h' t' := by
  unfold t_X1_takeFromMagazines_j69 at hg
  unfold f_X1_takeFromMagazines_j69
  obtain ⟨v17, ev17, hg⟩ := bd hg
  refine ey_bind (ht_ref hT (by decide) ev17) ?_
  obtain ⟨v18, ev18, hg⟩ := bd hg
  refine ey_bind (ht_ald hT (kd := 12) rfl (by decide) ev18) ?_
  obtain ⟨u20, eu20, hg⟩ := bd hg
  refine ey_bind (ht_ck hT eu20) ?_
  obtain ⟨r19, er19, hg⟩ := bd hg
  obtain ⟨hr19, qr19, hT⟩ := h_X2_takeLast hT er19
  refine ey_bind qr19 ?_
  exact ey_ret hg hT
noncomputable def t_X1_takeFromMagazines_j68 (h : Th) (x0 x1 s0 s1 s2 os0 : Int) : Option (Int × Th) :=
  Option.bind (trs h 1 13 os0 s0 s1 s2) fun h21 =>
  t_X1_takeFromMagazines_j69 h21 x0 x1
theorem h_X1_takeFromMagazines_j68 {S : Nat → Prop} {h0 : Hp} {r : Int} {t' : Th} {h : Hp} {t : Th} {x0 x1 s0 s1 s2 os0 : Int} (hT : HT S h0 h t) (hg : t_X1_takeFromMagazines_j68 t x0 x1 s0 s1 s2 os0 = some (r, t')) : ∃ h', f_X1_takeFromMagazines_j68 h x0 x1 s0 s1 s2 = some (r, h') ∧ HT S h0 h' t' := by
  unfold t_X1_takeFromMagazines_j68 at hg
  unfold f_X1_takeFromMagazines_j68
  obtain ⟨Nh21, eh21, hg⟩ := bd hg
  obtain ⟨h21, qh21, hT⟩ := ht_asr hT (kd := 12) rfl (by decide) eh21
  refine ey_bind qh21 ?_
  exact h_X1_takeFromMagazines_j69 hT hg
noncomputable def t_X1_takeFromMagazines_j32 (h : Th) (x0 x1 : Int) : Option (Int × Th) :=
  Option.bind (trf h 1 13 x0) fun v9 =>
  Option.bind (tal h 1 13 x0 v9 x1) fun v10 =>
  Option.bind (tgt h 2 1 v10) fun v11 =>
  if v11 ≠ 0 then (
    t_X1_takeFromMagazines_j69 h x0 x1
  ) else (
    Option.bind (tck h 1 x0) fun u13 =>
    Option.bind (t_X1_takeFromDepot h x0) fun r12 =>
    Option.bind (trf r12.2 1 13 x0) fun v14 =>
    if 0 ≤ r12.1 then (
      t_X1_takeFromMagazines_j68 r12.2 x0 x1 v14 x1 r12.1 x0
    ) else (
      Option.bind (trf r12.2 1 13 x0) fun v15 =>
      Option.bind (tal r12.2 1 13 x0 v15 x1) fun v16 =>
      t_X1_takeFromMagazines_j68 r12.2 x0 x1 v14 x1 v16 x0
    )
  )
theorem h_X1_takeFromMagazines_j32 {S : Nat → Prop} {h0 : Hp} {r : Int} {t' : Th} {h : Hp} {t : Th} {x0 x1 : Int} (hT : HT S h0 h t) (hg : t_X1_takeFromMagazines_j32 t x0 x1 = some (r, t')) : ∃ h', f_X1_takeFromMagazines_j32 h x0 x1 = some (r, h') ∧ HT S h0 h' t' := by
  unfold t_X1_takeFromMagazines_j32 at hg
  unfold f_X1_takeFromMagazines_j32
  obtain ⟨v9, ev9, hg⟩ := bd hg
  refine ey_bind (ht_ref hT (by decide) ev9) ?_
  obtain ⟨v10, ev10, hg⟩ := bd hg
  refine ey_bind (ht_ald hT (kd := 12) rfl (by decide) ev10) ?_
  obtain ⟨v11, ev11, hg⟩ := bd hg
  refine ey_bind (ht_get hT rfl ev11) ?_
  by_cases cd : v11 ≠ 0
  · replace hg := it_pos cd hg
    refine ey_pos cd ?_
    exact h_X1_takeFromMagazines_j69 hT hg
  · replace hg := it_neg cd hg
    refine ey_neg cd ?_
    obtain ⟨u13, eu13, hg⟩ := bd hg
    refine ey_bind (ht_ck hT eu13) ?_
    obtain ⟨r12, er12, hg⟩ := bd hg
    obtain ⟨hr12, qr12, hT⟩ := h_X1_takeFromDepot hT er12
    refine ey_bind qr12 ?_
    obtain ⟨v14, ev14, hg⟩ := bd hg
    refine ey_bind (ht_ref hT (by decide) ev14) ?_
    by_cases cd : 0 ≤ r12.1
    · replace hg := it_pos cd hg
      refine ey_pos cd ?_
      exact h_X1_takeFromMagazines_j68 hT hg
    · replace hg := it_neg cd hg
      refine ey_neg cd ?_
      obtain ⟨v15, ev15, hg⟩ := bd hg
      refine ey_bind (ht_ref hT (by decide) ev15) ?_
      obtain ⟨v16, ev16, hg⟩ := bd hg
      refine ey_bind (ht_ald hT (kd := 12) rfl (by decide) ev16) ?_
      exact h_X1_takeFromMagazines_j68 hT hg
noncomputable def t_X1_takeFromMagazines (h : Th) (x0 x1 : Int) : Option (Int × Th) :=
  Option.bind (trf h 1 13 x0) fun v1 =>
  Option.bind (tal h 1 13 x0 v1 x1) fun v2 =>
  Option.bind (tgt h 2 1 v2) fun v3 =>
  if v3 ≠ 0 then (
    t_X1_takeFromMagazines_j32 h x0 x1
  ) else (
    Option.bind (trf h 1 14 x0) fun v4 =>
    Option.bind (tal h 1 14 x0 v4 x1) fun v5 =>
    Option.bind (tgt h 2 1 v5) fun v6 =>
    if v6 ≤ 0 then (
      t_X1_takeFromMagazines_j32 h x0 x1
    ) else (
      Option.bind (tck h 1 x0) fun u8 =>
      Option.bind (t_X1_changePlaces h x0 x1) fun r7 =>
      t_X1_takeFromMagazines_j69 r7.2 x0 x1
    )
  )
theorem h_X1_takeFromMagazines {S : Nat → Prop} {h0 : Hp} {r : Int} {t' : Th} {h : Hp} {t : Th} {x0 x1 : Int} (hT : HT S h0 h t) (hg : t_X1_takeFromMagazines t x0 x1 = some (r, t')) : ∃ h', f_X1_takeFromMagazines h x0 x1 = some (r, h') ∧ HT S h0 h' t' := by
  unfold t_X1_takeFromMagazines at hg
  unfold f_X1_takeFromMagazines
  obtain ⟨v1, ev1, hg⟩ := bd hg
  refine ey_bind (ht_ref hT (by decide) ev1) ?_
  obtain ⟨v2, ev2, hg⟩ := bd hg
  refine ey_bind (ht_ald hT (kd := 12) rfl (by decide) ev2) ?_
  obtain ⟨v3, ev3, hg⟩ := bd hg
  refine ey_bind (ht_get hT rfl ev3) ?_
  by_cases cd : v3 ≠ 0
  · replace hg := it_pos cd hg
    refine ey_pos cd ?_
    exact h_X1_takeFromMagazines_j32 hT hg
  · replace hg := it_neg cd hg
    refine ey_neg cd ?_
    obtain ⟨v4, ev4, hg⟩ := bd hg
    refine ey_bind (ht_ref hT (by decide) ev4) ?_
    obtain ⟨v5, ev5, hg⟩ := bd hg
    refine ey_bind (ht_ald hT (kd := 12) rfl (by decide) ev5) ?_
    obtain ⟨v6, ev6, hg⟩ := bd hg
    refine ey_bind (ht_get hT rfl ev6) ?_
    by_cases cd : v6 ≤ 0
    · replace hg := it_pos cd hg
      refine ey_pos cd ?_
      exact h_X1_takeFromMagazines_j32 hT hg
    · replace hg := it_neg cd hg
      refine ey_neg cd ?_
      obtain ⟨u8, eu8, hg⟩ := bd hg
      refine ey_bind (ht_ck hT eu8) ?_
      obtain ⟨r7, er7, hg⟩ := bd hg
      obtain ⟨hr7, qr7, hT⟩ := h_X1_changePlaces hT er7
      refine ey_bind qr7 ?_
      exact h_X1_takeFromMagazines_j69 hT hg
noncomputable def t_X1_putIntoMagazines_j90 (h : Th) (x0 x1 x2 : Int) : Option (Int × Th) :=
  Option.bind (trf h 1 13 x0) fun v28 =>
  Option.bind (tal h 1 13 x0 v28 x1) fun v29 =>
  Option.bind (tck h 2 v29) fun u31 =>
  Option.bind (t_X2_put h v29 x2) fun r30 =>
  rtT r30.1 r30.2
theorem h_X1_putIntoMagazines_j90 {S : Nat → Prop} {h0 : Hp} {r : Int} {t' : Th} {h : Hp} {t : Th} {x0 x1 x2 : Int} (hT : HT S h0 h t) (hg : t_X1_putIntoMagazines_j90 t x0 x1 x2 = some (r, t')) : ∃ h', f_X1_putIntoMagazines_j90 h x0 x1 x2 = some (r, h') ∧ HT S h0 h' t' := by
  unfold t_X1_putIntoMagazines_j90 at hg
  unfold f_X1_putIntoMagazines_j90
  obtain ⟨v28, ev28, hg⟩ := bd hg
  refine ey_bind (ht_ref hT (by decide) ev28) ?_
  obtain ⟨v29, ev29, hg⟩ := bd hg
  refine ey_bind (ht_ald hT (kd := 12) rfl (by decide) ev29) ?_
  obtain ⟨u31, eu31, hg⟩ := bd hg
  refine ey_bind (ht_ck hT eu31) ?_
  obtain ⟨r30, er30, hg⟩ := bd hg
  obtain ⟨hr30, qr30, hT⟩ := h_X2_put hT er30
  refine ey_bind qr30 ?_
  exact ey_rtB (P := HT S h0) hg hT
noncomputable def t_X1_putIntoMagazines (h : Th) (x0 x1 x2 : Int) : Option (Int × Th) :=
  Option.bind (trf h 1 13 x0) fun v1 =>
  Option.bind (tal h 1 13 x0 v1 x1) fun v2 =>
  Option.bind (tck h 2 v2) fun u4 =>
  Option.bind (t_X2_isFull h v2) fun r3 =>
  if r3.1 = 0 then (
    t_X1_putIntoMagazines_j90 r3.2 x0 x1 x2
  ) else (
    Option.bind (trf r3.2 1 14 x0) fun v5 =>
    Option.bind (tal r3.2 1 14 x0 v5 x1) fun v6 =>
    Option.bind (tck r3.2 2 v6) fun u8 =>
    Option.bind (t_X2_isFull r3.2 v6) fun r7 =>
    if r7.1 ≠ 0 then (
      Option.bind (tgt r7.2 1 16 x0) fun v9 =>
      if 3 ≤ v9 then (
        t_X1_putIntoMagazines_j90 r7.2 x0 x1 x2
      ) else (
        Option.bind (trf r7.2 1 15 x0) fun v10 =>
        Option.bind (tgt r7.2 1 16 x0) fun v11 =>
        Option.bind (trf r7.2 1 14 x0) fun v12 =>
        Option.bind (tal r7.2 1 14 x0 v12 x1) fun v13 =>
        Option.bind (trs r7.2 1 15 x0 v10 v11 v13) fun h14 =>
        Option.bind (tgt h14 1 16 x0) fun v15 =>
        Option.bind (tpt h14 1 16 x0 (wr (v15 + 1))) fun h16 =>
        Option.bind (trf h16 1 14 x0) fun v17 =>
        Option.bind (trf h16 1 13 x0) fun v18 =>
        Option.bind (tal h16 1 13 x0 v18 x1) fun v19 =>
        Option.bind (trs h16 1 14 x0 v17 x1 v19) fun h20 =>
        Option.bind (trf h20 1 13 x0) fun v21 =>
        Option.bind (tno h20 2) fun h22 =>
        Option.bind (tck h22 2 (tN h20 : Int)) fun u24 =>
        Option.bind (t_X2_init h22 (tN h20 : Int)) fun r23 =>
        Option.bind (trs r23.2 1 13 x0 v21 x1 (tN h20 : Int)) fun h25 =>
        t_X1_putIntoMagazines_j90 h25 x0 x1 x2
      )
    ) else (
      Option.bind (tck r7.2 1 x0) fun u27 =>
      Option.bind (t_X1_changePlaces r7.2 x0 x1) fun r26 =>
      t_X1_putIntoMagazines_j90 r26.2 x0 x1 x2
    )
  )
theorem h_X1_putIntoMagazines {S : Nat → Prop} {h0 : Hp} {r : Int} {t' : Th} {h : Hp} {t : Th} {x0 x1 x2 : Int} (hT : HT S h0 h t) (hg : t_X1_putIntoMagazines t x0 x1 x2 = some (r, t')) : ∃ h', f_X1_putIntoMagazines h x0 x1 x2 = some (r, h') ∧ HT S h0 h' t' := by
  unfold t_X1_putIntoMagazines at hg
  unfold f_X1_putIntoMagazines
  obtain ⟨v1, ev1, hg⟩ := bd hg
  refine ey_bind (ht_ref hT (by decide) ev1) ?_
  obtain ⟨v2, ev2, hg⟩ := bd hg
  refine ey_bind (ht_ald hT (kd := 12) rfl (by decide) ev2) ?_
  obtain ⟨u4, eu4, hg⟩ := bd hg
  refine ey_bind (ht_ck hT eu4) ?_
  obtain ⟨r3, er3, hg⟩ := bd hg
  obtain ⟨hr3, qr3, hT⟩ := h_X2_isFull hT er3
  refine ey_bind qr3 ?_
  by_cases cd : r3.1 = 0
  · replace hg := it_pos cd hg
    refine ey_pos cd ?_
    exact h_X1_putIntoMagazines_j90 hT hg
  · replace hg := it_neg cd hg
    refine ey_neg cd ?_
    obtain ⟨v5, ev5, hg⟩ := bd hg
    refine ey_bind (ht_ref hT (by decide) ev5) ?_
    obtain ⟨v6, ev6, hg⟩ := bd hg
    refine ey_bind (ht_ald hT (kd := 12) rfl (by decide) ev6) ?_
    obtain ⟨u8, eu8, hg⟩ := bd hg
    refine ey_bind (ht_ck hT eu8) ?_
    obtain ⟨r7, er7, hg⟩ := bd hg
    obtain ⟨hr7, qr7, hT⟩ := h_X2_isFull hT er7
    refine ey_bind qr7 ?_
    by_cases cd : r7.1 ≠ 0
    · replace hg := it_pos cd hg
      refine ey_pos cd ?_
      obtain ⟨v9, ev9, hg⟩ := bd hg
      refine ey_bind (ht_get hT rfl ev9) ?_
      by_cases cd : 3 ≤ v9
      · replace hg := it_pos cd hg
        refine ey_pos cd ?_
        exact h_X1_putIntoMagazines_j90 hT hg
      · replace hg := it_neg cd hg
        refine ey_neg cd ?_
        obtain ⟨v10, ev10, hg⟩ := bd hg
        refine ey_bind (ht_ref hT (by decide) ev10) ?_
        obtain ⟨v11, ev11, hg⟩ := bd hg
        refine ey_bind (ht_get hT rfl ev11) ?_
        obtain ⟨v12, ev12, hg⟩ := bd hg
        refine ey_bind (ht_ref hT (by decide) ev12) ?_
        obtain ⟨v13, ev13, hg⟩ := bd hg
        refine ey_bind (ht_ald hT (kd := 12) rfl (by decide) ev13) ?_
        obtain ⟨Nh14, eh14, hg⟩ := bd hg
        obtain ⟨h14, qh14, hT⟩ := ht_asr hT (kd := 12) rfl (by decide) eh14
        refine ey_bind qh14 ?_
        obtain ⟨v15, ev15, hg⟩ := bd hg
        refine ey_bind (ht_get hT rfl ev15) ?_
        obtain ⟨Nh16, eh16, hg⟩ := bd hg
        obtain ⟨h16, qh16, hT⟩ := ht_put hT (by decide) eh16
        refine ey_bind qh16 ?_
        obtain ⟨v17, ev17, hg⟩ := bd hg
        refine ey_bind (ht_ref hT (by decide) ev17) ?_
        obtain ⟨v18, ev18, hg⟩ := bd hg
        refine ey_bind (ht_ref hT (by decide) ev18) ?_
        obtain ⟨v19, ev19, hg⟩ := bd hg
        refine ey_bind (ht_ald hT (kd := 12) rfl (by decide) ev19) ?_
        obtain ⟨Nh20, eh20, hg⟩ := bd hg
        obtain ⟨h20, qh20, hT⟩ := ht_asr hT (kd := 12) rfl (by decide) eh20
        refine ey_bind qh20 ?_
        obtain ⟨v21, ev21, hg⟩ := bd hg
        refine ey_bind (ht_ref hT (by decide) ev21) ?_
        obtain ⟨Nh22, eh22, hg⟩ := bd hg
        obtain ⟨h22, qh22, hT, enh22⟩ := ht_new hT (by decide) eh22
        refine ey_bind qh22 ?_
        try rw [enh22]
        obtain ⟨u24, eu24, hg⟩ := bd hg
        refine ey_bind (ht_ck hT eu24) ?_
        obtain ⟨r23, er23, hg⟩ := bd hg
        obtain ⟨hr23, qr23, hT⟩ := h_X2_init hT er23
        refine ey_bind qr23 ?_
        obtain ⟨Nh25, eh25, hg⟩ := bd hg
        obtain ⟨h25, qh25, hT⟩ := ht_asr hT (kd := 12) rfl (by decide) eh25
        refine ey_bind qh25 ?_
        exact h_X1_putIntoMagazines_j90 hT hg
    · replace hg := it_neg cd hg
      refine ey_neg cd ?_
      obtain ⟨u27, eu27, hg⟩ := bd hg
      refine ey_bind (ht_ck hT eu27) ?_
      obtain ⟨r26, er26, hg⟩ := bd hg
      obtain ⟨hr26, qr26, hT⟩ := h_X1_changePlaces hT er26
      refine ey_bind qr26 ?_
      exact h_X1_putIntoMagazines_j90 hT hg
noncomputable def t_X1_inMagazines_s9 (k9 : Th → Int → Int → Int → Option (Int × Th)) (h : Th) (x0 x1 x2 : Int) : Option (Int × Th) :=
  if 4 ≤ x2 then (
    some (x1, h)
  ) else (
    Option.bind (trf h 1 13 x0) fun v2 =>
    Option.bind (tal h 1 13 x0 v2 x2) fun v3 =>
    Option.bind (tgt h 2 1 v3) fun v4 =>
    Option.bind (trf h 1 14 x0) fun v5 =>
    Option.bind (tal h 1 14 x0 v5 x2) fun v6 =>
    Option.bind (tgt h 2 1 v6) fun v7 =>
    k9 h x0 (wr (x1 + (wr (v4 + v7)))) (wr (x2 + 1))
  )
noncomputable def t_X1_inMagazines_b9 : Nat → Th → Int → Int → Int → Option (Int × Th)
  | 0, _, _, _, _ => none
  | n + 1, h, x0, x1, x2 => t_X1_inMagazines_s9 (t_X1_inMagazines_b9 n) h x0 x1 x2
theorem h_X1_inMagazines_s9 {S : Nat → Prop} {h0 : Hp} {r : Int} {t' : Th} {kg9 : Th → Int → Int → Int → Option (Int × Th)} {kf9 : Hp → Int → Int → Int → Option (Int × Hp)} (hk9 : ∀ {h : Hp} {t : Th} {x0 x1 x2 : Int}, HT S h0 h t → kg9 t x0 x1 x2 = some (r, t') → ∃ h', kf9 h x0 x1 x2 = some (r, h') ∧ HT S h0 h' t') {h : Hp} {t : Th} {x0 x1 x2 : Int} (hT : HT S h0 h t) (hg : t_X1_inMagazines_s9 kg9 t x0 x1 x2 = some (r, t')) : ∃ h', f_X1_inMagazines_s9 kf9 h x0 x1 x2 = some (r, h') ∧ HT S h0 h' t' := by
  unfold t_X1_inMagazines_s9 at hg
  unfold f_X1_inMagazines_s9
  by_cases cd : 4 ≤ x2
  · replace hg := it_pos cd hg
    refine ey_pos cd ?_
    exact ey_ret hg hT
  · replace hg := it_neg cd hg
    refine ey_neg cd ?_
    obtain ⟨v2, ev2, hg⟩ := bd hg
    refine ey_bind (ht_ref hT (by decide) ev2) ?_
    obtain ⟨v3, ev3, hg⟩ := bd hg
    refine ey_bind (ht_ald hT (kd := 12) rfl (by decide) ev3) ?_
    obtain ⟨v4, ev4, hg⟩ := bd hg
    refine ey_bind (ht_get hT rfl ev4) ?_
    obtain ⟨v5, ev5, hg⟩ := bd hg
    refine ey_bind (ht_ref hT (by decide) ev5) ?_
    obtain ⟨v6, ev6, hg⟩ := bd hg
    refine ey_bind (ht_ald hT (kd := 12) rfl (by decide) ev6) ?_
    obtain ⟨v7, ev7, hg⟩ := bd hg
    refine ey_bind (ht_get hT rfl ev7) ?_
    exact hk9 hT hg
theorem h_X1_inMagazines_b9 {S : Nat → Prop} {h0 : Hp} {r : Int} {t' : Th} {n : Nat} {h : Hp} {t : Th} {x0 x1 x2 : Int} (hT : HT S h0 h t) (hg : t_X1_inMagazines_b9 n t x0 x1 x2 = some (r, t')) : ∃ h', f_X1_inMagazines_b9 n h x0 x1 x2 = some (r, h') ∧ HT S h0 h' t' := by
  induction n generalizing h t x0 x1 x2 with
  | zero => exact absurd hg (fun q => nomatch (show (none : Option (Int × Th)) = some (r, t') from q))
  | succ n ih => exact h_X1_inMagazines_s9 @ih hT hg
noncomputable def t_X1_inMagazines (h : Th) (x0 : Int) : Option (Int × Th) :=
  Option.bind (tgt h 1 16 x0) fun v1 =>
  t_X1_inMagazines_b9 fuel h x0 (wr (v1 * 4)) 0
theorem h_X1_inMagazines {S : Nat → Prop} {h0 : Hp} {r : Int} {t' : Th} {h : Hp} {t : Th} {x0 : Int} (hT : HT S h0 h t) (hg : t_X1_inMagazines t x0 = some (r, t')) : ∃ h', f_X1_inMagazines h x0 = some (r, h') ∧ HT S h0 h' t' := by
  unfold t_X1_inMagazines at hg
  unfold f_X1_inMagazines
  obtain ⟨v1, ev1, hg⟩ := bd hg
  refine ey_bind (ht_get hT rfl ev1) ?_
  exact h_X1_inMagazines_b9 hT hg
noncomputable def t_X3_makeRoomForOne_j54 (h : Th) : Option (Int × Th) :=
  some (0, h)
theorem h_X3_makeRoomForOne_j54 {S : Nat → Prop} {h0 : Hp} {r : Int} {t' : Th} {h : Hp} {t : Th} (hT : HT S h0 h t) (hg : t_X3_makeRoomForOne_j54 t  = some (r, t')) : ∃ h', f_X3_makeRoomForOne_j54 h  = some (r, h') ∧ HT S h0 h' t' := by
  unfold t_X3_makeRoomForOne_j54 at hg
  unfold f_X3_makeRoomForOne_j54
  exact ey_ret hg hT
noncomputable def t_X3_makeRoomForOne (h : Th) (x0 : Int) : Option (Int × Th) :=
  Option.bind (tgt h 3 7 x0) fun v1 =>
  Option.bind (trf h 3 9 x0) fun v2 =>
  Option.bind (tln h 3 9 x0 v2) fun v3 =>
  if v1 < v3 then (
    t_X3_makeRoomForOne_j54 h
  ) else (
    Option.bind (tgt h 3 0 x0) fun v4 =>
    Option.bind (tgt h 1 6 v4) fun v5 =>
    Option.bind (trf h 3 9 x0) fun v6 =>
    Option.bind (tln h 3 9 x0 v6) fun v7 =>
    Option.bind (trf h 3 9 x0) fun v8 =>
    Option.bind (tcp h 3 9 x0 v8 (imn v5 (wr (2 * v7)))) fun h10 =>
    Option.bind (trf h10 3 10 x0) fun v11 =>
    Option.bind (tcp h10 3 10 x0 v11 (imn v5 (wr (2 * v7)))) fun h13 =>
    t_X3_makeRoomForOne_j54 h13
  )
theorem h_X3_makeRoomForOne {S : Nat → Prop} {h0 : Hp} {r : Int} {t' : Th} {h : Hp} {t : Th} {x0 : Int} (hT : HT S h0 h t) (hg : t_X3_makeRoomForOne t x0 = some (r, t')) : ∃ h', f_X3_makeRoomForOne h x0 = some (r, h') ∧ HT S h0 h' t' := by
  unfold t_X3_makeRoomForOne at hg
  unfold f_X3_makeRoomForOne
  obtain ⟨v1, ev1, hg⟩ := bd hg
  refine ey_bind (ht_get hT rfl ev1) ?_
  obtain ⟨v2, ev2, hg⟩ := bd hg
  refine ey_bind (ht_ref hT (by decide) ev2) ?_
  obtain ⟨v3, ev3, hg⟩ := bd hg
  refine ey_bind (ht_aln hT rfl ev3) ?_
  by_cases cd : v1 < v3
  · replace hg := it_pos cd hg
    refine ey_pos cd ?_
    exact h_X3_makeRoomForOne_j54 hT hg
  · replace hg := it_neg cd hg
    refine ey_neg cd ?_
    obtain ⟨v4, ev4, hg⟩ := bd hg
    refine ey_bind (ht_get hT rfl ev4) ?_
    obtain ⟨v5, ev5, hg⟩ := bd hg
    refine ey_bind (ht_get hT rfl ev5) ?_
    obtain ⟨v6, ev6, hg⟩ := bd hg
    refine ey_bind (ht_ref hT (by decide) ev6) ?_
    obtain ⟨v7, ev7, hg⟩ := bd hg
    refine ey_bind (ht_aln hT rfl ev7) ?_
    obtain ⟨v8, ev8, hg⟩ := bd hg
    refine ey_bind (ht_ref hT (by decide) ev8) ?_
    obtain ⟨Nh10, eh10, hg⟩ := bd hg
    obtain ⟨r9, h10, qr9, qh10, hT⟩ := ht_cp hT rfl eh10
    refine ey_bind qr9 ?_
    refine ey_bind qh10 ?_
    obtain ⟨v11, ev11, hg⟩ := bd hg
    refine ey_bind (ht_ref hT (by decide) ev11) ?_
    obtain ⟨Nh13, eh13, hg⟩ := bd hg
    obtain ⟨r12, h13, qr12, qh13, hT⟩ := ht_cp hT rfl eh13
    refine ey_bind qr12 ?_
    refine ey_bind qh13 ?_
    exact h_X3_makeRoomForOne_j54 hT hg
noncomputable def t_X3_takeFirst_j81 (h : Th) (x1 : Int) : Option (Int × Th) :=
  some (x1, h)
theorem h_X3_takeFirst_j81 {S : Nat → Prop} {h0 : Hp} {r : Int} {t' : Th} {h : Hp} {t : Th} {x1 : Int} (hT : HT S h0 h t) (hg : t_X3_takeFirst_j81 t x1 = some (r, t')) : ∃ h', f_X3_takeFirst_j81 h x1 = some (r, h') ∧ HT S h0 h' t' := by
  unfold t_X3_takeFirst_j81 at hg
  unfold f_X3_takeFirst_j81
  exact ey_ret hg hT
noncomputable def t_X3_takeFirst (h : Th) (x0 : Int) : Option (Int × Th) :=
  Option.bind (tck h 3 x0) fun u2 =>
  Option.bind (t_X3_firstFree h x0) fun r1 =>
  Option.bind (tck r1.2 3 x0) fun u4 =>
  Option.bind (t_X3_wasTaken r1.2 x0 r1.1) fun r3 =>
  if r3.1 = 0 then (
    if r1.1 = (-1) then (
      t_X3_takeFirst_j81 r3.2 r1.1
    ) else (
      Option.bind (tck r3.2 3 x0) fun u6 =>
      Option.bind (t_X3_makeRoomForOne r3.2 x0) fun r5 =>
      Option.bind (trf r5.2 3 10 x0) fun v7 =>
      Option.bind (tgt r5.2 3 7 x0) fun v8 =>
      Option.bind (tgt r5.2 3 0 x0) fun v9 =>
      Option.bind (tgt r5.2 1 4 v9) fun v10 =>
      Option.bind (tas r5.2 3 10 x0 v7 v8 v10) fun h11 =>
      Option.bind (tgt h11 3 7 x0) fun v12 =>
      Option.bind (tpt h11 3 7 x0 (wr (v12 + 1))) fun h13 =>
      Option.bind (tgt h13 3 3 x0) fun v14 =>
      Option.bind (tpt h13 3 3 x0 (wr (v14 + 1))) fun h15 =>
      t_X3_takeFirst_j81 h15 r1.1
    )
  ) else (
    Option.bind (trf r3.2 3 9 x0) fun v16 =>
    Option.bind (tal r3.2 3 9 x0 v16 r1.1) fun v17 =>
    Option.bind (tpt r3.2 3 8 x0 v17) fun h18 =>
    Option.bind (tgt h18 3 3 x0) fun v19 =>
    Option.bind (tpt h18 3 3 x0 (wr (v19 + 1))) fun h20 =>
    t_X3_takeFirst_j81 h20 r1.1
  )
theorem h_X3_takeFirst {S : Nat → Prop} {h0 : Hp} {r : Int} {t' : Th} {h : Hp} {t : Th} {x0 : Int} (hT : HT S h0 h t) (hg : t_X3_takeFirst t x0 = some (r, t')) : ∃ h', f_X3_takeFirst h x0 = some (r, h') ∧ HT S h0 h' t' := by
  unfold t_X3_takeFirst at hg
  unfold f_X3_takeFirst
  obtain ⟨u2, eu2, hg⟩ := bd hg
  refine ey_bind (ht_ck hT eu2) ?_
  obtain ⟨r1, er1, hg⟩ := bd hg
  obtain ⟨hr1, qr1, hT⟩ := h_X3_firstFree hT er1
  refine ey_bind qr1 ?_
  obtain ⟨u4, eu4, hg⟩ := bd hg
  refine ey_bind (ht_ck hT eu4) ?_
  obtain ⟨r3, er3, hg⟩ := bd hg
  obtain ⟨hr3, qr3, hT⟩ := h_X3_wasTaken hT er3
  refine ey_bind qr3 ?_
  by_cases cd : r3.1 = 0
  · replace hg := it_pos cd hg
    refine ey_pos cd ?_
    by_cases cd : r1.1 = (-1)
    · replace hg := it_pos cd hg
      refine ey_pos cd ?_
      exact h_X3_takeFirst_j81 hT hg
    · replace hg := it_neg cd hg
      refine ey_neg cd ?_
      obtain ⟨u6, eu6, hg⟩ := bd hg
      refine ey_bind (ht_ck hT eu6) ?_
      obtain ⟨r5, er5, hg⟩ := bd hg
      obtain ⟨hr5, qr5, hT⟩ := h_X3_makeRoomForOne hT er5
      refine ey_bind qr5 ?_
      obtain ⟨v7, ev7, hg⟩ := bd hg
      refine ey_bind (ht_ref hT (by decide) ev7) ?_
      obtain ⟨v8, ev8, hg⟩ := bd hg
      refine ey_bind (ht_get hT rfl ev8) ?_
      obtain ⟨v9, ev9, hg⟩ := bd hg
      refine ey_bind (ht_get hT rfl ev9) ?_
      obtain ⟨v10, ev10, hg⟩ := bd hg
      refine ey_bind (ht_get hT rfl ev10) ?_
      obtain ⟨Nh11, eh11, hg⟩ := bd hg
      obtain ⟨h11, qh11, hT⟩ := ht_ast hT (kd := 8) rfl (by decide) eh11
      refine ey_bind qh11 ?_
      obtain ⟨v12, ev12, hg⟩ := bd hg
      refine ey_bind (ht_get hT rfl ev12) ?_
      obtain ⟨Nh13, eh13, hg⟩ := bd hg
      obtain ⟨h13, qh13, hT⟩ := ht_put hT (by decide) eh13
      refine ey_bind qh13 ?_
      obtain ⟨v14, ev14, hg⟩ := bd hg
      refine ey_bind (ht_get hT rfl ev14) ?_
      obtain ⟨Nh15, eh15, hg⟩ := bd hg
      obtain ⟨h15, qh15, hT⟩ := ht_put hT (by decide) eh15
      refine ey_bind qh15 ?_
      exact h_X3_takeFirst_j81 hT hg
  · replace hg := it_neg cd hg
    refine ey_neg cd ?_
    obtain ⟨v16, ev16, hg⟩ := bd hg
    refine ey_bind (ht_ref hT (by decide) ev16) ?_
    obtain ⟨v17, ev17, hg⟩ := bd hg
    refine ey_bind (ht_ald hT (kd := 8) rfl (by decide) ev17) ?_
    obtain ⟨Nh18, eh18, hg⟩ := bd hg
    obtain ⟨h18, qh18, hT⟩ := ht_put hT (by decide) eh18
    refine ey_bind qh18 ?_
    obtain ⟨v19, ev19, hg⟩ := bd hg
    refine ey_bind (ht_get hT rfl ev19) ?_
    obtain ⟨Nh20, eh20, hg⟩ := bd hg
    obtain ⟨h20, qh20, hT⟩ := ht_put hT (by decide) eh20
    refine ey_bind qh20 ?_
    exact h_X3_takeFirst_j81 hT hg
noncomputable def t_X5_init (h : Th) (x0 : Int) : Option (Int × Th) :=
  Option.bind (tck h 5 x0) fun u1 =>
  Option.bind (tno h 0) fun h2 =>
  Option.bind (tck h2 0 (tN h : Int)) fun u4 =>
  Option.bind (t_X0_init h2 (tN h : Int)) fun r3 =>
  Option.bind (tpt r3.2 5 0 x0 (tN h : Int)) fun h5 =>
  Option.bind (tan h5 5 1 256 x0 256) fun h7 =>
  Option.bind (tan h7 5 2 8 x0 8) fun h9 =>
  some (0, h9)
theorem h_X5_init {S : Nat → Prop} {h0 : Hp} {r : Int} {t' : Th} {h : Hp} {t : Th} {x0 : Int} (hT : HT S h0 h t) (hg : t_X5_init t x0 = some (r, t')) : ∃ h', f_X5_init h x0 = some (r, h') ∧ HT S h0 h' t' := by
  unfold t_X5_init at hg
  unfold f_X5_init
  obtain ⟨u1, eu1, hg⟩ := bd hg
  refine ey_bind (ht_ck hT eu1) ?_
  obtain ⟨Nh2, eh2, hg⟩ := bd hg
  obtain ⟨h2, qh2, hT, enh2⟩ := ht_new hT (by decide) eh2
  refine ey_bind qh2 ?_
  try rw [enh2]
  obtain ⟨u4, eu4, hg⟩ := bd hg
  refine ey_bind (ht_ck hT eu4) ?_
  obtain ⟨r3, er3, hg⟩ := bd hg
  obtain ⟨hr3, qr3, hT⟩ := h_X0_init hT er3
  refine ey_bind qr3 ?_
  obtain ⟨Nh5, eh5, hg⟩ := bd hg
  obtain ⟨h5, qh5, hT⟩ := ht_put hT (by decide) eh5
  refine ey_bind qh5 ?_
  obtain ⟨Nh7, eh7, hg⟩ := bd hg
  obtain ⟨h6, h7, qh6, qh7, hT⟩ := ht_an hT (kd := 13) rfl (by decide) eh7
  refine ey_bind qh6 ?_
  refine ey_bind qh7 ?_
  obtain ⟨Nh9, eh9, hg⟩ := bd hg
  obtain ⟨h8, h9, qh8, qh9, hT⟩ := ht_an hT (kd := 11) rfl (by decide) eh9
  refine ey_bind qh8 ?_
  refine ey_bind qh9 ?_
  exact ey_ret hg hT
noncomputable def t_X5_slabAt_j24 (h : Th) (s0 : Int) : Option (Int × Th) :=
  some (s0, h)
theorem h_X5_slabAt_j24 {S : Nat → Prop} {h0 : Hp} {r : Int} {t' : Th} {h : Hp} {t : Th} {s0 : Int} (hT : HT S h0 h t) (hg : t_X5_slabAt_j24 t s0 = some (r, t')) : ∃ h', f_X5_slabAt_j24 h s0 = some (r, h') ∧ HT S h0 h' t' := by
  unfold t_X5_slabAt_j24 at hg
  unfold f_X5_slabAt_j24
  exact ey_ret hg hT
noncomputable def t_X5_slabAt_j10 (h : Th) : Option (Int × Th) :=
  t_X5_slabAt_j24 h (-1)
theorem h_X5_slabAt_j10 {S : Nat → Prop} {h0 : Hp} {r : Int} {t' : Th} {h : Hp} {t : Th} (hT : HT S h0 h t) (hg : t_X5_slabAt_j10 t  = some (r, t')) : ∃ h', f_X5_slabAt_j10 h  = some (r, h') ∧ HT S h0 h' t' := by
  unfold t_X5_slabAt_j10 at hg
  unfold f_X5_slabAt_j10
  exact h_X5_slabAt_j24 hT hg
noncomputable def t_X5_slabAt (h : Th) (x0 x1 : Int) : Option (Int × Th) :=
  if x1 < 0 then (
    t_X5_slabAt_j10 h
  ) else (
    if x1 < 262144 then (
      Option.bind (trf h 5 1 x0) fun v1 =>
      Option.bind (idv x1 1024) fun v2 =>
      Option.bind (tal h 5 1 x0 v1 v2) fun v3 =>
      t_X5_slabAt_j24 h v3
    ) else (
      t_X5_slabAt_j10 h
    )
  )
theorem h_X5_slabAt {S : Nat → Prop} {h0 : Hp} {r : Int} {t' : Th} {h : Hp} {t : Th} {x0 x1 : Int} (hT : HT S h0 h t) (hg : t_X5_slabAt t x0 x1 = some (r, t')) : ∃ h', f_X5_slabAt h x0 x1 = some (r, h') ∧ HT S h0 h' t' := by
  unfold t_X5_slabAt at hg
  unfold f_X5_slabAt
  by_cases cd : x1 < 0
  · replace hg := it_pos cd hg
    refine ey_pos cd ?_
    exact h_X5_slabAt_j10 hT hg
  · replace hg := it_neg cd hg
    refine ey_neg cd ?_
    by_cases cd : x1 < 262144
    · replace hg := it_pos cd hg
      refine ey_pos cd ?_
      obtain ⟨v1, ev1, hg⟩ := bd hg
      refine ey_bind (ht_ref hT (by decide) ev1) ?_
      obtain ⟨v2, ev2, hg⟩ := bd hg
      refine ey_bind (ev2) ?_
      obtain ⟨v3, ev3, hg⟩ := bd hg
      refine ey_bind (ht_ald hT (kd := 13) rfl (by decide) ev3) ?_
      exact h_X5_slabAt_j24 hT hg
    · replace hg := it_neg cd hg
      refine ey_neg cd ?_
      exact h_X5_slabAt_j10 hT hg
noncomputable def t_X5_setPages_s27 (k27 : Th → Int → Int → Int → Int → Option (Int × Th)) (h : Th) (x0 x2 x3 x4 : Int) : Option (Int × Th) :=
  if x3 ≤ x4 then (
    some (0, h)
  ) else (
    Option.bind (trf h 5 1 x0) fun v5 =>
    Option.bind (trs h 5 1 x0 v5 x4 x2) fun h6 =>
    k27 h6 x0 x2 x3 (wr (x4 + 1))
  )
noncomputable def t_X5_setPages_b27 : Nat → Th → Int → Int → Int → Int → Option (Int × Th)
  | 0, _, _, _, _, _ => none
  | n + 1, h, x0, x2, x3, x4 => t_X5_setPages_s27 (t_X5_setPages_b27 n) h x0 x2 x3 x4
theorem h_X5_setPages_s27 {S : Nat → Prop} {h0 : Hp} {r : Int} {t' : Th} {kg27 : Th → Int → Int → Int → Int → Option (Int × Th)} {kf27 : Hp → Int → Int → Int → Int → Option (Int × Hp)} (hk27 : ∀ {h : Hp} {t : Th} {x0 x2 x3 x4 : Int}, HT S h0 h t → kg27 t x0 x2 x3 x4 = some (r, t') → ∃ h', kf27 h x0 x2 x3 x4 = some (r, h') ∧ HT S h0 h' t') {h : Hp} {t : Th} {x0 x2 x3 x4 : Int} (hT : HT S h0 h t) (hg : t_X5_setPages_s27 kg27 t x0 x2 x3 x4 = some (r, t')) : ∃ h', f_X5_setPages_s27 kf27 h x0 x2 x3 x4 = some (r, h') ∧ HT S h0 h' t' := by
  unfold t_X5_setPages_s27 at hg
  unfold f_X5_setPages_s27
  by_cases cd : x3 ≤ x4
  · replace hg := it_pos cd hg
    refine ey_pos cd ?_
    exact ey_ret hg hT
  · replace hg := it_neg cd hg
    refine ey_neg cd ?_
    obtain ⟨v5, ev5, hg⟩ := bd hg
    refine ey_bind (ht_ref hT (by decide) ev5) ?_
    obtain ⟨Nh6, eh6, hg⟩ := bd hg
    obtain ⟨h6, qh6, hT⟩ := ht_asr hT (kd := 13) rfl (by decide) eh6
    refine ey_bind qh6 ?_
    exact hk27 hT hg
theorem h_X5_setPages_b27 {S : Nat → Prop} {h0 : Hp} {r : Int} {t' : Th} {n : Nat} {h : Hp} {t : Th} {x0 x2 x3 x4 : Int} (hT : HT S h0 h t) (hg : t_X5_setPages_b27 n t x0 x2 x3 x4 = some (r, t')) : ∃ h', f_X5_setPages_b27 n h x0 x2 x3 x4 = some (r, h') ∧ HT S h0 h' t' := by
  induction n generalizing h t x0 x2 x3 x4 with
  | zero => exact absurd hg (fun q => nomatch (show (none : Option (Int × Th)) = some (r, t') from q))
  | succ n ih => exact h_X5_setPages_s27 @ih hT hg
noncomputable def t_X5_setPages (h : Th) (x0 x1 x2 : Int) : Option (Int × Th) :=
  Option.bind (tgt h 3 1 x1) fun v1 =>
  Option.bind (tgt h 3 0 x1) fun v2 =>
  Option.bind (tgt h 1 3 v2) fun v3 =>
  Option.bind (tgt h 3 1 x1) fun v4 =>
  t_X5_setPages_b27 fuel h x0 x2 (imn (wr (v1 + (ish 1 v3))) 256) v4
theorem h_X5_setPages {S : Nat → Prop} {h0 : Hp} {r : Int} {t' : Th} {h : Hp} {t : Th} {x0 x1 x2 : Int} (hT : HT S h0 h t) (hg : t_X5_setPages t x0 x1 x2 = some (r, t')) : ∃ h', f_X5_setPages h x0 x1 x2 = some (r, h') ∧ HT S h0 h' t' := by
  unfold t_X5_setPages at hg
  unfold f_X5_setPages
  obtain ⟨v1, ev1, hg⟩ := bd hg
  refine ey_bind (ht_get hT rfl ev1) ?_
  obtain ⟨v2, ev2, hg⟩ := bd hg
  refine ey_bind (ht_get hT rfl ev2) ?_
  obtain ⟨v3, ev3, hg⟩ := bd hg
  refine ey_bind (ht_get hT rfl ev3) ?_
  obtain ⟨v4, ev4, hg⟩ := bd hg
  refine ey_bind (ht_get hT rfl ev4) ?_
  exact h_X5_setPages_b27 hT hg
noncomputable def t_X5_giveBack (h : Th) (x0 x1 : Int) : Option (Int × Th) :=
  Option.bind (tgt h 3 0 x1) fun v1 =>
  Option.bind (tck h 1 v1) fun u3 =>
  Option.bind (t_X1_unlist h v1 x1) fun r2 =>
  Option.bind (tgt r2.2 3 0 x1) fun v4 =>
  Option.bind (tgt r2.2 1 9 v4) fun v5 =>
  Option.bind (tpt r2.2 1 9 v4 (wr (v5 - 1))) fun h6 =>
  Option.bind (tck h6 5 x0) fun u8 =>
  Option.bind (t_X5_setPages h6 x0 x1 (-1)) fun r7 =>
  Option.bind (tgt r7.2 5 0 x0) fun v9 =>
  Option.bind (tgt r7.2 3 1 x1) fun v10 =>
  Option.bind (tgt r7.2 3 0 x1) fun v11 =>
  Option.bind (tgt r7.2 1 3 v11) fun v12 =>
  Option.bind (tck r7.2 0 v9) fun u14 =>
  Option.bind (t_X0_giveBack r7.2 v9 v10 v12) fun r13 =>
  Option.bind (tgt r13.2 3 0 x1) fun v15 =>
  Option.bind (tgt r13.2 1 3 v15) fun v16 =>
  some (ish 1 v16, r13.2)
theorem h_X5_giveBack {S : Nat → Prop} {h0 : Hp} {r : Int} {t' : Th} {h : Hp} {t : Th} {x0 x1 : Int} (hT : HT S h0 h t) (hg : t_X5_giveBack t x0 x1 = some (r, t')) : ∃ h', f_X5_giveBack h x0 x1 = some (r, h') ∧ HT S h0 h' t' := by
  unfold t_X5_giveBack at hg
  unfold f_X5_giveBack
  obtain ⟨v1, ev1, hg⟩ := bd hg
  refine ey_bind (ht_get hT rfl ev1) ?_
  obtain ⟨u3, eu3, hg⟩ := bd hg
  refine ey_bind (ht_ck hT eu3) ?_
  obtain ⟨r2, er2, hg⟩ := bd hg
  obtain ⟨hr2, qr2, hT⟩ := h_X1_unlist hT er2
  refine ey_bind qr2 ?_
  obtain ⟨v4, ev4, hg⟩ := bd hg
  refine ey_bind (ht_get hT rfl ev4) ?_
  obtain ⟨v5, ev5, hg⟩ := bd hg
  refine ey_bind (ht_get hT rfl ev5) ?_
  obtain ⟨Nh6, eh6, hg⟩ := bd hg
  obtain ⟨h6, qh6, hT⟩ := ht_put hT (by decide) eh6
  refine ey_bind qh6 ?_
  obtain ⟨u8, eu8, hg⟩ := bd hg
  refine ey_bind (ht_ck hT eu8) ?_
  obtain ⟨r7, er7, hg⟩ := bd hg
  obtain ⟨hr7, qr7, hT⟩ := h_X5_setPages hT er7
  refine ey_bind qr7 ?_
  obtain ⟨v9, ev9, hg⟩ := bd hg
  refine ey_bind (ht_get hT rfl ev9) ?_
  obtain ⟨v10, ev10, hg⟩ := bd hg
  refine ey_bind (ht_get hT rfl ev10) ?_
  obtain ⟨v11, ev11, hg⟩ := bd hg
  refine ey_bind (ht_get hT rfl ev11) ?_
  obtain ⟨v12, ev12, hg⟩ := bd hg
  refine ey_bind (ht_get hT rfl ev12) ?_
  obtain ⟨u14, eu14, hg⟩ := bd hg
  refine ey_bind (ht_ck hT eu14) ?_
  obtain ⟨r13, er13, hg⟩ := bd hg
  obtain ⟨hr13, qr13, hT⟩ := h_X0_giveBack hT er13
  refine ey_bind qr13 ?_
  obtain ⟨v15, ev15, hg⟩ := bd hg
  refine ey_bind (ht_get hT rfl ev15) ?_
  obtain ⟨v16, ev16, hg⟩ := bd hg
  refine ey_bind (ht_get hT rfl ev16) ?_
  exact ey_ret hg hT
noncomputable def t_X5_reap_s38 (k4 : Th → Int → Int → Int → Option (Int × Th)) (k38 : Th → Int → Int → Int → Int → Option (Int × Th)) (h : Th) (x0 x1 x2 x3 : Int) : Option (Int × Th) :=
  if x3 < 0 then (
    k4 h x0 x1 (wr (x2 + 1))
  ) else (
    Option.bind (tgt h 3 6 x3) fun v8 =>
    Option.bind (tck h 5 x0) fun u10 =>
    Option.bind (t_X5_giveBack h x0 x3) fun r9 =>
    k38 r9.2 x0 (wr (x1 + r9.1)) x2 v8
  )
noncomputable def t_X5_reap_b38 (k4 : Th → Int → Int → Int → Option (Int × Th)) : Nat → Th → Int → Int → Int → Int → Option (Int × Th)
  | 0, _, _, _, _, _ => none
  | n + 1, h, x0, x1, x2, x3 => t_X5_reap_s38 k4 (t_X5_reap_b38 k4 n) h x0 x1 x2 x3
theorem h_X5_reap_s38 {S : Nat → Prop} {h0 : Hp} {r : Int} {t' : Th} {kg4 : Th → Int → Int → Int → Option (Int × Th)} {kf4 : Hp → Int → Int → Int → Option (Int × Hp)} (hk4 : ∀ {h : Hp} {t : Th} {x0 x1 x2 : Int}, HT S h0 h t → kg4 t x0 x1 x2 = some (r, t') → ∃ h', kf4 h x0 x1 x2 = some (r, h') ∧ HT S h0 h' t') {kg38 : Th → Int → Int → Int → Int → Option (Int × Th)} {kf38 : Hp → Int → Int → Int → Int → Option (Int × Hp)} (hk38 : ∀ {h : Hp} {t : Th} {x0 x1 x2 x3 : Int}, HT S h0 h t → kg38 t x0 x1 x2 x3 = some (r, t') → ∃ h', kf38 h x0 x1 x2 x3 = some (r, h') ∧ HT S h0 h' t') {h : Hp} {t : Th} {x0 x1 x2 x3 : Int} (hT : HT S h0 h t) (hg : t_X5_reap_s38 kg4 kg38 t x0 x1 x2 x3 = some (r, t')) : ∃ h', f_X5_reap_s38 kf4 kf38 h x0 x1 x2 x3 = some (r, h') ∧ HT S h0 h' t' := by
  unfold t_X5_reap_s38 at hg
  unfold f_X5_reap_s38
  by_cases cd : x3 < 0
  · replace hg := it_pos cd hg
    refine ey_pos cd ?_
    exact hk4 hT hg
  · replace hg := it_neg cd hg
    refine ey_neg cd ?_
    obtain ⟨v8, ev8, hg⟩ := bd hg
    refine ey_bind (ht_get hT rfl ev8) ?_
    obtain ⟨u10, eu10, hg⟩ := bd hg
    refine ey_bind (ht_ck hT eu10) ?_
    obtain ⟨r9, er9, hg⟩ := bd hg
    obtain ⟨hr9, qr9, hT⟩ := h_X5_giveBack hT er9
    refine ey_bind qr9 ?_
    exact hk38 hT hg
theorem h_X5_reap_b38 {S : Nat → Prop} {h0 : Hp} {r : Int} {t' : Th} {kg4 : Th → Int → Int → Int → Option (Int × Th)} {kf4 : Hp → Int → Int → Int → Option (Int × Hp)} (hk4 : ∀ {h : Hp} {t : Th} {x0 x1 x2 : Int}, HT S h0 h t → kg4 t x0 x1 x2 = some (r, t') → ∃ h', kf4 h x0 x1 x2 = some (r, h') ∧ HT S h0 h' t') {n : Nat} {h : Hp} {t : Th} {x0 x1 x2 x3 : Int} (hT : HT S h0 h t) (hg : t_X5_reap_b38 kg4 n t x0 x1 x2 x3 = some (r, t')) : ∃ h', f_X5_reap_b38 kf4 n h x0 x1 x2 x3 = some (r, h') ∧ HT S h0 h' t' := by
  induction n generalizing h t x0 x1 x2 x3 with
  | zero => exact absurd hg (fun q => nomatch (show (none : Option (Int × Th)) = some (r, t') from q))
  | succ n ih => exact h_X5_reap_s38 @hk4 @ih hT hg
noncomputable def t_X5_reap_j37 (k4 : Th → Int → Int → Int → Option (Int × Th)) (h : Th) (x0 x1 x2 s0 : Int) : Option (Int × Th) :=
  t_X5_reap_b38 k4 fuel h x0 x1 x2 s0
theorem h_X5_reap_j37 {S : Nat → Prop} {h0 : Hp} {r : Int} {t' : Th} {kg4 : Th → Int → Int → Int → Option (Int × Th)} {kf4 : Hp → Int → Int → Int → Option (Int × Hp)} (hk4 : ∀ {h : Hp} {t : Th} {x0 x1 x2 : Int}, HT S h0 h t → kg4 t x0 x1 x2 = some (r, t') → ∃ h', kf4 h x0 x1 x2 = some (r, h') ∧ HT S h0 h' t') {h : Hp} {t : Th} {x0 x1 x2 s0 : Int} (hT : HT S h0 h t) (hg : t_X5_reap_j37 kg4 t x0 x1 x2 s0 = some (r, t')) : ∃ h', f_X5_reap_j37 kf4 h x0 x1 x2 s0 = some (r, h') ∧ HT S h0 h' t' := by
  unfold t_X5_reap_j37 at hg
  unfold f_X5_reap_j37
  exact h_X5_reap_b38 @hk4 hT hg
noncomputable def t_X5_reap_s4 (k4 : Th → Int → Int → Int → Option (Int × Th)) (h : Th) (x0 x1 x2 : Int) : Option (Int × Th) :=
  if 8 ≤ x2 then (
    some (x1, h)
  ) else (
    Option.bind (trf h 5 2 x0) fun v1 =>
    Option.bind (tal h 5 2 x0 v1 x2) fun v2 =>
    if 0 ≤ v2 then (
      Option.bind (trf h 5 2 x0) fun v3 =>
      Option.bind (tal h 5 2 x0 v3 x2) fun v4 =>
      Option.bind (trf h 1 12 v4) fun v5 =>
      Option.bind (tal h 1 12 v4 v5 2) fun v6 =>
      Option.bind (tgt h 4 0 v6) fun v7 =>
      t_X5_reap_j37 k4 h x0 x1 x2 v7
    ) else (
      t_X5_reap_j37 k4 h x0 x1 x2 (-1)
    )
  )
noncomputable def t_X5_reap_b4 : Nat → Th → Int → Int → Int → Option (Int × Th)
  | 0, _, _, _, _ => none
  | n + 1, h, x0, x1, x2 => t_X5_reap_s4 (t_X5_reap_b4 n) h x0 x1 x2
theorem h_X5_reap_s4 {S : Nat → Prop} {h0 : Hp} {r : Int} {t' : Th} {kg4 : Th → Int → Int → Int → Option (Int × Th)} {kf4 : Hp → Int → Int → Int → Option (Int × Hp)} (hk4 : ∀ {h : Hp} {t : Th} {x0 x1 x2 : Int}, HT S h0 h t → kg4 t x0 x1 x2 = some (r, t') → ∃ h', kf4 h x0 x1 x2 = some (r, h') ∧ HT S h0 h' t') {h : Hp} {t : Th} {x0 x1 x2 : Int} (hT : HT S h0 h t) (hg : t_X5_reap_s4 kg4 t x0 x1 x2 = some (r, t')) : ∃ h', f_X5_reap_s4 kf4 h x0 x1 x2 = some (r, h') ∧ HT S h0 h' t' := by
  unfold t_X5_reap_s4 at hg
  unfold f_X5_reap_s4
  by_cases cd : 8 ≤ x2
  · replace hg := it_pos cd hg
    refine ey_pos cd ?_
    exact ey_ret hg hT
  · replace hg := it_neg cd hg
    refine ey_neg cd ?_
    obtain ⟨v1, ev1, hg⟩ := bd hg
    refine ey_bind (ht_ref hT (by decide) ev1) ?_
    obtain ⟨v2, ev2, hg⟩ := bd hg
    refine ey_bind (ht_ald hT (kd := 11) rfl (by decide) ev2) ?_
    by_cases cd : 0 ≤ v2
    · replace hg := it_pos cd hg
      refine ey_pos cd ?_
      obtain ⟨v3, ev3, hg⟩ := bd hg
      refine ey_bind (ht_ref hT (by decide) ev3) ?_
      obtain ⟨v4, ev4, hg⟩ := bd hg
      refine ey_bind (ht_ald hT (kd := 11) rfl (by decide) ev4) ?_
      obtain ⟨v5, ev5, hg⟩ := bd hg
      refine ey_bind (ht_ref hT (by decide) ev5) ?_
      obtain ⟨v6, ev6, hg⟩ := bd hg
      refine ey_bind (ht_ald hT (kd := 14) rfl (by decide) ev6) ?_
      obtain ⟨v7, ev7, hg⟩ := bd hg
      refine ey_bind (ht_get hT rfl ev7) ?_
      exact h_X5_reap_j37 @hk4 hT hg
    · replace hg := it_neg cd hg
      refine ey_neg cd ?_
      exact h_X5_reap_j37 @hk4 hT hg
theorem h_X5_reap_b4 {S : Nat → Prop} {h0 : Hp} {r : Int} {t' : Th} {n : Nat} {h : Hp} {t : Th} {x0 x1 x2 : Int} (hT : HT S h0 h t) (hg : t_X5_reap_b4 n t x0 x1 x2 = some (r, t')) : ∃ h', f_X5_reap_b4 n h x0 x1 x2 = some (r, h') ∧ HT S h0 h' t' := by
  induction n generalizing h t x0 x1 x2 with
  | zero => exact absurd hg (fun q => nomatch (show (none : Option (Int × Th)) = some (r, t') from q))
  | succ n ih => exact h_X5_reap_s4 @ih hT hg
noncomputable def t_X5_reap (h : Th) (x0 : Int) : Option (Int × Th) :=
  t_X5_reap_b4 fuel h x0 0 0
theorem h_X5_reap {S : Nat → Prop} {h0 : Hp} {r : Int} {t' : Th} {h : Hp} {t : Th} {x0 : Int} (hT : HT S h0 h t) (hg : t_X5_reap t x0 = some (r, t')) : ∃ h', f_X5_reap h x0 = some (r, h') ∧ HT S h0 h' t' := by
  unfold t_X5_reap at hg
  unfold f_X5_reap
  exact h_X5_reap_b4 hT hg
noncomputable def t_X5_makeSlab_j79 (h : Th) (x0 x1 x3 s0 s1 : Int) : Option (Int × Th) :=
  Option.bind (tpt h 1 8 s0 s1) fun h18 =>
  Option.bind (tgt h18 1 9 x1) fun v19 =>
  Option.bind (tpt h18 1 9 x1 (wr (v19 + 1))) fun h20 =>
  Option.bind (tck h20 1 x1) fun u22 =>
  Option.bind (t_X1_relist h20 x1 x3) fun r21 =>
  Option.bind (tck r21.2 5 x0) fun u24 =>
  Option.bind (t_X5_setPages r21.2 x0 x3 x3) fun r23 =>
  some (x3, r23.2)
theorem h_X5_makeSlab_j79 {S : Nat → Prop} {h0 : Hp} {r : Int} {t' : Th} {h : Hp} {t : Th} {x0 x1 x3 s0 s1 : Int} (hT : HT S h0 h t) (hg : t_X5_makeSlab_j79 t x0 x1 x3 s0 s1 = some (r, t')) : ∃ h', f_X5_makeSlab_j79 h x0 x1 x3 s0 s1 = some (r, h') ∧ HT S h0 h' t' := by
  unfold t_X5_makeSlab_j79 at hg
  unfold f_X5_makeSlab_j79
  obtain ⟨Nh18, eh18, hg⟩ := bd hg
  obtain ⟨h18, qh18, hT⟩ := ht_put hT (by decide) eh18
  refine ey_bind qh18 ?_
  obtain ⟨v19, ev19, hg⟩ := bd hg
  refine ey_bind (ht_get hT rfl ev19) ?_
  obtain ⟨Nh20, eh20, hg⟩ := bd hg
  obtain ⟨h20, qh20, hT⟩ := ht_put hT (by decide) eh20
  refine ey_bind qh20 ?_
  obtain ⟨u22, eu22, hg⟩ := bd hg
  refine ey_bind (ht_ck hT eu22) ?_
  obtain ⟨r21, er21, hg⟩ := bd hg
  obtain ⟨hr21, qr21, hT⟩ := h_X1_relist hT er21
  refine ey_bind qr21 ?_
  obtain ⟨u24, eu24, hg⟩ := bd hg
  refine ey_bind (ht_ck hT eu24) ?_
  obtain ⟨r23, er23, hg⟩ := bd hg
  obtain ⟨hr23, qr23, hT⟩ := h_X5_setPages hT er23
  refine ey_bind qr23 ?_
  exact ey_ret hg hT
noncomputable def t_X5_makeSlab_j34 (h : Th) (x0 x1 x2 : Int) : Option (Int × Th) :=
  if x2 ≠ (-1) then (
    Option.bind (tno h 3) fun h11 =>
    Option.bind (tgt h11 1 8 x1) fun v12 =>
    Option.bind (tck h11 3 (tN h : Int)) fun u14 =>
    Option.bind (t_X3_init h11 (tN h : Int) x1 x2 v12) fun r13 =>
    Option.bind (tgt r13.2 1 8 x1) fun v15 =>
    Option.bind (tgt r13.2 1 7 x1) fun v16 =>
    if v16 ≤ (wr (v15 + 1)) then (
      t_X5_makeSlab_j79 r13.2 x0 x1 (tN h : Int) x1 0
    ) else (
      Option.bind (tgt r13.2 1 8 x1) fun v17 =>
      t_X5_makeSlab_j79 r13.2 x0 x1 (tN h : Int) x1 (wr (v17 + 1))
    )
  ) else (
    some ((-1), h)
  )
theorem h_X5_makeSlab_j34 {S : Nat → Prop} {h0 : Hp} {r : Int} {t' : Th} {h : Hp} {t : Th} {x0 x1 x2 : Int} (hT : HT S h0 h t) (hg : t_X5_makeSlab_j34 t x0 x1 x2 = some (r, t')) : ∃ h', f_X5_makeSlab_j34 h x0 x1 x2 = some (r, h') ∧ HT S h0 h' t' := by
  unfold t_X5_makeSlab_j34 at hg
  unfold f_X5_makeSlab_j34
  by_cases cd : x2 ≠ (-1)
  · replace hg := it_pos cd hg
    refine ey_pos cd ?_
    obtain ⟨Nh11, eh11, hg⟩ := bd hg
    obtain ⟨h11, qh11, hT, enh11⟩ := ht_new hT (by decide) eh11
    refine ey_bind qh11 ?_
    try rw [enh11]
    obtain ⟨v12, ev12, hg⟩ := bd hg
    refine ey_bind (ht_get hT rfl ev12) ?_
    obtain ⟨u14, eu14, hg⟩ := bd hg
    refine ey_bind (ht_ck hT eu14) ?_
    obtain ⟨r13, er13, hg⟩ := bd hg
    obtain ⟨hr13, qr13, hT⟩ := h_X3_init hT er13
    refine ey_bind qr13 ?_
    obtain ⟨v15, ev15, hg⟩ := bd hg
    refine ey_bind (ht_get hT rfl ev15) ?_
    obtain ⟨v16, ev16, hg⟩ := bd hg
    refine ey_bind (ht_get hT rfl ev16) ?_
    by_cases cd : v16 ≤ (wr (v15 + 1))
    · replace hg := it_pos cd hg
      refine ey_pos cd ?_
      exact h_X5_makeSlab_j79 hT hg
    · replace hg := it_neg cd hg
      refine ey_neg cd ?_
      obtain ⟨v17, ev17, hg⟩ := bd hg
      refine ey_bind (ht_get hT rfl ev17) ?_
      exact h_X5_makeSlab_j79 hT hg
  · replace hg := it_neg cd hg
    refine ey_neg cd ?_
    exact ey_ret hg hT
noncomputable def t_X5_makeSlab (h : Th) (x0 x1 : Int) : Option (Int × Th) :=
  Option.bind (tgt h 5 0 x0) fun v1 =>
  Option.bind (tgt h 1 3 x1) fun v2 =>
  Option.bind (tck h 0 v1) fun u4 =>
  Option.bind (t_X0_take h v1 v2) fun r3 =>
  if r3.1 ≠ (-1) then (
    t_X5_makeSlab_j34 r3.2 x0 x1 r3.1
  ) else (
    Option.bind (tck r3.2 5 x0) fun u6 =>
    Option.bind (t_X5_reap r3.2 x0) fun r5 =>
    Option.bind (tgt r5.2 5 0 x0) fun v7 =>
    Option.bind (tgt r5.2 1 3 x1) fun v8 =>
    Option.bind (tck r5.2 0 v7) fun u10 =>
    Option.bind (t_X0_take r5.2 v7 v8) fun r9 =>
    t_X5_makeSlab_j34 r9.2 x0 x1 r9.1
  )
theorem h_X5_makeSlab {S : Nat → Prop} {h0 : Hp} {r : Int} {t' : Th} {h : Hp} {t : Th} {x0 x1 : Int} (hT : HT S h0 h t) (hg : t_X5_makeSlab t x0 x1 = some (r, t')) : ∃ h', f_X5_makeSlab h x0 x1 = some (r, h') ∧ HT S h0 h' t' := by
  unfold t_X5_makeSlab at hg
  unfold f_X5_makeSlab
  obtain ⟨v1, ev1, hg⟩ := bd hg
  refine ey_bind (ht_get hT rfl ev1) ?_
  obtain ⟨v2, ev2, hg⟩ := bd hg
  refine ey_bind (ht_get hT rfl ev2) ?_
  obtain ⟨u4, eu4, hg⟩ := bd hg
  refine ey_bind (ht_ck hT eu4) ?_
  obtain ⟨r3, er3, hg⟩ := bd hg
  obtain ⟨hr3, qr3, hT⟩ := h_X0_take hT er3
  refine ey_bind qr3 ?_
  by_cases cd : r3.1 ≠ (-1)
  · replace hg := it_pos cd hg
    refine ey_pos cd ?_
    exact h_X5_makeSlab_j34 hT hg
  · replace hg := it_neg cd hg
    refine ey_neg cd ?_
    obtain ⟨u6, eu6, hg⟩ := bd hg
    refine ey_bind (ht_ck hT eu6) ?_
    obtain ⟨r5, er5, hg⟩ := bd hg
    obtain ⟨hr5, qr5, hT⟩ := h_X5_reap hT er5
    refine ey_bind qr5 ?_
    obtain ⟨v7, ev7, hg⟩ := bd hg
    refine ey_bind (ht_get hT rfl ev7) ?_
    obtain ⟨v8, ev8, hg⟩ := bd hg
    refine ey_bind (ht_get hT rfl ev8) ?_
    obtain ⟨u10, eu10, hg⟩ := bd hg
    refine ey_bind (ht_ck hT eu10) ?_
    obtain ⟨r9, er9, hg⟩ := bd hg
    obtain ⟨hr9, qr9, hT⟩ := h_X0_take hT er9
    refine ey_bind qr9 ?_
    exact h_X5_makeSlab_j34 hT hg
noncomputable def t_X5_takeFromSlabs_j64 (h : Th) (s0 : Int) : Option (Int × Th) :=
  some (s0, h)
theorem h_X5_takeFromSlabs_j64 {S : Nat → Prop} {h0 : Hp} {r : Int} {t' : Th} {h : Hp} {t : Th} {s0 : Int} (hT : HT S h0 h t) (hg : t_X5_takeFromSlabs_j64 t s0 = some (r, t')) : ∃ h', f_X5_takeFromSlabs_j64 h s0 = some (r, h') ∧ HT S h0 h' t' := by
  unfold t_X5_takeFromSlabs_j64 at hg
  unfold f_X5_takeFromSlabs_j64
  exact ey_ret hg hT
noncomputable def t_X5_takeFromSlabs_j34 (h : Th) (x1 x2 : Int) : Option (Int × Th) :=
  if 0 ≤ x2 then (
    Option.bind (tck h 3 x2) fun u10 =>
    Option.bind (t_X3_takeFirst h x2) fun r9 =>
    Option.bind (tck r9.2 1 x1) fun u12 =>
    Option.bind (t_X1_relist r9.2 x1 x2) fun r11 =>
    if r9.1 ≠ (-1) then (
      Option.bind (tck r11.2 3 x2) fun u14 =>
      Option.bind (t_X3_beginOf r11.2 x2 r9.1) fun r13 =>
      t_X5_takeFromSlabs_j64 r13.2 r13.1
    ) else (
      t_X5_takeFromSlabs_j64 r11.2 (-1)
    )
  ) else (
    some ((-1), h)
  )
theorem h_X5_takeFromSlabs_j34 {S : Nat → Prop} {h0 : Hp} {r : Int} {t' : Th} {h : Hp} {t : Th} {x1 x2 : Int} (hT : HT S h0 h t) (hg : t_X5_takeFromSlabs_j34 t x1 x2 = some (r, t')) : ∃ h', f_X5_takeFromSlabs_j34 h x1 x2 = some (r, h') ∧ HT S h0 h' t' := by
  unfold t_X5_takeFromSlabs_j34 at hg
  unfold f_X5_takeFromSlabs_j34
  by_cases cd : 0 ≤ x2
  · replace hg := it_pos cd hg
    refine ey_pos cd ?_
    obtain ⟨u10, eu10, hg⟩ := bd hg
    refine ey_bind (ht_ck hT eu10) ?_
    obtain ⟨r9, er9, hg⟩ := bd hg
    obtain ⟨hr9, qr9, hT⟩ := h_X3_takeFirst hT er9
    refine ey_bind qr9 ?_
    obtain ⟨u12, eu12, hg⟩ := bd hg
    refine ey_bind (ht_ck hT eu12) ?_
    obtain ⟨r11, er11, hg⟩ := bd hg
    obtain ⟨hr11, qr11, hT⟩ := h_X1_relist hT er11
    refine ey_bind qr11 ?_
    by_cases cd : r9.1 ≠ (-1)
    · replace hg := it_pos cd hg
      refine ey_pos cd ?_
      obtain ⟨u14, eu14, hg⟩ := bd hg
      refine ey_bind (ht_ck hT eu14) ?_
      obtain ⟨r13, er13, hg⟩ := bd hg
      obtain ⟨hr13, qr13, hT⟩ := h_X3_beginOf hT er13
      refine ey_bind qr13 ?_
      exact h_X5_takeFromSlabs_j64 hT hg
    · replace hg := it_neg cd hg
      refine ey_neg cd ?_
      exact h_X5_takeFromSlabs_j64 hT hg
  · replace hg := it_neg cd hg
    refine ey_neg cd ?_
    exact ey_ret hg hT
noncomputable def t_X5_takeFromSlabs_j24 (h : Th) (x0 x1 x2 : Int) : Option (Int × Th) :=
  if 0 ≤ x2 then (
    t_X5_takeFromSlabs_j34 h x1 x2
  ) else (
    Option.bind (tck h 5 x0) fun u8 =>
    Option.bind (t_X5_makeSlab h x0 x1) fun r7 =>
    t_X5_takeFromSlabs_j34 r7.2 x1 r7.1
  )
theorem h_X5_takeFromSlabs_j24 {S : Nat → Prop} {h0 : Hp} {r : Int} {t' : Th} {h : Hp} {t : Th} {x0 x1 x2 : Int} (hT : HT S h0 h t) (hg : t_X5_takeFromSlabs_j24 t x0 x1 x2 = some (r, t')) : ∃ h', f_X5_takeFromSlabs_j24 h x0 x1 x2 = some (r, h') ∧ HT S h0 h' t' := by
  unfold t_X5_takeFromSlabs_j24 at hg
  unfold f_X5_takeFromSlabs_j24
  by_cases cd : 0 ≤ x2
  · replace hg := it_pos cd hg
    refine ey_pos cd ?_
    exact h_X5_takeFromSlabs_j34 hT hg
  · replace hg := it_neg cd hg
    refine ey_neg cd ?_
    obtain ⟨u8, eu8, hg⟩ := bd hg
    refine ey_bind (ht_ck hT eu8) ?_
    obtain ⟨r7, er7, hg⟩ := bd hg
    obtain ⟨hr7, qr7, hT⟩ := h_X5_makeSlab hT er7
    refine ey_bind qr7 ?_
    exact h_X5_takeFromSlabs_j34 hT hg
noncomputable def t_X5_takeFromSlabs (h : Th) (x0 x1 : Int) : Option (Int × Th) :=
  Option.bind (trf h 1 12 x1) fun v1 =>
  Option.bind (tal h 1 12 x1 v1 1) fun v2 =>
  Option.bind (tgt h 4 0 v2) fun v3 =>
  if 0 ≤ v3 then (
    t_X5_takeFromSlabs_j24 h x0 x1 v3
  ) else (
    Option.bind (trf h 1 12 x1) fun v4 =>
    Option.bind (tal h 1 12 x1 v4 2) fun v5 =>
    Option.bind (tgt h 4 0 v5) fun v6 =>
    t_X5_takeFromSlabs_j24 h x0 x1 v6
  )
theorem h_X5_takeFromSlabs {S : Nat → Prop} {h0 : Hp} {r : Int} {t' : Th} {h : Hp} {t : Th} {x0 x1 : Int} (hT : HT S h0 h t) (hg : t_X5_takeFromSlabs t x0 x1 = some (r, t')) : ∃ h', f_X5_takeFromSlabs h x0 x1 = some (r, h') ∧ HT S h0 h' t' := by
  unfold t_X5_takeFromSlabs at hg
  unfold f_X5_takeFromSlabs
  obtain ⟨v1, ev1, hg⟩ := bd hg
  refine ey_bind (ht_ref hT (by decide) ev1) ?_
  obtain ⟨v2, ev2, hg⟩ := bd hg
  refine ey_bind (ht_ald hT (kd := 14) rfl (by decide) ev2) ?_
  obtain ⟨v3, ev3, hg⟩ := bd hg
  refine ey_bind (ht_get hT rfl ev3) ?_
  by_cases cd : 0 ≤ v3
  · replace hg := it_pos cd hg
    refine ey_pos cd ?_
    exact h_X5_takeFromSlabs_j24 hT hg
  · replace hg := it_neg cd hg
    refine ey_neg cd ?_
    obtain ⟨v4, ev4, hg⟩ := bd hg
    refine ey_bind (ht_ref hT (by decide) ev4) ?_
    obtain ⟨v5, ev5, hg⟩ := bd hg
    refine ey_bind (ht_ald hT (kd := 14) rfl (by decide) ev5) ?_
    obtain ⟨v6, ev6, hg⟩ := bd hg
    refine ey_bind (ht_get hT rfl ev6) ?_
    exact h_X5_takeFromSlabs_j24 hT hg
noncomputable def t_X5_comeBack_j27 (h : Th) : Option (Int × Th) :=
  some (0, h)
theorem h_X5_comeBack_j27 {S : Nat → Prop} {h0 : Hp} {r : Int} {t' : Th} {h : Hp} {t : Th} (hT : HT S h0 h t) (hg : t_X5_comeBack_j27 t  = some (r, t')) : ∃ h', f_X5_comeBack_j27 h  = some (r, h') ∧ HT S h0 h' t' := by
  unfold t_X5_comeBack_j27 at hg
  unfold f_X5_comeBack_j27
  exact ey_ret hg hT
noncomputable def t_X5_comeBack (h : Th) (x0 x1 : Int) : Option (Int × Th) :=
  Option.bind (tck h 5 x0) fun u2 =>
  Option.bind (t_X5_slabAt h x0 x1) fun r1 =>
  if r1.1 < 0 then (
    t_X5_comeBack_j27 r1.2
  ) else (
    Option.bind (tck r1.2 3 r1.1) fun u4 =>
    Option.bind (t_X3_numberOver r1.2 r1.1 x1) fun r3 =>
    Option.bind (tck r3.2 3 r1.1) fun u6 =>
    Option.bind (t_X3_putFirst r3.2 r1.1 r3.1) fun r5 =>
    Option.bind (tgt r5.2 3 0 r1.1) fun v7 =>
    Option.bind (tck r5.2 1 v7) fun u9 =>
    Option.bind (t_X1_relist r5.2 v7 r1.1) fun r8 =>
    t_X5_comeBack_j27 r8.2
  )
theorem h_X5_comeBack {S : Nat → Prop} {h0 : Hp} {r : Int} {t' : Th} {h : Hp} {t : Th} {x0 x1 : Int} (hT : HT S h0 h t) (hg : t_X5_comeBack t x0 x1 = some (r, t')) : ∃ h', f_X5_comeBack h x0 x1 = some (r, h') ∧ HT S h0 h' t' := by
  unfold t_X5_comeBack at hg
  unfold f_X5_comeBack
  obtain ⟨u2, eu2, hg⟩ := bd hg
  refine ey_bind (ht_ck hT eu2) ?_
  obtain ⟨r1, er1, hg⟩ := bd hg
  obtain ⟨hr1, qr1, hT⟩ := h_X5_slabAt hT er1
  refine ey_bind qr1 ?_
  by_cases cd : r1.1 < 0
  · replace hg := it_pos cd hg
    refine ey_pos cd ?_
    exact h_X5_comeBack_j27 hT hg
  · replace hg := it_neg cd hg
    refine ey_neg cd ?_
    obtain ⟨u4, eu4, hg⟩ := bd hg
    refine ey_bind (ht_ck hT eu4) ?_
    obtain ⟨r3, er3, hg⟩ := bd hg
    obtain ⟨hr3, qr3, hT⟩ := h_X3_numberOver hT er3
    refine ey_bind qr3 ?_
    obtain ⟨u6, eu6, hg⟩ := bd hg
    refine ey_bind (ht_ck hT eu6) ?_
    obtain ⟨r5, er5, hg⟩ := bd hg
    obtain ⟨hr5, qr5, hT⟩ := h_X3_putFirst hT er5
    refine ey_bind qr5 ?_
    obtain ⟨v7, ev7, hg⟩ := bd hg
    refine ey_bind (ht_get hT rfl ev7) ?_
    obtain ⟨u9, eu9, hg⟩ := bd hg
    refine ey_bind (ht_ck hT eu9) ?_
    obtain ⟨r8, er8, hg⟩ := bd hg
    obtain ⟨hr8, qr8, hT⟩ := h_X1_relist hT er8
    refine ey_bind qr8 ?_
    exact h_X5_comeBack_j27 hT hg
noncomputable def t_X5_unload_s7 (k7 : Th → Int → Int → Int → Int → Option (Int × Th)) (h : Th) (x0 x1 x2 x3 : Int) : Option (Int × Th) :=
  if x2 ≤ x3 then (
    some (x2, h)
  ) else (
    Option.bind (tck h 2 x1) fun u3 =>
    Option.bind (t_X2_takeLast h x1) fun r2 =>
    Option.bind (tck r2.2 5 x0) fun u5 =>
    Option.bind (t_X5_comeBack r2.2 x0 r2.1) fun r4 =>
    k7 r4.2 x0 x1 x2 (wr (x3 + 1))
  )
noncomputable def t_X5_unload_b7 : Nat → Th → Int → Int → Int → Int → Option (Int × Th)
  | 0, _, _, _, _, _ => none
  | n + 1, h, x0, x1, x2, x3 => t_X5_unload_s7 (t_X5_unload_b7 n) h x0 x1 x2 x3
theorem h_X5_unload_s7 {S : Nat → Prop} {h0 : Hp} {r : Int} {t' : Th} {kg7 : Th → Int → Int → Int → Int → Option (Int × Th)} {kf7 : Hp → Int → Int → Int → Int → Option (Int × Hp)} (hk7 : ∀ {h : Hp} {t : Th} {x0 x1 x2 x3 : Int}, HT S h0 h t → kg7 t x0 x1 x2 x3 = some (r, t') → ∃ h', kf7 h x0 x1 x2 x3 = some (r, h') ∧ HT S h0 h' t') {h : Hp} {t : Th} {x0 x1 x2 x3 : Int} (hT : HT S h0 h t) (hg : t_X5_unload_s7 kg7 t x0 x1 x2 x3 = some (r, t')) : ∃ h', f_X5_unload_s7 kf7 h x0 x1 x2 x3 = some (r, h') ∧ HT S h0 h' t' := by
  unfold t_X5_unload_s7 at hg
  unfold f_X5_unload_s7
  by_cases cd : x2 ≤ x3
  · replace hg := it_pos cd hg
    refine ey_pos cd ?_
    exact ey_ret hg hT
  · replace hg := it_neg cd hg
    refine ey_neg cd ?_
    obtain ⟨u3, eu3, hg⟩ := bd hg
    refine ey_bind (ht_ck hT eu3) ?_
    obtain ⟨r2, er2, hg⟩ := bd hg
    obtain ⟨hr2, qr2, hT⟩ := h_X2_takeLast hT er2
    refine ey_bind qr2 ?_
    obtain ⟨u5, eu5, hg⟩ := bd hg
    refine ey_bind (ht_ck hT eu5) ?_
    obtain ⟨r4, er4, hg⟩ := bd hg
    obtain ⟨hr4, qr4, hT⟩ := h_X5_comeBack hT er4
    refine ey_bind qr4 ?_
    exact hk7 hT hg
theorem h_X5_unload_b7 {S : Nat → Prop} {h0 : Hp} {r : Int} {t' : Th} {n : Nat} {h : Hp} {t : Th} {x0 x1 x2 x3 : Int} (hT : HT S h0 h t) (hg : t_X5_unload_b7 n t x0 x1 x2 x3 = some (r, t')) : ∃ h', f_X5_unload_b7 n h x0 x1 x2 x3 = some (r, h') ∧ HT S h0 h' t' := by
  induction n generalizing h t x0 x1 x2 x3 with
  | zero => exact absurd hg (fun q => nomatch (show (none : Option (Int × Th)) = some (r, t') from q))
  | succ n ih => exact h_X5_unload_s7 @ih hT hg
noncomputable def t_X5_unload (h : Th) (x0 x1 : Int) : Option (Int × Th) :=
  Option.bind (tgt h 2 1 x1) fun v1 =>
  t_X5_unload_b7 fuel h x0 x1 v1 0
theorem h_X5_unload {S : Nat → Prop} {h0 : Hp} {r : Int} {t' : Th} {h : Hp} {t : Th} {x0 x1 : Int} (hT : HT S h0 h t) (hg : t_X5_unload t x0 x1 = some (r, t')) : ∃ h', f_X5_unload h x0 x1 = some (r, h') ∧ HT S h0 h' t' := by
  unfold t_X5_unload at hg
  unfold f_X5_unload
  obtain ⟨v1, ev1, hg⟩ := bd hg
  refine ey_bind (ht_get hT rfl ev1) ?_
  exact h_X5_unload_b7 hT hg
noncomputable def t_X5_cacheOf_j21 (h : Th) (s0 : Int) : Option (Int × Th) :=
  some (s0, h)
theorem h_X5_cacheOf_j21 {S : Nat → Prop} {h0 : Hp} {r : Int} {t' : Th} {h : Hp} {t : Th} {s0 : Int} (hT : HT S h0 h t) (hg : t_X5_cacheOf_j21 t s0 = some (r, t')) : ∃ h', f_X5_cacheOf_j21 h s0 = some (r, h') ∧ HT S h0 h' t' := by
  unfold t_X5_cacheOf_j21 at hg
  unfold f_X5_cacheOf_j21
  exact ey_ret hg hT
noncomputable def t_X5_cacheOf (h : Th) (x0 x1 : Int) : Option (Int × Th) :=
  Option.bind (tck h 5 x0) fun u2 =>
  Option.bind (t_X5_slabAt h x0 x1) fun r1 =>
  if 0 ≤ r1.1 then (
    Option.bind (tgt r1.2 3 0 r1.1) fun v3 =>
    Option.bind (tgt r1.2 1 0 v3) fun v4 =>
    t_X5_cacheOf_j21 r1.2 v4
  ) else (
    t_X5_cacheOf_j21 r1.2 (-1)
  )
theorem h_X5_cacheOf {S : Nat → Prop} {h0 : Hp} {r : Int} {t' : Th} {h : Hp} {t : Th} {x0 x1 : Int} (hT : HT S h0 h t) (hg : t_X5_cacheOf t x0 x1 = some (r, t')) : ∃ h', f_X5_cacheOf h x0 x1 = some (r, h') ∧ HT S h0 h' t' := by
  unfold t_X5_cacheOf at hg
  unfold f_X5_cacheOf
  obtain ⟨u2, eu2, hg⟩ := bd hg
  refine ey_bind (ht_ck hT eu2) ?_
  obtain ⟨r1, er1, hg⟩ := bd hg
  obtain ⟨hr1, qr1, hT⟩ := h_X5_slabAt hT er1
  refine ey_bind qr1 ?_
  by_cases cd : 0 ≤ r1.1
  · replace hg := it_pos cd hg
    refine ey_pos cd ?_
    obtain ⟨v3, ev3, hg⟩ := bd hg
    refine ey_bind (ht_get hT rfl ev3) ?_
    obtain ⟨v4, ev4, hg⟩ := bd hg
    refine ey_bind (ht_get hT rfl ev4) ?_
    exact h_X5_cacheOf_j21 hT hg
  · replace hg := it_neg cd hg
    refine ey_neg cd ?_
    exact h_X5_cacheOf_j21 hT hg
noncomputable def t_X5_objectOf_j55 (h : Th) (s0 : Int) : Option (Int × Th) :=
  some (s0, h)
theorem h_X5_objectOf_j55 {S : Nat → Prop} {h0 : Hp} {r : Int} {t' : Th} {h : Hp} {t : Th} {s0 : Int} (hT : HT S h0 h t) (hg : t_X5_objectOf_j55 t s0 = some (r, t')) : ∃ h', f_X5_objectOf_j55 h s0 = some (r, h') ∧ HT S h0 h' t' := by
  unfold t_X5_objectOf_j55 at hg
  unfold f_X5_objectOf_j55
  exact ey_ret hg hT
noncomputable def t_X5_objectOf (h : Th) (x0 x1 : Int) : Option (Int × Th) :=
  Option.bind (tck h 5 x0) fun u2 =>
  Option.bind (t_X5_slabAt h x0 x1) fun r1 =>
  if 0 ≤ r1.1 then (
    Option.bind (tck r1.2 3 r1.1) fun u4 =>
    Option.bind (t_X3_numberOver r1.2 r1.1 x1) fun r3 =>
    Option.bind (tck r3.2 3 r1.1) fun u6 =>
    Option.bind (t_X3_isLive r3.2 r1.1 r3.1) fun r5 =>
    if r5.1 ≠ 0 then (
      Option.bind (tck r5.2 3 r1.1) fun u8 =>
      Option.bind (t_X3_beginOf r5.2 r1.1 r3.1) fun r7 =>
      Option.bind (tgt r7.2 3 0 r1.1) fun v9 =>
      Option.bind (tgt r7.2 1 1 v9) fun v10 =>
      if v10 ≤ (wr (x1 - r7.1)) then (
        t_X5_objectOf_j55 r7.2 (-1)
      ) else (
        t_X5_objectOf_j55 r7.2 r7.1
      )
    ) else (
      some ((-1), r5.2)
    )
  ) else (
    some ((-1), r1.2)
  )
theorem h_X5_objectOf {S : Nat → Prop} {h0 : Hp} {r : Int} {t' : Th} {h : Hp} {t : Th} {x0 x1 : Int} (hT : HT S h0 h t) (hg : t_X5_objectOf t x0 x1 = some (r, t')) : ∃ h', f_X5_objectOf h x0 x1 = some (r, h') ∧ HT S h0 h' t' := by
  unfold t_X5_objectOf at hg
  unfold f_X5_objectOf
  obtain ⟨u2, eu2, hg⟩ := bd hg
  refine ey_bind (ht_ck hT eu2) ?_
  obtain ⟨r1, er1, hg⟩ := bd hg
  obtain ⟨hr1, qr1, hT⟩ := h_X5_slabAt hT er1
  refine ey_bind qr1 ?_
  by_cases cd : 0 ≤ r1.1
  · replace hg := it_pos cd hg
    refine ey_pos cd ?_
    obtain ⟨u4, eu4, hg⟩ := bd hg
    refine ey_bind (ht_ck hT eu4) ?_
    obtain ⟨r3, er3, hg⟩ := bd hg
    obtain ⟨hr3, qr3, hT⟩ := h_X3_numberOver hT er3
    refine ey_bind qr3 ?_
    obtain ⟨u6, eu6, hg⟩ := bd hg
    refine ey_bind (ht_ck hT eu6) ?_
    obtain ⟨r5, er5, hg⟩ := bd hg
    obtain ⟨hr5, qr5, hT⟩ := h_X3_isLive hT er5
    refine ey_bind qr5 ?_
    by_cases cd : r5.1 ≠ 0
    · replace hg := it_pos cd hg
      refine ey_pos cd ?_
      obtain ⟨u8, eu8, hg⟩ := bd hg
      refine ey_bind (ht_ck hT eu8) ?_
      obtain ⟨r7, er7, hg⟩ := bd hg
      obtain ⟨hr7, qr7, hT⟩ := h_X3_beginOf hT er7
      refine ey_bind qr7 ?_
      obtain ⟨v9, ev9, hg⟩ := bd hg
      refine ey_bind (ht_get hT rfl ev9) ?_
      obtain ⟨v10, ev10, hg⟩ := bd hg
      refine ey_bind (ht_get hT rfl ev10) ?_
      by_cases cd : v10 ≤ (wr (x1 - r7.1))
      · replace hg := it_pos cd hg
        refine ey_pos cd ?_
        exact h_X5_objectOf_j55 hT hg
      · replace hg := it_neg cd hg
        refine ey_neg cd ?_
        exact h_X5_objectOf_j55 hT hg
    · replace hg := it_neg cd hg
      refine ey_neg cd ?_
      exact ey_ret hg hT
  · replace hg := it_neg cd hg
    refine ey_neg cd ?_
    exact ey_ret hg hT
noncomputable def t_X5_pages_j32 (h : Th) (s0 : Int) : Option (Int × Th) :=
  some (s0, h)
theorem h_X5_pages_j32 {S : Nat → Prop} {h0 : Hp} {r : Int} {t' : Th} {h : Hp} {t : Th} {s0 : Int} (hT : HT S h0 h t) (hg : t_X5_pages_j32 t s0 = some (r, t')) : ∃ h', f_X5_pages_j32 h s0 = some (r, h') ∧ HT S h0 h' t' := by
  unfold t_X5_pages_j32 at hg
  unfold f_X5_pages_j32
  exact ey_ret hg hT
noncomputable def t_X5_pages (h : Th) (x0 x1 : Int) : Option (Int × Th) :=
  if x1 ≠ 0 then (
    if x1 ≠ 1 then (
      t_X5_pages_j32 h (-1)
    ) else (
      Option.bind (tgt h 5 0 x0) fun v1 =>
      Option.bind (tgt h 0 1 v1) fun v2 =>
      t_X5_pages_j32 h (wr (256 - v2))
    )
  ) else (
    Option.bind (tgt h 5 0 x0) fun v3 =>
    Option.bind (tgt h 0 1 v3) fun v4 =>
    some (v4, h)
  )
theorem h_X5_pages {S : Nat → Prop} {h0 : Hp} {r : Int} {t' : Th} {h : Hp} {t : Th} {x0 x1 : Int} (hT : HT S h0 h t) (hg : t_X5_pages t x0 x1 = some (r, t')) : ∃ h', f_X5_pages h x0 x1 = some (r, h') ∧ HT S h0 h' t' := by
  unfold t_X5_pages at hg
  unfold f_X5_pages
  by_cases cd : x1 ≠ 0
  · replace hg := it_pos cd hg
    refine ey_pos cd ?_
    by_cases cd : x1 ≠ 1
    · replace hg := it_pos cd hg
      refine ey_pos cd ?_
      exact h_X5_pages_j32 hT hg
    · replace hg := it_neg cd hg
      refine ey_neg cd ?_
      obtain ⟨v1, ev1, hg⟩ := bd hg
      refine ey_bind (ht_get hT rfl ev1) ?_
      obtain ⟨v2, ev2, hg⟩ := bd hg
      refine ey_bind (ht_get hT rfl ev2) ?_
      exact h_X5_pages_j32 hT hg
  · replace hg := it_neg cd hg
    refine ey_neg cd ?_
    obtain ⟨v3, ev3, hg⟩ := bd hg
    refine ey_bind (ht_get hT rfl ev3) ?_
    obtain ⟨v4, ev4, hg⟩ := bd hg
    refine ey_bind (ht_get hT rfl ev4) ?_
    exact ey_ret hg hT
noncomputable def t_X5_knownCache_j19 (h : Th) : Option (Nat × Int × Th) :=
  some (1, 0, h)
theorem h_X5_knownCache_j19 {S : Nat → Prop} {h0 : Hp} {r : Int} {code : Nat} {t' : Th} {h : Hp} {t : Th} (hT : HT S h0 h t) (hg : t_X5_knownCache_j19 t  = some (code, r, t')) : ∃ h', f_X5_knownCache_j19 h  = some (code, r, h') ∧ HT S h0 h' t' := by
  unfold t_X5_knownCache_j19 at hg
  unfold f_X5_knownCache_j19
  exact ey_xret hg hT
noncomputable def t_X5_knownCache (h : Th) (x0 x1 : Int) : Option (Nat × Int × Th) :=
  if x1 < 0 then (
    t_X5_knownCache_j19 h
  ) else (
    if 8 ≤ x1 then (
      t_X5_knownCache_j19 h
    ) else (
      Option.bind (trf h 5 2 x0) fun v1 =>
      Option.bind (tal h 5 2 x0 v1 x1) fun v2 =>
      if 0 ≤ v2 then (
        Option.bind (trf h 5 2 x0) fun v3 =>
        Option.bind (tal h 5 2 x0 v3 x1) fun v4 =>
        some (0, v4, h)
      ) else (
        t_X5_knownCache_j19 h
      )
    )
  )
theorem h_X5_knownCache {S : Nat → Prop} {h0 : Hp} {r : Int} {code : Nat} {t' : Th} {h : Hp} {t : Th} {x0 x1 : Int} (hT : HT S h0 h t) (hg : t_X5_knownCache t x0 x1 = some (code, r, t')) : ∃ h', f_X5_knownCache h x0 x1 = some (code, r, h') ∧ HT S h0 h' t' := by
  unfold t_X5_knownCache at hg
  unfold f_X5_knownCache
  by_cases cd : x1 < 0
  · replace hg := it_pos cd hg
    refine ey_pos cd ?_
    exact h_X5_knownCache_j19 hT hg
  · replace hg := it_neg cd hg
    refine ey_neg cd ?_
    by_cases cd : 8 ≤ x1
    · replace hg := it_pos cd hg
      refine ey_pos cd ?_
      exact h_X5_knownCache_j19 hT hg
    · replace hg := it_neg cd hg
      refine ey_neg cd ?_
      obtain ⟨v1, ev1, hg⟩ := bd hg
      refine ey_bind (ht_ref hT (by decide) ev1) ?_
      obtain ⟨v2, ev2, hg⟩ := bd hg
      refine ey_bind (ht_ald hT (kd := 11) rfl (by decide) ev2) ?_
      by_cases cd : 0 ≤ v2
      · replace hg := it_pos cd hg
        refine ey_pos cd ?_
        obtain ⟨v3, ev3, hg⟩ := bd hg
        refine ey_bind (ht_ref hT (by decide) ev3) ?_
        obtain ⟨v4, ev4, hg⟩ := bd hg
        refine ey_bind (ht_ald hT (kd := 11) rfl (by decide) ev4) ?_
        exact ey_xret hg hT
      · replace hg := it_neg cd hg
        refine ey_neg cd ?_
        exact h_X5_knownCache_j19 hT hg
noncomputable def t_X5_requireProcessor_j9 (h : Th) : Option (Nat × Int × Th) :=
  some (2, 0, h)
theorem h_X5_requireProcessor_j9 {S : Nat → Prop} {h0 : Hp} {r : Int} {code : Nat} {t' : Th} {h : Hp} {t : Th} (hT : HT S h0 h t) (hg : t_X5_requireProcessor_j9 t  = some (code, r, t')) : ∃ h', f_X5_requireProcessor_j9 h  = some (code, r, h') ∧ HT S h0 h' t' := by
  unfold t_X5_requireProcessor_j9 at hg
  unfold f_X5_requireProcessor_j9
  exact ey_xret hg hT
noncomputable def t_X5_requireProcessor (h : Th) (x0 : Int) : Option (Nat × Int × Th) :=
  if x0 < 0 then (
    t_X5_requireProcessor_j9 h
  ) else (
    if x0 < 4 then (
      some (0, 0, h)
    ) else (
      t_X5_requireProcessor_j9 h
    )
  )
theorem h_X5_requireProcessor {S : Nat → Prop} {h0 : Hp} {r : Int} {code : Nat} {t' : Th} {h : Hp} {t : Th} {x0 : Int} (hT : HT S h0 h t) (hg : t_X5_requireProcessor t x0 = some (code, r, t')) : ∃ h', f_X5_requireProcessor h x0 = some (code, r, h') ∧ HT S h0 h' t' := by
  unfold t_X5_requireProcessor at hg
  unfold f_X5_requireProcessor
  by_cases cd : x0 < 0
  · replace hg := it_pos cd hg
    refine ey_pos cd ?_
    exact h_X5_requireProcessor_j9 hT hg
  · replace hg := it_neg cd hg
    refine ey_neg cd ?_
    by_cases cd : x0 < 4
    · replace hg := it_pos cd hg
      refine ey_pos cd ?_
      exact ey_xret hg hT
    · replace hg := it_neg cd hg
      refine ey_neg cd ?_
      exact h_X5_requireProcessor_j9 hT hg
noncomputable def t_X5_cache_j20 (h : Th) : Option (Nat × Int × Th) :=
  some (2, 0, h)
theorem h_X5_cache_j20 {S : Nat → Prop} {h0 : Hp} {r : Int} {code : Nat} {t' : Th} {h : Hp} {t : Th} (hT : HT S h0 h t) (hg : t_X5_cache_j20 t  = some (code, r, t')) : ∃ h', f_X5_cache_j20 h  = some (code, r, h') ∧ HT S h0 h' t' := by
  unfold t_X5_cache_j20 at hg
  unfold f_X5_cache_j20
  exact ey_xret hg hT
noncomputable def t_X5_cache_j73 (h : Th) : Option (Nat × Int × Th) :=
  some (2, 0, h)
theorem h_X5_cache_j73 {S : Nat → Prop} {h0 : Hp} {r : Int} {code : Nat} {t' : Th} {h : Hp} {t : Th} (hT : HT S h0 h t) (hg : t_X5_cache_j73 t  = some (code, r, t')) : ∃ h', f_X5_cache_j73 h  = some (code, r, h') ∧ HT S h0 h' t' := by
  unfold t_X5_cache_j73 at hg
  unfold f_X5_cache_j73
  exact ey_xret hg hT
noncomputable def t_X5_cache_j64 (h : Th) (x0 x1 x2 x3 x4 : Int) : Option (Nat × Int × Th) :=
  if x3 < 0 then (
    t_X5_cache_j73 h
  ) else (
    if x3 ≤ 3 then (
      Option.bind (t_X5_roundedUp h x1 x2) fun r2 =>
      if r2.1 ≤ (ish 1024 x3) then (
        Option.bind (tgt r2.2 5 3 x0) fun v3 =>
        if v3 < 8 then (
          Option.bind (tgt r2.2 5 3 x0) fun v4 =>
          Option.bind (trf r2.2 5 2 x0) fun v5 =>
          Option.bind (tno r2.2 1) fun h6 =>
          Option.bind (tck h6 1 (tN r2.2 : Int)) fun u8 =>
          Option.bind (t_X1_init h6 (tN r2.2 : Int) v4 x1 x2 x3 x4) fun r7 =>
          Option.bind (trs r7.2 5 2 x0 v5 v4 (tN r2.2 : Int)) fun h9 =>
          Option.bind (tgt h9 5 3 x0) fun v10 =>
          Option.bind (tpt h9 5 3 x0 (wr (v10 + 1))) fun h11 =>
          some (0, v4, h11)
        ) else (
          some (0, (-1), r2.2)
        )
      ) else (
        some (2, 0, r2.2)
      )
    ) else (
      t_X5_cache_j73 h
    )
  )
theorem h_X5_cache_j64 {S : Nat → Prop} {h0 : Hp} {r : Int} {code : Nat} {t' : Th} {h : Hp} {t : Th} {x0 x1 x2 x3 x4 : Int} (hT : HT S h0 h t) (hg : t_X5_cache_j64 t x0 x1 x2 x3 x4 = some (code, r, t')) : ∃ h', f_X5_cache_j64 h x0 x1 x2 x3 x4 = some (code, r, h') ∧ HT S h0 h' t' := by
  unfold t_X5_cache_j64 at hg
  unfold f_X5_cache_j64
  by_cases cd : x3 < 0
  · replace hg := it_pos cd hg
    refine ey_pos cd ?_
    exact h_X5_cache_j73 hT hg
  · replace hg := it_neg cd hg
    refine ey_neg cd ?_
    by_cases cd : x3 ≤ 3
    · replace hg := it_pos cd hg
      refine ey_pos cd ?_
      obtain ⟨r2, er2, hg⟩ := bd hg
      obtain ⟨hr2, qr2, hT⟩ := h_X5_roundedUp hT er2
      refine ey_bind qr2 ?_
      by_cases cd : r2.1 ≤ (ish 1024 x3)
      · replace hg := it_pos cd hg
        refine ey_pos cd ?_
        obtain ⟨v3, ev3, hg⟩ := bd hg
        refine ey_bind (ht_get hT rfl ev3) ?_
        by_cases cd : v3 < 8
        · replace hg := it_pos cd hg
          refine ey_pos cd ?_
          obtain ⟨v4, ev4, hg⟩ := bd hg
          refine ey_bind (ht_get hT rfl ev4) ?_
          obtain ⟨v5, ev5, hg⟩ := bd hg
          refine ey_bind (ht_ref hT (by decide) ev5) ?_
          obtain ⟨Nh6, eh6, hg⟩ := bd hg
          obtain ⟨h6, qh6, hT, enh6⟩ := ht_new hT (by decide) eh6
          refine ey_bind qh6 ?_
          try rw [enh6]
          obtain ⟨u8, eu8, hg⟩ := bd hg
          refine ey_bind (ht_ck hT eu8) ?_
          obtain ⟨r7, er7, hg⟩ := bd hg
          obtain ⟨hr7, qr7, hT⟩ := h_X1_init hT er7
          refine ey_bind qr7 ?_
          obtain ⟨Nh9, eh9, hg⟩ := bd hg
          obtain ⟨h9, qh9, hT⟩ := ht_asr hT (kd := 11) rfl (by decide) eh9
          refine ey_bind qh9 ?_
          obtain ⟨v10, ev10, hg⟩ := bd hg
          refine ey_bind (ht_get hT rfl ev10) ?_
          obtain ⟨Nh11, eh11, hg⟩ := bd hg
          obtain ⟨h11, qh11, hT⟩ := ht_put hT (by decide) eh11
          refine ey_bind qh11 ?_
          exact ey_xret hg hT
        · replace hg := it_neg cd hg
          refine ey_neg cd ?_
          exact ey_xret hg hT
      · replace hg := it_neg cd hg
        refine ey_neg cd ?_
        exact ey_xret hg hT
    · replace hg := it_neg cd hg
      refine ey_neg cd ?_
      exact h_X5_cache_j73 hT hg
noncomputable def t_X5_cache (h : Th) (x0 x1 x2 x3 x4 : Int) : Option (Nat × Int × Th) :=
  if x1 < 8 then (
    t_X5_cache_j20 h
  ) else (
    if 4096 < x1 then (
      t_X5_cache_j20 h
    ) else (
      Option.bind (irm x1 8) fun v1 =>
      if v1 = 0 then (
        if x2 = 8 then (
          t_X5_cache_j64 h x0 x1 x2 x3 x4
        ) else (
          if x2 = 16 then (
            t_X5_cache_j64 h x0 x1 x2 x3 x4
          ) else (
            if x2 = 32 then (
              t_X5_cache_j64 h x0 x1 x2 x3 x4
            ) else (
              if x2 = 64 then (
                t_X5_cache_j64 h x0 x1 x2 x3 x4
              ) else (
                some (2, 0, h)
              )
            )
          )
        )
      ) else (
        t_X5_cache_j20 h
      )
    )
  )
theorem h_X5_cache {S : Nat → Prop} {h0 : Hp} {r : Int} {code : Nat} {t' : Th} {h : Hp} {t : Th} {x0 x1 x2 x3 x4 : Int} (hT : HT S h0 h t) (hg : t_X5_cache t x0 x1 x2 x3 x4 = some (code, r, t')) : ∃ h', f_X5_cache h x0 x1 x2 x3 x4 = some (code, r, h') ∧ HT S h0 h' t' := by
  unfold t_X5_cache at hg
  unfold f_X5_cache
  by_cases cd : x1 < 8
  · replace hg := it_pos cd hg
    refine ey_pos cd ?_
    exact h_X5_cache_j20 hT hg
  · replace hg := it_neg cd hg
    refine ey_neg cd ?_
    by_cases cd : 4096 < x1
    · replace hg := it_pos cd hg
      refine ey_pos cd ?_
      exact h_X5_cache_j20 hT hg
    · replace hg := it_neg cd hg
      refine ey_neg cd ?_
      obtain ⟨v1, ev1, hg⟩ := bd hg
      refine ey_bind (ev1) ?_
      by_cases cd : v1 = 0
      · replace hg := it_pos cd hg
        refine ey_pos cd ?_
        by_cases cd : x2 = 8
        · replace hg := it_pos cd hg
          refine ey_pos cd ?_
          exact h_X5_cache_j64 hT hg
        · replace hg := it_neg cd hg
          refine ey_neg cd ?_
          by_cases cd : x2 = 16
          · replace hg := it_pos cd hg
            refine ey_pos cd ?_
            exact h_X5_cache_j64 hT hg
          · replace hg := it_neg cd hg
            refine ey_neg cd ?_
            by_cases cd : x2 = 32
            · replace hg := it_pos cd hg
              refine ey_pos cd ?_
              exact h_X5_cache_j64 hT hg
            · replace hg := it_neg cd hg
              refine ey_neg cd ?_
              by_cases cd : x2 = 64
              · replace hg := it_pos cd hg
                refine ey_pos cd ?_
                exact h_X5_cache_j64 hT hg
              · replace hg := it_neg cd hg
                refine ey_neg cd ?_
                exact ey_xret hg hT
      · replace hg := it_neg cd hg
        refine ey_neg cd ?_
        exact h_X5_cache_j20 hT hg
noncomputable def t_X5_drop_j68 (k28 : Th → Int → Int → Int → Int → Option (Nat × Int × Th)) (h : Th) (x0 x2 x3 x4 : Int) : Option (Nat × Int × Th) :=
  k28 h x0 x2 x3 (wr (x4 + 1))
theorem h_X5_drop_j68 {S : Nat → Prop} {h0 : Hp} {r : Int} {code : Nat} {t' : Th} {kg28 : Th → Int → Int → Int → Int → Option (Nat × Int × Th)} {kf28 : Hp → Int → Int → Int → Int → Option (Nat × Int × Hp)} (hk28 : ∀ {h : Hp} {t : Th} {x0 x2 x3 x4 : Int}, HT S h0 h t → kg28 t x0 x2 x3 x4 = some (code, r, t') → ∃ h', kf28 h x0 x2 x3 x4 = some (code, r, h') ∧ HT S h0 h' t') {h : Hp} {t : Th} {x0 x2 x3 x4 : Int} (hT : HT S h0 h t) (hg : t_X5_drop_j68 kg28 t x0 x2 x3 x4 = some (code, r, t')) : ∃ h', f_X5_drop_j68 kf28 h x0 x2 x3 x4 = some (code, r, h') ∧ HT S h0 h' t' := by
  unfold t_X5_drop_j68 at hg
  unfold f_X5_drop_j68
  exact hk28 hT hg
noncomputable def t_X5_drop_s28 (k28 : Th → Int → Int → Int → Int → Option (Nat × Int × Th)) (h : Th) (x0 x2 x3 x4 : Int) : Option (Nat × Int × Th) :=
  if 256 ≤ x4 then (
    Option.bind (trf h 5 2 x0) fun v4 =>
    Option.bind (tgt h 1 0 x2) fun v5 =>
    Option.bind (trs h 5 2 x0 v4 v5 (-1)) fun h6 =>
    some (0, x3, h6)
  ) else (
    Option.bind (trf h 5 1 x0) fun v7 =>
    Option.bind (tal h 5 1 x0 v7 x4) fun v8 =>
    if v8 < 0 then (
      t_X5_drop_j68 k28 h x0 x2 x3 x4
    ) else (
      Option.bind (tgt h 3 0 v8) fun v9 =>
      if ¬ rO v9 = rO x2 then (
        t_X5_drop_j68 k28 h x0 x2 x3 x4
      ) else (
        Option.bind (tck h 5 x0) fun u11 =>
        Option.bind (t_X5_giveBack h x0 v8) fun r10 =>
        t_X5_drop_j68 k28 r10.2 x0 x2 (wr (x3 + r10.1)) x4
      )
    )
  )
noncomputable def t_X5_drop_b28 : Nat → Th → Int → Int → Int → Int → Option (Nat × Int × Th)
  | 0, _, _, _, _, _ => none
  | n + 1, h, x0, x2, x3, x4 => t_X5_drop_s28 (t_X5_drop_b28 n) h x0 x2 x3 x4
theorem h_X5_drop_s28 {S : Nat → Prop} {h0 : Hp} {r : Int} {code : Nat} {t' : Th} {kg28 : Th → Int → Int → Int → Int → Option (Nat × Int × Th)} {kf28 : Hp → Int → Int → Int → Int → Option (Nat × Int × Hp)} (hk28 : ∀ {h : Hp} {t : Th} {x0 x2 x3 x4 : Int}, HT S h0 h t → kg28 t x0 x2 x3 x4 = some (code, r, t') → ∃ h', kf28 h x0 x2 x3 x4 = some (code, r, h') ∧ HT S h0 h' t') {h : Hp} {t : Th} {x0 x2 x3 x4 : Int} (hT : HT S h0 h t) (hg : t_X5_drop_s28 kg28 t x0 x2 x3 x4 = some (code, r, t')) : ∃ h', f_X5_drop_s28 kf28 h x0 x2 x3 x4 = some (code, r, h') ∧ HT S h0 h' t' := by
  unfold t_X5_drop_s28 at hg
  unfold f_X5_drop_s28
  by_cases cd : 256 ≤ x4
  · replace hg := it_pos cd hg
    refine ey_pos cd ?_
    obtain ⟨v4, ev4, hg⟩ := bd hg
    refine ey_bind (ht_ref hT (by decide) ev4) ?_
    obtain ⟨v5, ev5, hg⟩ := bd hg
    refine ey_bind (ht_get hT rfl ev5) ?_
    obtain ⟨Nh6, eh6, hg⟩ := bd hg
    obtain ⟨h6, qh6, hT⟩ := ht_asr hT (kd := 11) rfl (by decide) eh6
    refine ey_bind qh6 ?_
    exact ey_xret hg hT
  · replace hg := it_neg cd hg
    refine ey_neg cd ?_
    obtain ⟨v7, ev7, hg⟩ := bd hg
    refine ey_bind (ht_ref hT (by decide) ev7) ?_
    obtain ⟨v8, ev8, hg⟩ := bd hg
    refine ey_bind (ht_ald hT (kd := 13) rfl (by decide) ev8) ?_
    by_cases cd : v8 < 0
    · replace hg := it_pos cd hg
      refine ey_pos cd ?_
      exact h_X5_drop_j68 @hk28 hT hg
    · replace hg := it_neg cd hg
      refine ey_neg cd ?_
      obtain ⟨v9, ev9, hg⟩ := bd hg
      refine ey_bind (ht_get hT rfl ev9) ?_
      by_cases cd : ¬ rO v9 = rO x2
      · replace hg := it_pos cd hg
        refine ey_pos cd ?_
        exact h_X5_drop_j68 @hk28 hT hg
      · replace hg := it_neg cd hg
        refine ey_neg cd ?_
        obtain ⟨u11, eu11, hg⟩ := bd hg
        refine ey_bind (ht_ck hT eu11) ?_
        obtain ⟨r10, er10, hg⟩ := bd hg
        obtain ⟨hr10, qr10, hT⟩ := h_X5_giveBack hT er10
        refine ey_bind qr10 ?_
        exact h_X5_drop_j68 @hk28 hT hg
theorem h_X5_drop_b28 {S : Nat → Prop} {h0 : Hp} {r : Int} {code : Nat} {t' : Th} {n : Nat} {h : Hp} {t : Th} {x0 x2 x3 x4 : Int} (hT : HT S h0 h t) (hg : t_X5_drop_b28 n t x0 x2 x3 x4 = some (code, r, t')) : ∃ h', f_X5_drop_b28 n h x0 x2 x3 x4 = some (code, r, h') ∧ HT S h0 h' t' := by
  induction n generalizing h t x0 x2 x3 x4 with
  | zero => exact absurd hg (fun q => nomatch (show (none : Option (Nat × Int × Th)) = some (code, r, t') from q))
  | succ n ih => exact h_X5_drop_s28 @ih hT hg
noncomputable def t_X5_drop (h : Th) (x0 x1 : Int) : Option (Nat × Int × Th) :=
  Option.bind (tck h 5 x0) fun u2 =>
  Option.bind (t_X5_knownCache h x0 x1) fun r1 =>
  if r1.1 = 0 then (
    Option.bind (tgt r1.2.2 1 10 r1.2.1) fun v3 =>
    if v3 ≤ 0 then (
      t_X5_drop_b28 fuel r1.2.2 x0 r1.2.1 0 0
    ) else (
      some (3, 0, r1.2.2)
    )
  ) else (some (r1.1, 0, r1.2.2))
theorem h_X5_drop {S : Nat → Prop} {h0 : Hp} {r : Int} {code : Nat} {t' : Th} {h : Hp} {t : Th} {x0 x1 : Int} (hT : HT S h0 h t) (hg : t_X5_drop t x0 x1 = some (code, r, t')) : ∃ h', f_X5_drop h x0 x1 = some (code, r, h') ∧ HT S h0 h' t' := by
  unfold t_X5_drop at hg
  unfold f_X5_drop
  obtain ⟨u2, eu2, hg⟩ := bd hg
  refine ey_bind (ht_ck hT eu2) ?_
  obtain ⟨r1, er1, hg⟩ := bd hg
  obtain ⟨hr1, qr1, hT⟩ := h_X5_knownCache hT er1
  refine ey_bind qr1 ?_
  by_cases cd : r1.1 = 0
  · replace hg := it_pos cd hg
    refine ey_pos cd ?_
    obtain ⟨v3, ev3, hg⟩ := bd hg
    refine ey_bind (ht_get hT rfl ev3) ?_
    by_cases cd : v3 ≤ 0
    · replace hg := it_pos cd hg
      refine ey_pos cd ?_
      exact h_X5_drop_b28 hT hg
    · replace hg := it_neg cd hg
      refine ey_neg cd ?_
      exact ey_xret hg hT
  · replace hg := it_neg cd hg
    refine ey_neg cd ?_
    exact ey_xret hg hT
noncomputable def t_X5_allocate_j30 (h : Th) (x0 x3 x4 : Int) : Option (Nat × Int × Th) :=
  Option.bind (tck h 5 x0) fun u9 =>
  Option.bind (t_X5_slabAt h x0 x4) fun r8 =>
  if 0 ≤ r8.1 then (
    Option.bind (tck r8.2 3 r8.1) fun u11 =>
    Option.bind (t_X3_numberOver r8.2 r8.1 x4) fun r10 =>
    Option.bind (tck r10.2 3 r8.1) fun u13 =>
    Option.bind (t_X3_become r10.2 r8.1 r10.1 (-2)) fun r12 =>
    Option.bind (tgt r12.2 1 10 x3) fun v14 =>
    Option.bind (tpt r12.2 1 10 x3 (wr (v14 + 1))) fun h15 =>
    some (0, x4, h15)
  ) else (
    Option.bind (tgt r8.2 1 11 x3) fun v16 =>
    Option.bind (tpt r8.2 1 11 x3 (wr (v16 + 1))) fun h17 =>
    some (0, (-1), h17)
  )
theorem h_X5_allocate_j30 {S : Nat → Prop} {h0 : Hp} {r : Int} {code : Nat} {t' : Th} {h : Hp} {t : Th} {x0 x3 x4 : Int} (hT : HT S h0 h t) (hg : t_X5_allocate_j30 t x0 x3 x4 = some (code, r, t')) : ∃ h', f_X5_allocate_j30 h x0 x3 x4 = some (code, r, h') ∧ HT S h0 h' t' := by
  unfold t_X5_allocate_j30 at hg
  unfold f_X5_allocate_j30
  obtain ⟨u9, eu9, hg⟩ := bd hg
  refine ey_bind (ht_ck hT eu9) ?_
  obtain ⟨r8, er8, hg⟩ := bd hg
  obtain ⟨hr8, qr8, hT⟩ := h_X5_slabAt hT er8
  refine ey_bind qr8 ?_
  by_cases cd : 0 ≤ r8.1
  · replace hg := it_pos cd hg
    refine ey_pos cd ?_
    obtain ⟨u11, eu11, hg⟩ := bd hg
    refine ey_bind (ht_ck hT eu11) ?_
    obtain ⟨r10, er10, hg⟩ := bd hg
    obtain ⟨hr10, qr10, hT⟩ := h_X3_numberOver hT er10
    refine ey_bind qr10 ?_
    obtain ⟨u13, eu13, hg⟩ := bd hg
    refine ey_bind (ht_ck hT eu13) ?_
    obtain ⟨r12, er12, hg⟩ := bd hg
    obtain ⟨hr12, qr12, hT⟩ := h_X3_become hT er12
    refine ey_bind qr12 ?_
    obtain ⟨v14, ev14, hg⟩ := bd hg
    refine ey_bind (ht_get hT rfl ev14) ?_
    obtain ⟨Nh15, eh15, hg⟩ := bd hg
    obtain ⟨h15, qh15, hT⟩ := ht_put hT (by decide) eh15
    refine ey_bind qh15 ?_
    exact ey_xret hg hT
  · replace hg := it_neg cd hg
    refine ey_neg cd ?_
    obtain ⟨v16, ev16, hg⟩ := bd hg
    refine ey_bind (ht_get hT rfl ev16) ?_
    obtain ⟨Nh17, eh17, hg⟩ := bd hg
    obtain ⟨h17, qh17, hT⟩ := ht_put hT (by decide) eh17
    refine ey_bind qh17 ?_
    exact ey_xret hg hT
noncomputable def t_X5_allocate (h : Th) (x0 x1 x2 : Int) : Option (Nat × Int × Th) :=
  Option.bind (tck h 5 x0) fun u2 =>
  Option.bind (t_X5_knownCache h x0 x1) fun r1 =>
  if r1.1 = 0 then (
    Option.bind (t_X5_requireProcessor r1.2.2 x2) fun r3 =>
    if r3.1 = 0 then (
      Option.bind (tck r3.2.2 1 r1.2.1) fun u5 =>
      Option.bind (t_X1_takeFromMagazines r3.2.2 r1.2.1 x2) fun r4 =>
      if r4.1 ≠ (-1) then (
        t_X5_allocate_j30 r4.2 x0 r1.2.1 r4.1
      ) else (
        Option.bind (tck r4.2 5 x0) fun u7 =>
        Option.bind (t_X5_takeFromSlabs r4.2 x0 r1.2.1) fun r6 =>
        t_X5_allocate_j30 r6.2 x0 r1.2.1 r6.1
      )
    ) else (some (r3.1, 0, r3.2.2))
  ) else (some (r1.1, 0, r1.2.2))
theorem h_X5_allocate {S : Nat → Prop} {h0 : Hp} {r : Int} {code : Nat} {t' : Th} {h : Hp} {t : Th} {x0 x1 x2 : Int} (hT : HT S h0 h t) (hg : t_X5_allocate t x0 x1 x2 = some (code, r, t')) : ∃ h', f_X5_allocate h x0 x1 x2 = some (code, r, h') ∧ HT S h0 h' t' := by
  unfold t_X5_allocate at hg
  unfold f_X5_allocate
  obtain ⟨u2, eu2, hg⟩ := bd hg
  refine ey_bind (ht_ck hT eu2) ?_
  obtain ⟨r1, er1, hg⟩ := bd hg
  obtain ⟨hr1, qr1, hT⟩ := h_X5_knownCache hT er1
  refine ey_bind qr1 ?_
  by_cases cd : r1.1 = 0
  · replace hg := it_pos cd hg
    refine ey_pos cd ?_
    obtain ⟨r3, er3, hg⟩ := bd hg
    obtain ⟨hr3, qr3, hT⟩ := h_X5_requireProcessor hT er3
    refine ey_bind qr3 ?_
    by_cases cd : r3.1 = 0
    · replace hg := it_pos cd hg
      refine ey_pos cd ?_
      obtain ⟨u5, eu5, hg⟩ := bd hg
      refine ey_bind (ht_ck hT eu5) ?_
      obtain ⟨r4, er4, hg⟩ := bd hg
      obtain ⟨hr4, qr4, hT⟩ := h_X1_takeFromMagazines hT er4
      refine ey_bind qr4 ?_
      by_cases cd : r4.1 ≠ (-1)
      · replace hg := it_pos cd hg
        refine ey_pos cd ?_
        exact h_X5_allocate_j30 hT hg
      · replace hg := it_neg cd hg
        refine ey_neg cd ?_
        obtain ⟨u7, eu7, hg⟩ := bd hg
        refine ey_bind (ht_ck hT eu7) ?_
        obtain ⟨r6, er6, hg⟩ := bd hg
        obtain ⟨hr6, qr6, hT⟩ := h_X5_takeFromSlabs hT er6
        refine ey_bind qr6 ?_
        exact h_X5_allocate_j30 hT hg
    · replace hg := it_neg cd hg
      refine ey_neg cd ?_
      exact ey_xret hg hT
  · replace hg := it_neg cd hg
    refine ey_neg cd ?_
    exact ey_xret hg hT
noncomputable def t_X5_free_j18 (h : Th) : Option (Nat × Int × Th) :=
  some (1, 0, h)
theorem h_X5_free_j18 {S : Nat → Prop} {h0 : Hp} {r : Int} {code : Nat} {t' : Th} {h : Hp} {t : Th} (hT : HT S h0 h t) (hg : t_X5_free_j18 t  = some (code, r, t')) : ∃ h', f_X5_free_j18 h  = some (code, r, h') ∧ HT S h0 h' t' := by
  unfold t_X5_free_j18 at hg
  unfold f_X5_free_j18
  exact ey_xret hg hT
noncomputable def t_X5_free_j106 (h : Th) (x4 : Int) : Option (Nat × Int × Th) :=
  Option.bind (tgt h 1 0 x4) fun v20 =>
  some (0, v20, h)
theorem h_X5_free_j106 {S : Nat → Prop} {h0 : Hp} {r : Int} {code : Nat} {t' : Th} {h : Hp} {t : Th} {x4 : Int} (hT : HT S h0 h t) (hg : t_X5_free_j106 t x4 = some (code, r, t')) : ∃ h', f_X5_free_j106 h x4 = some (code, r, h') ∧ HT S h0 h' t' := by
  unfold t_X5_free_j106 at hg
  unfold f_X5_free_j106
  obtain ⟨v20, ev20, hg⟩ := bd hg
  refine ey_bind (ht_get hT rfl ev20) ?_
  exact ey_xret hg hT
noncomputable def t_X5_free (h : Th) (x0 x1 x2 : Int) : Option (Nat × Int × Th) :=
  Option.bind (tck h 5 x0) fun u2 =>
  Option.bind (t_X5_slabAt h x0 x1) fun r1 =>
  if r1.1 < 0 then (
    t_X5_free_j18 r1.2
  ) else (
    Option.bind (tck r1.2 3 r1.1) fun u4 =>
    Option.bind (t_X3_liveBeginsAt r1.2 r1.1 x1) fun r3 =>
    if r3.1 ≠ 0 then (
      Option.bind (t_X5_requireProcessor r3.2 x2) fun r5 =>
      if r5.1 = 0 then (
        Option.bind (tgt r5.2.2 3 0 r1.1) fun v6 =>
        Option.bind (tck r5.2.2 3 r1.1) fun u8 =>
        Option.bind (t_X3_numberOver r5.2.2 r1.1 x1) fun r7 =>
        Option.bind (tck r7.2 3 r1.1) fun u10 =>
        Option.bind (t_X3_markOf r7.2 r1.1 r7.1) fun r9 =>
        Option.bind (tgt r9.2 1 4 v6) fun v11 =>
        if r9.1 = v11 then (
          Option.bind (tgt r9.2 1 10 v6) fun v12 =>
          Option.bind (tpt r9.2 1 10 v6 (wr (v12 - 1))) fun h13 =>
          Option.bind (tck h13 1 v6) fun u15 =>
          Option.bind (t_X1_putIntoMagazines h13 v6 x2 x1) fun r14 =>
          if r14.1 = 0 then (
            Option.bind (tck r14.2 5 x0) fun u17 =>
            Option.bind (t_X5_comeBack r14.2 x0 x1) fun r16 =>
            t_X5_free_j106 r16.2 v6
          ) else (
            Option.bind (tck r14.2 3 r1.1) fun u19 =>
            Option.bind (t_X3_become r14.2 r1.1 r7.1 (-3)) fun r18 =>
            t_X5_free_j106 r18.2 v6
          )
        ) else (
          some (3, 0, r9.2)
        )
      ) else (some (r5.1, 0, r5.2.2))
    ) else (
      t_X5_free_j18 r3.2
    )
  )
theorem h_X5_free {S : Nat → Prop} {h0 : Hp} {r : Int} {code : Nat} {t' : Th} {h : Hp} {t : Th} {x0 x1 x2 : Int} (hT : HT S h0 h t) (hg : t_X5_free t x0 x1 x2 = some (code, r, t')) : ∃ h', f_X5_free h x0 x1 x2 = some (code, r, h') ∧ HT S h0 h' t' := by
  unfold t_X5_free at hg
  unfold f_X5_free
  obtain ⟨u2, eu2, hg⟩ := bd hg
  refine ey_bind (ht_ck hT eu2) ?_
  obtain ⟨r1, er1, hg⟩ := bd hg
  obtain ⟨hr1, qr1, hT⟩ := h_X5_slabAt hT er1
  refine ey_bind qr1 ?_
  by_cases cd : r1.1 < 0
  · replace hg := it_pos cd hg
    refine ey_pos cd ?_
    exact h_X5_free_j18 hT hg
  · replace hg := it_neg cd hg
    refine ey_neg cd ?_
    obtain ⟨u4, eu4, hg⟩ := bd hg
    refine ey_bind (ht_ck hT eu4) ?_
    obtain ⟨r3, er3, hg⟩ := bd hg
    obtain ⟨hr3, qr3, hT⟩ := h_X3_liveBeginsAt hT er3
    refine ey_bind qr3 ?_
    by_cases cd : r3.1 ≠ 0
    · replace hg := it_pos cd hg
      refine ey_pos cd ?_
      obtain ⟨r5, er5, hg⟩ := bd hg
      obtain ⟨hr5, qr5, hT⟩ := h_X5_requireProcessor hT er5
      refine ey_bind qr5 ?_
      by_cases cd : r5.1 = 0
      · replace hg := it_pos cd hg
        refine ey_pos cd ?_
        obtain ⟨v6, ev6, hg⟩ := bd hg
        refine ey_bind (ht_get hT rfl ev6) ?_
        obtain ⟨u8, eu8, hg⟩ := bd hg
        refine ey_bind (ht_ck hT eu8) ?_
        obtain ⟨r7, er7, hg⟩ := bd hg
        obtain ⟨hr7, qr7, hT⟩ := h_X3_numberOver hT er7
        refine ey_bind qr7 ?_
        obtain ⟨u10, eu10, hg⟩ := bd hg
        refine ey_bind (ht_ck hT eu10) ?_
        obtain ⟨r9, er9, hg⟩ := bd hg
        obtain ⟨hr9, qr9, hT⟩ := h_X3_markOf hT er9
        refine ey_bind qr9 ?_
        obtain ⟨v11, ev11, hg⟩ := bd hg
        refine ey_bind (ht_get hT rfl ev11) ?_
        by_cases cd : r9.1 = v11
        · replace hg := it_pos cd hg
          refine ey_pos cd ?_
          obtain ⟨v12, ev12, hg⟩ := bd hg
          refine ey_bind (ht_get hT rfl ev12) ?_
          obtain ⟨Nh13, eh13, hg⟩ := bd hg
          obtain ⟨h13, qh13, hT⟩ := ht_put hT (by decide) eh13
          refine ey_bind qh13 ?_
          obtain ⟨u15, eu15, hg⟩ := bd hg
          refine ey_bind (ht_ck hT eu15) ?_
          obtain ⟨r14, er14, hg⟩ := bd hg
          obtain ⟨hr14, qr14, hT⟩ := h_X1_putIntoMagazines hT er14
          refine ey_bind qr14 ?_
          by_cases cd : r14.1 = 0
          · replace hg := it_pos cd hg
            refine ey_pos cd ?_
            obtain ⟨u17, eu17, hg⟩ := bd hg
            refine ey_bind (ht_ck hT eu17) ?_
            obtain ⟨r16, er16, hg⟩ := bd hg
            obtain ⟨hr16, qr16, hT⟩ := h_X5_comeBack hT er16
            refine ey_bind qr16 ?_
            exact h_X5_free_j106 hT hg
          · replace hg := it_neg cd hg
            refine ey_neg cd ?_
            obtain ⟨u19, eu19, hg⟩ := bd hg
            refine ey_bind (ht_ck hT eu19) ?_
            obtain ⟨r18, er18, hg⟩ := bd hg
            obtain ⟨hr18, qr18, hT⟩ := h_X3_become hT er18
            refine ey_bind qr18 ?_
            exact h_X5_free_j106 hT hg
        · replace hg := it_neg cd hg
          refine ey_neg cd ?_
          exact ey_xret hg hT
      · replace hg := it_neg cd hg
        refine ey_neg cd ?_
        exact ey_xret hg hT
    · replace hg := it_neg cd hg
      refine ey_neg cd ?_
      exact h_X5_free_j18 hT hg
noncomputable def t_X5_mark_j18 (h : Th) : Option (Nat × Int × Th) :=
  some (1, 0, h)
theorem h_X5_mark_j18 {S : Nat → Prop} {h0 : Hp} {r : Int} {code : Nat} {t' : Th} {h : Hp} {t : Th} (hT : HT S h0 h t) (hg : t_X5_mark_j18 t  = some (code, r, t')) : ∃ h', f_X5_mark_j18 h  = some (code, r, h') ∧ HT S h0 h' t' := by
  unfold t_X5_mark_j18 at hg
  unfold f_X5_mark_j18
  exact ey_xret hg hT
noncomputable def t_X5_mark (h : Th) (x0 x1 x2 : Int) : Option (Nat × Int × Th) :=
  Option.bind (tck h 5 x0) fun u2 =>
  Option.bind (t_X5_slabAt h x0 x1) fun r1 =>
  if r1.1 < 0 then (
    t_X5_mark_j18 r1.2
  ) else (
    Option.bind (tck r1.2 3 r1.1) fun u4 =>
    Option.bind (t_X3_liveBeginsAt r1.2 r1.1 x1) fun r3 =>
    if r3.1 ≠ 0 then (
      Option.bind (tck r3.2 3 r1.1) fun u6 =>
      Option.bind (t_X3_numberOver r3.2 r1.1 x1) fun r5 =>
      Option.bind (tck r5.2 3 r1.1) fun u8 =>
      Option.bind (t_X3_changeMark r5.2 r1.1 r5.1 x2) fun r7 =>
      some (0, r7.1, r7.2)
    ) else (
      t_X5_mark_j18 r3.2
    )
  )
theorem h_X5_mark {S : Nat → Prop} {h0 : Hp} {r : Int} {code : Nat} {t' : Th} {h : Hp} {t : Th} {x0 x1 x2 : Int} (hT : HT S h0 h t) (hg : t_X5_mark t x0 x1 x2 = some (code, r, t')) : ∃ h', f_X5_mark h x0 x1 x2 = some (code, r, h') ∧ HT S h0 h' t' := by
  unfold t_X5_mark at hg
  unfold f_X5_mark
  obtain ⟨u2, eu2, hg⟩ := bd hg
  refine ey_bind (ht_ck hT eu2) ?_
  obtain ⟨r1, er1, hg⟩ := bd hg
  obtain ⟨hr1, qr1, hT⟩ := h_X5_slabAt hT er1
  refine ey_bind qr1 ?_
  by_cases cd : r1.1 < 0
  · replace hg := it_pos cd hg
    refine ey_pos cd ?_
    exact h_X5_mark_j18 hT hg
  · replace hg := it_neg cd hg
    refine ey_neg cd ?_
    obtain ⟨u4, eu4, hg⟩ := bd hg
    refine ey_bind (ht_ck hT eu4) ?_
    obtain ⟨r3, er3, hg⟩ := bd hg
    obtain ⟨hr3, qr3, hT⟩ := h_X3_liveBeginsAt hT er3
    refine ey_bind qr3 ?_
    by_cases cd : r3.1 ≠ 0
    · replace hg := it_pos cd hg
      refine ey_pos cd ?_
      obtain ⟨u6, eu6, hg⟩ := bd hg
      refine ey_bind (ht_ck hT eu6) ?_
      obtain ⟨r5, er5, hg⟩ := bd hg
      obtain ⟨hr5, qr5, hT⟩ := h_X3_numberOver hT er5
      refine ey_bind qr5 ?_
      obtain ⟨u8, eu8, hg⟩ := bd hg
      refine ey_bind (ht_ck hT eu8) ?_
      obtain ⟨r7, er7, hg⟩ := bd hg
      obtain ⟨hr7, qr7, hT⟩ := h_X3_changeMark hT er7
      refine ey_bind qr7 ?_
      exact ey_xret hg hT
    · replace hg := it_neg cd hg
      refine ey_neg cd ?_
      exact h_X5_mark_j18 hT hg
noncomputable def t_X5_flush_j55 (k8 : Th → Int → Int → Int → Int → Option (Nat × Int × Th)) (h : Th) (x0 x1 x2 x3 : Int) : Option (Nat × Int × Th) :=
  k8 h x0 x1 x2 (wr (x3 + 1))
theorem h_X5_flush_j55 {S : Nat → Prop} {h0 : Hp} {r : Int} {code : Nat} {t' : Th} {kg8 : Th → Int → Int → Int → Int → Option (Nat × Int × Th)} {kf8 : Hp → Int → Int → Int → Int → Option (Nat × Int × Hp)} (hk8 : ∀ {h : Hp} {t : Th} {x0 x1 x2 x3 : Int}, HT S h0 h t → kg8 t x0 x1 x2 x3 = some (code, r, t') → ∃ h', kf8 h x0 x1 x2 x3 = some (code, r, h') ∧ HT S h0 h' t') {h : Hp} {t : Th} {x0 x1 x2 x3 : Int} (hT : HT S h0 h t) (hg : t_X5_flush_j55 kg8 t x0 x1 x2 x3 = some (code, r, t')) : ∃ h', f_X5_flush_j55 kf8 h x0 x1 x2 x3 = some (code, r, h') ∧ HT S h0 h' t' := by
  unfold t_X5_flush_j55 at hg
  unfold f_X5_flush_j55
  exact hk8 hT hg
noncomputable def t_X5_flush_s8 (k8 : Th → Int → Int → Int → Int → Option (Nat × Int × Th)) (h : Th) (x0 x1 x2 x3 : Int) : Option (Nat × Int × Th) :=
  if 8 ≤ x3 then (
    some (0, x2, h)
  ) else (
    Option.bind (trf h 5 2 x0) fun v2 =>
    Option.bind (tal h 5 2 x0 v2 x3) fun v3 =>
    if v3 < 0 then (
      t_X5_flush_j55 k8 h x0 x1 x2 x3
    ) else (
      Option.bind (trf h 1 13 v3) fun v4 =>
      Option.bind (tal h 1 13 v3 v4 x1) fun v5 =>
      Option.bind (tck h 5 x0) fun u7 =>
      Option.bind (t_X5_unload h x0 v5) fun r6 =>
      Option.bind (trf r6.2 1 14 v3) fun v8 =>
      Option.bind (tal r6.2 1 14 v3 v8 x1) fun v9 =>
      Option.bind (tck r6.2 5 x0) fun u11 =>
      Option.bind (t_X5_unload r6.2 x0 v9) fun r10 =>
      t_X5_flush_j55 k8 r10.2 x0 x1 (wr ((wr (x2 + r6.1)) + r10.1)) x3
    )
  )
noncomputable def t_X5_flush_b8 : Nat → Th → Int → Int → Int → Int → Option (Nat × Int × Th)
  | 0, _, _, _, _, _ => none
  | n + 1, h, x0, x1, x2, x3 => t_X5_flush_s8 (t_X5_flush_b8 n) h x0 x1 x2 x3
theorem h_X5_flush_s8 {S : Nat → Prop} {h0 : Hp} {r : Int} {code : Nat} {t' : Th} {kg8 : Th → Int → Int → Int → Int → Option (Nat × Int × Th)} {kf8 : Hp → Int → Int → Int → Int → Option (Nat × Int × Hp)} (hk8 : ∀ {h : Hp} {t : Th} {x0 x1 x2 x3 : Int}, HT S h0 h t → kg8 t x0 x1 x2 x3 = some (code, r, t') → ∃ h', kf8 h x0 x1 x2 x3 = some (code, r, h') ∧ HT S h0 h' t') {h : Hp} {t : Th} {x0 x1 x2 x3 : Int} (hT : HT S h0 h t) (hg : t_X5_flush_s8 kg8 t x0 x1 x2 x3 = some (code, r, t')) : ∃ h', f_X5_flush_s8 kf8 h x0 x1 x2 x3 = some (code, r, h') ∧ HT S h0 h' t' := by
  unfold t_X5_flush_s8 at hg
  unfold f_X5_flush_s8
  by_cases cd : 8 ≤ x3
  · replace hg := it_pos cd hg
    refine ey_pos cd ?_
    exact ey_xret hg hT
  · replace hg := it_neg cd hg
    refine ey_neg cd ?_
    obtain ⟨v2, ev2, hg⟩ := bd hg
    refine ey_bind (ht_ref hT (by decide) ev2) ?_
    obtain ⟨v3, ev3, hg⟩ := bd hg
    refine ey_bind (ht_ald hT (kd := 11) rfl (by decide) ev3) ?_
    by_cases cd : v3 < 0
    · replace hg := it_pos cd hg
      refine ey_pos cd ?_
      exact h_X5_flush_j55 @hk8 hT hg
    · replace hg := it_neg cd hg
      refine ey_neg cd ?_
      obtain ⟨v4, ev4, hg⟩ := bd hg
      refine ey_bind (ht_ref hT (by decide) ev4) ?_
      obtain ⟨v5, ev5, hg⟩ := bd hg
      refine ey_bind (ht_ald hT (kd := 12) rfl (by decide) ev5) ?_
      obtain ⟨u7, eu7, hg⟩ := bd hg
      refine ey_bind (ht_ck hT eu7) ?_
      obtain ⟨r6, er6, hg⟩ := bd hg
      obtain ⟨hr6, qr6, hT⟩ := h_X5_unload hT er6
      refine ey_bind qr6 ?_
      obtain ⟨v8, ev8, hg⟩ := bd hg
      refine ey_bind (ht_ref hT (by decide) ev8) ?_
      obtain ⟨v9, ev9, hg⟩ := bd hg
      refine ey_bind (ht_ald hT (kd := 12) rfl (by decide) ev9) ?_
      obtain ⟨u11, eu11, hg⟩ := bd hg
      refine ey_bind (ht_ck hT eu11) ?_
      obtain ⟨r10, er10, hg⟩ := bd hg
      obtain ⟨hr10, qr10, hT⟩ := h_X5_unload hT er10
      refine ey_bind qr10 ?_
      exact h_X5_flush_j55 @hk8 hT hg
theorem h_X5_flush_b8 {S : Nat → Prop} {h0 : Hp} {r : Int} {code : Nat} {t' : Th} {n : Nat} {h : Hp} {t : Th} {x0 x1 x2 x3 : Int} (hT : HT S h0 h t) (hg : t_X5_flush_b8 n t x0 x1 x2 x3 = some (code, r, t')) : ∃ h', f_X5_flush_b8 n h x0 x1 x2 x3 = some (code, r, h') ∧ HT S h0 h' t' := by
  induction n generalizing h t x0 x1 x2 x3 with
  | zero => exact absurd hg (fun q => nomatch (show (none : Option (Nat × Int × Th)) = some (code, r, t') from q))
  | succ n ih => exact h_X5_flush_s8 @ih hT hg
noncomputable def t_X5_flush (h : Th) (x0 x1 : Int) : Option (Nat × Int × Th) :=
  Option.bind (t_X5_requireProcessor h x1) fun r1 =>
  if r1.1 = 0 then (
    t_X5_flush_b8 fuel r1.2.2 x0 x1 0 0
  ) else (some (r1.1, 0, r1.2.2))
theorem h_X5_flush {S : Nat → Prop} {h0 : Hp} {r : Int} {code : Nat} {t' : Th} {h : Hp} {t : Th} {x0 x1 : Int} (hT : HT S h0 h t) (hg : t_X5_flush t x0 x1 = some (code, r, t')) : ∃ h', f_X5_flush h x0 x1 = some (code, r, h') ∧ HT S h0 h' t' := by
  unfold t_X5_flush at hg
  unfold f_X5_flush
  obtain ⟨r1, er1, hg⟩ := bd hg
  obtain ⟨hr1, qr1, hT⟩ := h_X5_requireProcessor hT er1
  refine ey_bind qr1 ?_
  by_cases cd : r1.1 = 0
  · replace hg := it_pos cd hg
    refine ey_pos cd ?_
    exact h_X5_flush_b8 hT hg
  · replace hg := it_neg cd hg
    refine ey_neg cd ?_
    exact ey_xret hg hT
noncomputable def t_X5_empty_j37 (k11 : Th → Int → Int → Int → Int → Option (Nat × Int × Th)) (h : Th) (x0 x2 x3 x4 : Int) : Option (Nat × Int × Th) :=
  k11 h x0 x2 x3 (wr (x4 + 1))
theorem h_X5_empty_j37 {S : Nat → Prop} {h0 : Hp} {r : Int} {code : Nat} {t' : Th} {kg11 : Th → Int → Int → Int → Int → Option (Nat × Int × Th)} {kf11 : Hp → Int → Int → Int → Int → Option (Nat × Int × Hp)} (hk11 : ∀ {h : Hp} {t : Th} {x0 x2 x3 x4 : Int}, HT S h0 h t → kg11 t x0 x2 x3 x4 = some (code, r, t') → ∃ h', kf11 h x0 x2 x3 x4 = some (code, r, h') ∧ HT S h0 h' t') {h : Hp} {t : Th} {x0 x2 x3 x4 : Int} (hT : HT S h0 h t) (hg : t_X5_empty_j37 kg11 t x0 x2 x3 x4 = some (code, r, t')) : ∃ h', f_X5_empty_j37 kf11 h x0 x2 x3 x4 = some (code, r, h') ∧ HT S h0 h' t' := by
  unfold t_X5_empty_j37 at hg
  unfold f_X5_empty_j37
  exact hk11 hT hg
noncomputable def t_X5_empty_s11 (k11 : Th → Int → Int → Int → Int → Option (Nat × Int × Th)) (h : Th) (x0 x2 x3 x4 : Int) : Option (Nat × Int × Th) :=
  if 3 ≤ x4 then (
    some (0, x3, h)
  ) else (
    Option.bind (tck h 1 x2) fun u4 =>
    Option.bind (t_X1_takeFromDepot h x2) fun r3 =>
    if r3.1 < 0 then (
      t_X5_empty_j37 k11 r3.2 x0 x2 x3 x4
    ) else (
      Option.bind (tck r3.2 5 x0) fun u6 =>
      Option.bind (t_X5_unload r3.2 x0 r3.1) fun r5 =>
      t_X5_empty_j37 k11 r5.2 x0 x2 (wr (x3 + r5.1)) x4
    )
  )
noncomputable def t_X5_empty_b11 : Nat → Th → Int → Int → Int → Int → Option (Nat × Int × Th)
  | 0, _, _, _, _, _ => none
  | n + 1, h, x0, x2, x3, x4 => t_X5_empty_s11 (t_X5_empty_b11 n) h x0 x2 x3 x4
theorem h_X5_empty_s11 {S : Nat → Prop} {h0 : Hp} {r : Int} {code : Nat} {t' : Th} {kg11 : Th → Int → Int → Int → Int → Option (Nat × Int × Th)} {kf11 : Hp → Int → Int → Int → Int → Option (Nat × Int × Hp)} (hk11 : ∀ {h : Hp} {t : Th} {x0 x2 x3 x4 : Int}, HT S h0 h t → kg11 t x0 x2 x3 x4 = some (code, r, t') → ∃ h', kf11 h x0 x2 x3 x4 = some (code, r, h') ∧ HT S h0 h' t') {h : Hp} {t : Th} {x0 x2 x3 x4 : Int} (hT : HT S h0 h t) (hg : t_X5_empty_s11 kg11 t x0 x2 x3 x4 = some (code, r, t')) : ∃ h', f_X5_empty_s11 kf11 h x0 x2 x3 x4 = some (code, r, h') ∧ HT S h0 h' t' := by
  unfold t_X5_empty_s11 at hg
  unfold f_X5_empty_s11
  by_cases cd : 3 ≤ x4
  · replace hg := it_pos cd hg
    refine ey_pos cd ?_
    exact ey_xret hg hT
  · replace hg := it_neg cd hg
    refine ey_neg cd ?_
    obtain ⟨u4, eu4, hg⟩ := bd hg
    refine ey_bind (ht_ck hT eu4) ?_
    obtain ⟨r3, er3, hg⟩ := bd hg
    obtain ⟨hr3, qr3, hT⟩ := h_X1_takeFromDepot hT er3
    refine ey_bind qr3 ?_
    by_cases cd : r3.1 < 0
    · replace hg := it_pos cd hg
      refine ey_pos cd ?_
      exact h_X5_empty_j37 @hk11 hT hg
    · replace hg := it_neg cd hg
      refine ey_neg cd ?_
      obtain ⟨u6, eu6, hg⟩ := bd hg
      refine ey_bind (ht_ck hT eu6) ?_
      obtain ⟨r5, er5, hg⟩ := bd hg
      obtain ⟨hr5, qr5, hT⟩ := h_X5_unload hT er5
      refine ey_bind qr5 ?_
      exact h_X5_empty_j37 @hk11 hT hg
theorem h_X5_empty_b11 {S : Nat → Prop} {h0 : Hp} {r : Int} {code : Nat} {t' : Th} {n : Nat} {h : Hp} {t : Th} {x0 x2 x3 x4 : Int} (hT : HT S h0 h t) (hg : t_X5_empty_b11 n t x0 x2 x3 x4 = some (code, r, t')) : ∃ h', f_X5_empty_b11 n h x0 x2 x3 x4 = some (code, r, h') ∧ HT S h0 h' t' := by
  induction n generalizing h t x0 x2 x3 x4 with
  | zero => exact absurd hg (fun q => nomatch (show (none : Option (Nat × Int × Th)) = some (code, r, t') from q))
  | succ n ih => exact h_X5_empty_s11 @ih hT hg
noncomputable def t_X5_empty (h : Th) (x0 x1 : Int) : Option (Nat × Int × Th) :=
  Option.bind (tck h 5 x0) fun u2 =>
  Option.bind (t_X5_knownCache h x0 x1) fun r1 =>
  if r1.1 = 0 then (
    t_X5_empty_b11 fuel r1.2.2 x0 r1.2.1 0 0
  ) else (some (r1.1, 0, r1.2.2))
theorem h_X5_empty {S : Nat → Prop} {h0 : Hp} {r : Int} {code : Nat} {t' : Th} {h : Hp} {t : Th} {x0 x1 : Int} (hT : HT S h0 h t) (hg : t_X5_empty t x0 x1 = some (code, r, t')) : ∃ h', f_X5_empty h x0 x1 = some (code, r, h') ∧ HT S h0 h' t' := by
  unfold t_X5_empty at hg
  unfold f_X5_empty
  obtain ⟨u2, eu2, hg⟩ := bd hg
  refine ey_bind (ht_ck hT eu2) ?_
  obtain ⟨r1, er1, hg⟩ := bd hg
  obtain ⟨hr1, qr1, hT⟩ := h_X5_knownCache hT er1
  refine ey_bind qr1 ?_
  by_cases cd : r1.1 = 0
  · replace hg := it_pos cd hg
    refine ey_pos cd ?_
    exact h_X5_empty_b11 hT hg
  · replace hg := it_neg cd hg
    refine ey_neg cd ?_
    exact ey_xret hg hT
noncomputable def t_X5_about (h : Th) (x0 x1 x2 : Int) : Option (Nat × Int × Th) :=
  Option.bind (tck h 5 x0) fun u2 =>
  Option.bind (t_X5_knownCache h x0 x1) fun r1 =>
  if r1.1 = 0 then (
    if x2 = 0 then (
      Option.bind (tgt r1.2.2 1 5 r1.2.1) fun v3 =>
      some (0, v3, r1.2.2)
    ) else (
      if x2 = 1 then (
        Option.bind (tgt r1.2.2 1 6 r1.2.1) fun v4 =>
        some (0, v4, r1.2.2)
      ) else (
        if x2 = 2 then (
          Option.bind (tgt r1.2.2 1 7 r1.2.1) fun v5 =>
          some (0, v5, r1.2.2)
        ) else (
          if x2 = 3 then (
            Option.bind (tgt r1.2.2 1 8 r1.2.1) fun v6 =>
            some (0, v6, r1.2.2)
          ) else (
            if x2 = 4 then (
              Option.bind (tgt r1.2.2 1 9 r1.2.1) fun v7 =>
              some (0, v7, r1.2.2)
            ) else (
              if x2 = 5 then (
                Option.bind (tgt r1.2.2 1 10 r1.2.1) fun v8 =>
                some (0, v8, r1.2.2)
              ) else (
                if x2 = 6 then (
                  Option.bind (tck r1.2.2 1 r1.2.1) fun u10 =>
                  Option.bind (t_X1_inMagazines r1.2.2 r1.2.1) fun r9 =>
                  some (0, r9.1, r9.2)
                ) else (
                  if x2 = 7 then (
                    Option.bind (tgt r1.2.2 1 11 r1.2.1) fun v11 =>
                    some (0, v11, r1.2.2)
                  ) else (
                    some (2, 0, r1.2.2)
                  )
                )
              )
            )
          )
        )
      )
    )
  ) else (some (r1.1, 0, r1.2.2))
theorem h_X5_about {S : Nat → Prop} {h0 : Hp} {r : Int} {code : Nat} {t' : Th} {h : Hp} {t : Th} {x0 x1 x2 : Int} (hT : HT S h0 h t) (hg : t_X5_about t x0 x1 x2 = some (code, r, t')) : ∃ h', f_X5_about h x0 x1 x2 = some (code, r, h') ∧ HT S h0 h' t' := by
  unfold t_X5_about at hg
  unfold f_X5_about
  obtain ⟨u2, eu2, hg⟩ := bd hg
  refine ey_bind (ht_ck hT eu2) ?_
  obtain ⟨r1, er1, hg⟩ := bd hg
  obtain ⟨hr1, qr1, hT⟩ := h_X5_knownCache hT er1
  refine ey_bind qr1 ?_
  by_cases cd : r1.1 = 0
  · replace hg := it_pos cd hg
    refine ey_pos cd ?_
    by_cases cd : x2 = 0
    · replace hg := it_pos cd hg
      refine ey_pos cd ?_
      obtain ⟨v3, ev3, hg⟩ := bd hg
      refine ey_bind (ht_get hT rfl ev3) ?_
      exact ey_xret hg hT
    · replace hg := it_neg cd hg
      refine ey_neg cd ?_
      by_cases cd : x2 = 1
      · replace hg := it_pos cd hg
        refine ey_pos cd ?_
        obtain ⟨v4, ev4, hg⟩ := bd hg
        refine ey_bind (ht_get hT rfl ev4) ?_
        exact ey_xret hg hT
      · replace hg := it_neg cd hg
        refine ey_neg cd ?_
        by_cases cd : x2 = 2
        · replace hg := it_pos cd hg
          refine ey_pos cd ?_
          obtain ⟨v5, ev5, hg⟩ := bd hg
          refine ey_bind (ht_get hT rfl ev5) ?_
          exact ey_xret hg hT
        · replace hg := it_neg cd hg
          refine ey_neg cd ?_
          by_cases cd : x2 = 3
          · replace hg := it_pos cd hg
            refine ey_pos cd ?_
            obtain ⟨v6, ev6, hg⟩ := bd hg
            refine ey_bind (ht_get hT rfl ev6) ?_
            exact ey_xret hg hT
          · replace hg := it_neg cd hg
            refine ey_neg cd ?_
            by_cases cd : x2 = 4
            · replace hg := it_pos cd hg
              refine ey_pos cd ?_
              obtain ⟨v7, ev7, hg⟩ := bd hg
              refine ey_bind (ht_get hT rfl ev7) ?_
              exact ey_xret hg hT
            · replace hg := it_neg cd hg
              refine ey_neg cd ?_
              by_cases cd : x2 = 5
              · replace hg := it_pos cd hg
                refine ey_pos cd ?_
                obtain ⟨v8, ev8, hg⟩ := bd hg
                refine ey_bind (ht_get hT rfl ev8) ?_
                exact ey_xret hg hT
              · replace hg := it_neg cd hg
                refine ey_neg cd ?_
                by_cases cd : x2 = 6
                · replace hg := it_pos cd hg
                  refine ey_pos cd ?_
                  obtain ⟨u10, eu10, hg⟩ := bd hg
                  refine ey_bind (ht_ck hT eu10) ?_
                  obtain ⟨r9, er9, hg⟩ := bd hg
                  obtain ⟨hr9, qr9, hT⟩ := h_X1_inMagazines hT er9
                  refine ey_bind qr9 ?_
                  exact ey_xret hg hT
                · replace hg := it_neg cd hg
                  refine ey_neg cd ?_
                  by_cases cd : x2 = 7
                  · replace hg := it_pos cd hg
                    refine ey_pos cd ?_
                    obtain ⟨v11, ev11, hg⟩ := bd hg
                    refine ey_bind (ht_get hT rfl ev11) ?_
                    exact ey_xret hg hT
                  · replace hg := it_neg cd hg
                    refine ey_neg cd ?_
                    exact ey_xret hg hT
  · replace hg := it_neg cd hg
    refine ey_neg cd ?_
    exact ey_xret hg hT
noncomputable def t_X5_list_j16 (h : Th) : Option (Nat × Int × Th) :=
  some (2, 0, h)
theorem h_X5_list_j16 {S : Nat → Prop} {h0 : Hp} {r : Int} {code : Nat} {t' : Th} {h : Hp} {t : Th} (hT : HT S h0 h t) (hg : t_X5_list_j16 t  = some (code, r, t')) : ∃ h', f_X5_list_j16 h  = some (code, r, h') ∧ HT S h0 h' t' := by
  unfold t_X5_list_j16 at hg
  unfold f_X5_list_j16
  exact ey_xret hg hT
noncomputable def t_X5_list_j53 (h : Th) (s0 : Int) : Option (Nat × Int × Th) :=
  some (0, s0, h)
theorem h_X5_list_j53 {S : Nat → Prop} {h0 : Hp} {r : Int} {code : Nat} {t' : Th} {h : Hp} {t : Th} {s0 : Int} (hT : HT S h0 h t) (hg : t_X5_list_j53 t s0 = some (code, r, t')) : ∃ h', f_X5_list_j53 h s0 = some (code, r, h') ∧ HT S h0 h' t' := by
  unfold t_X5_list_j53 at hg
  unfold f_X5_list_j53
  exact ey_xret hg hT
noncomputable def t_X5_list (h : Th) (x0 x1 x2 x3 : Int) : Option (Nat × Int × Th) :=
  Option.bind (tck h 5 x0) fun u2 =>
  Option.bind (t_X5_knownCache h x0 x1) fun r1 =>
  if r1.1 = 0 then (
    if x2 < 0 then (
      t_X5_list_j16 r1.2.2
    ) else (
      if x2 < 3 then (
        Option.bind (trf r1.2.2 1 12 r1.2.1) fun v3 =>
        Option.bind (tal r1.2.2 1 12 r1.2.1 v3 x2) fun v4 =>
        Option.bind (tck r1.2.2 4 v4) fun u6 =>
        Option.bind (t_X4_slabAtPlace r1.2.2 v4 x3) fun r5 =>
        if 0 ≤ r5.1 then (
          Option.bind (tck r5.2 3 r5.1) fun u8 =>
          Option.bind (t_X3_firstByte r5.2 r5.1) fun r7 =>
          t_X5_list_j53 r7.2 r7.1
        ) else (
          t_X5_list_j53 r5.2 (-1)
        )
      ) else (
        t_X5_list_j16 r1.2.2
      )
    )
  ) else (some (r1.1, 0, r1.2.2))
theorem h_X5_list {S : Nat → Prop} {h0 : Hp} {r : Int} {code : Nat} {t' : Th} {h : Hp} {t : Th} {x0 x1 x2 x3 : Int} (hT : HT S h0 h t) (hg : t_X5_list t x0 x1 x2 x3 = some (code, r, t')) : ∃ h', f_X5_list h x0 x1 x2 x3 = some (code, r, h') ∧ HT S h0 h' t' := by
  unfold t_X5_list at hg
  unfold f_X5_list
  obtain ⟨u2, eu2, hg⟩ := bd hg
  refine ey_bind (ht_ck hT eu2) ?_
  obtain ⟨r1, er1, hg⟩ := bd hg
  obtain ⟨hr1, qr1, hT⟩ := h_X5_knownCache hT er1
  refine ey_bind qr1 ?_
  by_cases cd : r1.1 = 0
  · replace hg := it_pos cd hg
    refine ey_pos cd ?_
    by_cases cd : x2 < 0
    · replace hg := it_pos cd hg
      refine ey_pos cd ?_
      exact h_X5_list_j16 hT hg
    · replace hg := it_neg cd hg
      refine ey_neg cd ?_
      by_cases cd : x2 < 3
      · replace hg := it_pos cd hg
        refine ey_pos cd ?_
        obtain ⟨v3, ev3, hg⟩ := bd hg
        refine ey_bind (ht_ref hT (by decide) ev3) ?_
        obtain ⟨v4, ev4, hg⟩ := bd hg
        refine ey_bind (ht_ald hT (kd := 14) rfl (by decide) ev4) ?_
        obtain ⟨u6, eu6, hg⟩ := bd hg
        refine ey_bind (ht_ck hT eu6) ?_
        obtain ⟨r5, er5, hg⟩ := bd hg
        obtain ⟨hr5, qr5, hT⟩ := h_X4_slabAtPlace hT er5
        refine ey_bind qr5 ?_
        by_cases cd : 0 ≤ r5.1
        · replace hg := it_pos cd hg
          refine ey_pos cd ?_
          obtain ⟨u8, eu8, hg⟩ := bd hg
          refine ey_bind (ht_ck hT eu8) ?_
          obtain ⟨r7, er7, hg⟩ := bd hg
          obtain ⟨hr7, qr7, hT⟩ := h_X3_firstByte hT er7
          refine ey_bind qr7 ?_
          exact h_X5_list_j53 hT hg
        · replace hg := it_neg cd hg
          refine ey_neg cd ?_
          exact h_X5_list_j53 hT hg
      · replace hg := it_neg cd hg
        refine ey_neg cd ?_
        exact h_X5_list_j16 hT hg
  · replace hg := it_neg cd hg
    refine ey_neg cd ?_
    exact ey_xret hg hT
noncomputable def t_X5_slab (h : Th) (x0 x1 x2 : Int) : Option (Nat × Int × Th) :=
  Option.bind (tck h 5 x0) fun u2 =>
  Option.bind (t_X5_slabAt h x0 x1) fun r1 =>
  if 0 ≤ r1.1 then (
    if x2 = 0 then (
      Option.bind (tck r1.2 3 r1.1) fun u4 =>
      Option.bind (t_X3_firstByte r1.2 r1.1) fun r3 =>
      some (0, r3.1, r3.2)
    ) else (
      if x2 = 1 then (
        Option.bind (tgt r1.2 3 2 r1.1) fun v5 =>
        some (0, v5, r1.2)
      ) else (
        if x2 = 2 then (
          Option.bind (tgt r1.2 3 3 r1.1) fun v6 =>
          some (0, v6, r1.2)
        ) else (
          if x2 = 3 then (
            Option.bind (tck r1.2 3 r1.1) fun u8 =>
            Option.bind (t_X3_firstFree r1.2 r1.1) fun r7 =>
            some (0, r7.1, r7.2)
          ) else (
            some (2, 0, r1.2)
          )
        )
      )
    )
  ) else (
    some (1, 0, r1.2)
  )
theorem h_X5_slab {S : Nat → Prop} {h0 : Hp} {r : Int} {code : Nat} {t' : Th} {h : Hp} {t : Th} {x0 x1 x2 : Int} (hT : HT S h0 h t) (hg : t_X5_slab t x0 x1 x2 = some (code, r, t')) : ∃ h', f_X5_slab h x0 x1 x2 = some (code, r, h') ∧ HT S h0 h' t' := by
  unfold t_X5_slab at hg
  unfold f_X5_slab
  obtain ⟨u2, eu2, hg⟩ := bd hg
  refine ey_bind (ht_ck hT eu2) ?_
  obtain ⟨r1, er1, hg⟩ := bd hg
  obtain ⟨hr1, qr1, hT⟩ := h_X5_slabAt hT er1
  refine ey_bind qr1 ?_
  by_cases cd : 0 ≤ r1.1
  · replace hg := it_pos cd hg
    refine ey_pos cd ?_
    by_cases cd : x2 = 0
    · replace hg := it_pos cd hg
      refine ey_pos cd ?_
      obtain ⟨u4, eu4, hg⟩ := bd hg
      refine ey_bind (ht_ck hT eu4) ?_
      obtain ⟨r3, er3, hg⟩ := bd hg
      obtain ⟨hr3, qr3, hT⟩ := h_X3_firstByte hT er3
      refine ey_bind qr3 ?_
      exact ey_xret hg hT
    · replace hg := it_neg cd hg
      refine ey_neg cd ?_
      by_cases cd : x2 = 1
      · replace hg := it_pos cd hg
        refine ey_pos cd ?_
        obtain ⟨v5, ev5, hg⟩ := bd hg
        refine ey_bind (ht_get hT rfl ev5) ?_
        exact ey_xret hg hT
      · replace hg := it_neg cd hg
        refine ey_neg cd ?_
        by_cases cd : x2 = 2
        · replace hg := it_pos cd hg
          refine ey_pos cd ?_
          obtain ⟨v6, ev6, hg⟩ := bd hg
          refine ey_bind (ht_get hT rfl ev6) ?_
          exact ey_xret hg hT
        · replace hg := it_neg cd hg
          refine ey_neg cd ?_
          by_cases cd : x2 = 3
          · replace hg := it_pos cd hg
            refine ey_pos cd ?_
            obtain ⟨u8, eu8, hg⟩ := bd hg
            refine ey_bind (ht_ck hT eu8) ?_
            obtain ⟨r7, er7, hg⟩ := bd hg
            obtain ⟨hr7, qr7, hT⟩ := h_X3_firstFree hT er7
            refine ey_bind qr7 ?_
            exact ey_xret hg hT
          · replace hg := it_neg cd hg
            refine ey_neg cd ?_
            exact ey_xret hg hT
  · replace hg := it_neg cd hg
    refine ey_neg cd ?_
    exact ey_xret hg hT
noncomputable def t_X5_magazine (h : Th) (x0 x1 x2 x3 : Int) : Option (Nat × Int × Th) :=
  Option.bind (tck h 5 x0) fun u2 =>
  Option.bind (t_X5_knownCache h x0 x1) fun r1 =>
  if r1.1 = 0 then (
    Option.bind (t_X5_requireProcessor r1.2.2 x2) fun r3 =>
    if r3.1 = 0 then (
      if x3 = 0 then (
        Option.bind (trf r3.2.2 1 13 r1.2.1) fun v4 =>
        Option.bind (tal r3.2.2 1 13 r1.2.1 v4 x2) fun v5 =>
        Option.bind (tgt r3.2.2 2 1 v5) fun v6 =>
        some (0, v6, r3.2.2)
      ) else (
        if x3 = 1 then (
          Option.bind (trf r3.2.2 1 14 r1.2.1) fun v7 =>
          Option.bind (tal r3.2.2 1 14 r1.2.1 v7 x2) fun v8 =>
          Option.bind (tgt r3.2.2 2 1 v8) fun v9 =>
          some (0, v9, r3.2.2)
        ) else (
          if x3 = 2 then (
            Option.bind (tgt r3.2.2 1 16 r1.2.1) fun v10 =>
            some (0, v10, r3.2.2)
          ) else (
            some (2, 0, r3.2.2)
          )
        )
      )
    ) else (some (r3.1, 0, r3.2.2))
  ) else (some (r1.1, 0, r1.2.2))
theorem h_X5_magazine {S : Nat → Prop} {h0 : Hp} {r : Int} {code : Nat} {t' : Th} {h : Hp} {t : Th} {x0 x1 x2 x3 : Int} (hT : HT S h0 h t) (hg : t_X5_magazine t x0 x1 x2 x3 = some (code, r, t')) : ∃ h', f_X5_magazine h x0 x1 x2 x3 = some (code, r, h') ∧ HT S h0 h' t' := by
  unfold t_X5_magazine at hg
  unfold f_X5_magazine
  obtain ⟨u2, eu2, hg⟩ := bd hg
  refine ey_bind (ht_ck hT eu2) ?_
  obtain ⟨r1, er1, hg⟩ := bd hg
  obtain ⟨hr1, qr1, hT⟩ := h_X5_knownCache hT er1
  refine ey_bind qr1 ?_
  by_cases cd : r1.1 = 0
  · replace hg := it_pos cd hg
    refine ey_pos cd ?_
    obtain ⟨r3, er3, hg⟩ := bd hg
    obtain ⟨hr3, qr3, hT⟩ := h_X5_requireProcessor hT er3
    refine ey_bind qr3 ?_
    by_cases cd : r3.1 = 0
    · replace hg := it_pos cd hg
      refine ey_pos cd ?_
      by_cases cd : x3 = 0
      · replace hg := it_pos cd hg
        refine ey_pos cd ?_
        obtain ⟨v4, ev4, hg⟩ := bd hg
        refine ey_bind (ht_ref hT (by decide) ev4) ?_
        obtain ⟨v5, ev5, hg⟩ := bd hg
        refine ey_bind (ht_ald hT (kd := 12) rfl (by decide) ev5) ?_
        obtain ⟨v6, ev6, hg⟩ := bd hg
        refine ey_bind (ht_get hT rfl ev6) ?_
        exact ey_xret hg hT
      · replace hg := it_neg cd hg
        refine ey_neg cd ?_
        by_cases cd : x3 = 1
        · replace hg := it_pos cd hg
          refine ey_pos cd ?_
          obtain ⟨v7, ev7, hg⟩ := bd hg
          refine ey_bind (ht_ref hT (by decide) ev7) ?_
          obtain ⟨v8, ev8, hg⟩ := bd hg
          refine ey_bind (ht_ald hT (kd := 12) rfl (by decide) ev8) ?_
          obtain ⟨v9, ev9, hg⟩ := bd hg
          refine ey_bind (ht_get hT rfl ev9) ?_
          exact ey_xret hg hT
        · replace hg := it_neg cd hg
          refine ey_neg cd ?_
          by_cases cd : x3 = 2
          · replace hg := it_pos cd hg
            refine ey_pos cd ?_
            obtain ⟨v10, ev10, hg⟩ := bd hg
            refine ey_bind (ht_get hT rfl ev10) ?_
            exact ey_xret hg hT
          · replace hg := it_neg cd hg
            refine ey_neg cd ?_
            exact ey_xret hg hT
    · replace hg := it_neg cd hg
      refine ey_neg cd ?_
      exact ey_xret hg hT
  · replace hg := it_neg cd hg
    refine ey_neg cd ?_
    exact ey_xret hg hT
noncomputable def t_X5_block_j10 (h : Th) : Option (Nat × Int × Th) :=
  some (2, 0, h)
theorem h_X5_block_j10 {S : Nat → Prop} {h0 : Hp} {r : Int} {code : Nat} {t' : Th} {h : Hp} {t : Th} (hT : HT S h0 h t) (hg : t_X5_block_j10 t  = some (code, r, t')) : ∃ h', f_X5_block_j10 h  = some (code, r, h') ∧ HT S h0 h' t' := by
  unfold t_X5_block_j10 at hg
  unfold f_X5_block_j10
  exact ey_xret hg hT
noncomputable def t_X5_block (h : Th) (x0 x1 x2 : Int) : Option (Nat × Int × Th) :=
  if x1 < 0 then (
    t_X5_block_j10 h
  ) else (
    if x1 ≤ 6 then (
      Option.bind (tgt h 5 0 x0) fun v1 =>
      Option.bind (tck h 0 v1) fun u3 =>
      Option.bind (t_X0_freePage h v1 x1 x2) fun r2 =>
      some (0, r2.1, r2.2)
    ) else (
      t_X5_block_j10 h
    )
  )
theorem h_X5_block {S : Nat → Prop} {h0 : Hp} {r : Int} {code : Nat} {t' : Th} {h : Hp} {t : Th} {x0 x1 x2 : Int} (hT : HT S h0 h t) (hg : t_X5_block t x0 x1 x2 = some (code, r, t')) : ∃ h', f_X5_block h x0 x1 x2 = some (code, r, h') ∧ HT S h0 h' t' := by
  unfold t_X5_block at hg
  unfold f_X5_block
  by_cases cd : x1 < 0
  · replace hg := it_pos cd hg
    refine ey_pos cd ?_
    exact h_X5_block_j10 hT hg
  · replace hg := it_neg cd hg
    refine ey_neg cd ?_
    by_cases cd : x1 ≤ 6
    · replace hg := it_pos cd hg
      refine ey_pos cd ?_
      obtain ⟨v1, ev1, hg⟩ := bd hg
      refine ey_bind (ht_get hT rfl ev1) ?_
      obtain ⟨u3, eu3, hg⟩ := bd hg
      refine ey_bind (ht_ck hT eu3) ?_
      obtain ⟨r2, er2, hg⟩ := bd hg
      obtain ⟨hr2, qr2, hT⟩ := h_X0_freePage hT er2
      refine ey_bind qr2 ?_
      exact ey_xret hg hT
    · replace hg := it_neg cd hg
      refine ey_neg cd ?_
      exact h_X5_block_j10 hT hg
