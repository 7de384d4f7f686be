def g_X6_thrown (h : Mm) : Option (Int × Mm) :=
  Option.bind (some (h 0 0)) fun v1 =>
  some (v1, h)
theorem m_X6_thrown {x0 : Int} {am : Nat → Nat} {h0 : Hp} {r : Int} {N' : Mm} {h : Hp} {N : Mm} (hM : MX x0 am h0 h N) (hg : g_X6_thrown N = some (r, N')) : ∃ h', f_X6_thrown h x0 = some (r, h') ∧ MX x0 am h0 h' N' := by
  unfold g_X6_thrown at hg
  unfold f_X6_thrown
  obtain ⟨v1, ev1, hg⟩ := bd hg
  replace ev1 := Option.some.inj ev1
  refine ex_bind (v := v1) (by rw [← ev1]; exact mx_f0 hM) ?_
  exact ex_ret hg hM
def g_X6_refused_j14 (h : Mm) (s0 : Int) : Option (Int × Mm) :=
  rtM s0 h
theorem m_X6_refused_j14 {am : Nat → Nat} {h0 : Hp} {r : Int} {N' : Mm} {x0 : Int} {h : Hp} {N : Mm} {s0 : Int} (hM : MX x0 am h0 h N) (hg : g_X6_refused_j14 N s0 = some (r, N')) : ∃ h', f_X6_refused_j14 h s0 = some (r, h') ∧ MX x0 am h0 h' N' := by
  unfold g_X6_refused_j14 at hg
  unfold f_X6_refused_j14
  exact ex_rtB (P := MX x0 am h0) hg hM
def g_X6_refused (h : Mm) (x1 : Int) : Option (Int × Mm) :=
  Option.bind (some (mup h 0 0 x1)) fun h1 =>
  if x1 ≤ 0 then (
    g_X6_refused_j14 h1 0
  ) else (
    g_X6_refused_j14 h1 1
  )
theorem m_X6_refused {x0 : Int} {am : Nat → Nat} {h0 : Hp} {r : Int} {N' : Mm} {h : Hp} {N : Mm} {x1 : Int} (hM : MX x0 am h0 h N) (hg : g_X6_refused N x1 = some (r, N')) : ∃ h', f_X6_refused h x0 x1 = some (r, h') ∧ MX x0 am h0 h' N' := by
  unfold g_X6_refused at hg
  unfold f_X6_refused
  obtain ⟨Nh1, eh1, hg⟩ := bd hg
  cases eh1
  obtain ⟨h1, qh1, hM⟩ := mx_put hM (k := 0) (by decide) x1
  refine ex_bind qh1 ?_
  by_cases cd : x1 ≤ 0
  · replace hg := it_pos cd hg
    refine ex_pos cd ?_
    exact m_X6_refused_j14 hM hg
  · replace hg := it_neg cd hg
    refine ex_neg cd ?_
    exact m_X6_refused_j14 hM hg
def g_X6_isIn_j15 (h : Mm) (s0 : Int) : Option (Int × Mm) :=
  rtM s0 h
theorem m_X6_isIn_j15 {am : Nat → Nat} {h0 : Hp} {r : Int} {N' : Mm} {x0 : Int} {h : Hp} {N : Mm} {s0 : Int} (hM : MX x0 am h0 h N) (hg : g_X6_isIn_j15 N s0 = some (r, N')) : ∃ h', f_X6_isIn_j15 h s0 = some (r, h') ∧ MX x0 am h0 h' N' := by
  unfold g_X6_isIn_j15 at hg
  unfold f_X6_isIn_j15
  exact ex_rtB (P := MX x0 am h0) hg hM
def g_X6_isIn_j14 (h : Mm) : Option (Int × Mm) :=
  g_X6_isIn_j15 h 0
theorem m_X6_isIn_j14 {am : Nat → Nat} {h0 : Hp} {r : Int} {N' : Mm} {x0 : Int} {h : Hp} {N : Mm} (hM : MX x0 am h0 h N) (hg : g_X6_isIn_j14 N  = some (r, N')) : ∃ h', f_X6_isIn_j14 h  = some (r, h') ∧ MX x0 am h0 h' N' := by
  unfold g_X6_isIn_j14 at hg
  unfold f_X6_isIn_j14
  exact m_X6_isIn_j15 hM hg
def g_X6_isIn (h : Mm) (x0 x1 x2 : Int) : Option (Int × Mm) :=
  if x0 < x1 then (
    g_X6_isIn_j14 h
  ) else (
    if x2 < x0 then (
      g_X6_isIn_j14 h
    ) else (
      g_X6_isIn_j15 h 1
    )
  )
theorem m_X6_isIn {y0 : Int} {am : Nat → Nat} {h0 : Hp} {r : Int} {N' : Mm} {h : Hp} {N : Mm} {x0 x1 x2 : Int} (hM : MX y0 am h0 h N) (hg : g_X6_isIn N x0 x1 x2 = some (r, N')) : ∃ h', f_X6_isIn h x0 x1 x2 = some (r, h') ∧ MX y0 am h0 h' N' := by
  unfold g_X6_isIn at hg
  unfold f_X6_isIn
  by_cases cd : x0 < x1
  · replace hg := it_pos cd hg
    refine ex_pos cd ?_
    exact m_X6_isIn_j14 hM hg
  · replace hg := it_neg cd hg
    refine ex_neg cd ?_
    by_cases cd : x2 < x0
    · replace hg := it_pos cd hg
      refine ex_pos cd ?_
      exact m_X6_isIn_j14 hM hg
    · replace hg := it_neg cd hg
      refine ex_neg cd ?_
      exact m_X6_isIn_j15 hM hg
def g_X6_isCache_j28 (h : Mm) (s0 : Int) : Option (Int × Mm) :=
  rtM s0 h
theorem m_X6_isCache_j28 {am : Nat → Nat} {h0 : Hp} {r : Int} {N' : Mm} {x0 : Int} {h : Hp} {N : Mm} {s0 : Int} (hM : MX x0 am h0 h N) (hg : g_X6_isCache_j28 N s0 = some (r, N')) : ∃ h', f_X6_isCache_j28 h s0 = some (r, h') ∧ MX x0 am h0 h' N' := by
  unfold g_X6_isCache_j28 at hg
  unfold f_X6_isCache_j28
  exact ex_rtB (P := MX x0 am h0) hg hM
def g_X6_isCache_j27 (h : Mm) : Option (Int × Mm) :=
  g_X6_isCache_j28 h 0
theorem m_X6_isCache_j27 {am : Nat → Nat} {h0 : Hp} {r : Int} {N' : Mm} {x0 : Int} {h : Hp} {N : Mm} (hM : MX x0 am h0 h N) (hg : g_X6_isCache_j27 N  = some (r, N')) : ∃ h', f_X6_isCache_j27 h  = some (r, h') ∧ MX x0 am h0 h' N' := by
  unfold g_X6_isCache_j27 at hg
  unfold f_X6_isCache_j27
  exact m_X6_isCache_j28 hM hg
def g_X6_isCache (h : Mm) (x1 : Int) : Option (Int × Mm) :=
  Option.bind (some (h 3 0)) fun v1 =>
  Option.bind (g_X6_isIn h x1 0 (wr (v1 - 1))) fun r2 =>
  if r2.1 = 0 then (
    g_X6_isCache_j27 r2.2
  ) else (
    Option.bind (mgt 4 r2.2 x1) fun v4 =>
    if v4 ≠ 0 then (
      g_X6_isCache_j27 r2.2
    ) else (
      g_X6_isCache_j28 r2.2 1
    )
  )
theorem m_X6_isCache {x0 : Int} {am : Nat → Nat} {h0 : Hp} {r : Int} {N' : Mm} {h : Hp} {N : Mm} {x1 : Int} (hM : MX x0 am h0 h N) (hg : g_X6_isCache N x1 = some (r, N')) : ∃ h', f_X6_isCache h x0 x1 = some (r, h') ∧ MX x0 am h0 h' N' := by
  unfold g_X6_isCache at hg
  unfold f_X6_isCache
  obtain ⟨v1, ev1, hg⟩ := bd hg
  replace ev1 := Option.some.inj ev1
  refine ex_bind (v := v1) (by rw [← ev1]; exact mx_f3 hM) ?_
  obtain ⟨r2, er2, hg⟩ := bd hg
  obtain ⟨hr2, qr2, hM⟩ := m_X6_isIn hM er2
  refine ex_bind qr2 ?_
  by_cases cd : r2.1 = 0
  · replace hg := it_pos cd hg
    refine ex_pos cd ?_
    exact m_X6_isCache_j27 hM hg
  · replace hg := it_neg cd hg
    refine ex_neg cd ?_
    refine ex_bind (mx_ref hM 4 (by decide)) ?_
    obtain ⟨v4, ev4, hg⟩ := bd hg
    refine ex_bind (mx_ald hM (k := 4) (by decide) rfl ev4) ?_
    by_cases cd : v4 ≠ 0
    · replace hg := it_pos cd hg
      refine ex_pos cd ?_
      exact m_X6_isCache_j27 hM hg
    · replace hg := it_neg cd hg
      refine ex_neg cd ?_
      exact m_X6_isCache_j28 hM hg
def g_X6_takeBlock_s37 (k37 : Mm → Int → Int → Int → Option (Int × Mm)) (h : Mm) (x1 x3 x4 : Int) : Option (Int × Mm) :=
  if x4 ≤ x1 then (
    some (x3, h)
  ) else (
    Option.bind (mst 1 h (wr (x3 + (ish 1 (wr (x4 - 1))))) (wr (x4 - 1))) fun h6 =>
    k37 h6 x1 x3 (wr (x4 + (-1)))
  )
def g_X6_takeBlock_b37 : Nat → Mm → Int → Int → Int → Option (Int × Mm)
  | 0, _, _, _, _ => none
  | n + 1, h, x1, x3, x4 => g_X6_takeBlock_s37 (g_X6_takeBlock_b37 n) h x1 x3 x4
theorem m_X6_takeBlock_s37 {am : Nat → Nat} {h0 : Hp} {r : Int} {N' : Mm} {x0 : Int} {kg37 : Mm → Int → Int → Int → Option (Int × Mm)} {kf37 : Hp → Int → Int → Int → Int → Option (Int × Hp)} (hk37 : ∀ {h : Hp} {N : Mm} {x1 x3 x4 : Int}, MX x0 am h0 h N → kg37 N x1 x3 x4 = some (r, N') → ∃ h', kf37 h x0 x1 x3 x4 = some (r, h') ∧ MX x0 am h0 h' N') {h : Hp} {N : Mm} {x1 x3 x4 : Int} (hM : MX x0 am h0 h N) (hg : g_X6_takeBlock_s37 kg37 N x1 x3 x4 = some (r, N')) : ∃ h', f_X6_takeBlock_s37 kf37 h x0 x1 x3 x4 = some (r, h') ∧ MX x0 am h0 h' N' := by
  unfold g_X6_takeBlock_s37 at hg
  unfold f_X6_takeBlock_s37
  by_cases cd : x4 ≤ x1
  · replace hg := it_pos cd hg
    refine ex_pos cd ?_
    exact ex_ret hg hM
  · replace hg := it_neg cd hg
    refine ex_neg cd ?_
    refine ex_bind (mx_ref hM 1 (by decide)) ?_
    obtain ⟨Nh6, eh6, hg⟩ := bd hg
    obtain ⟨h6, qh6, hM⟩ := mx_ast hM (k := 1) (by decide) rfl eh6
    refine ex_bind qh6 ?_
    exact hk37 hM hg
theorem m_X6_takeBlock_b37 {am : Nat → Nat} {h0 : Hp} {r : Int} {N' : Mm} {x0 : Int} {n : Nat} {h : Hp} {N : Mm} {x1 x3 x4 : Int} (hM : MX x0 am h0 h N) (hg : g_X6_takeBlock_b37 n N x1 x3 x4 = some (r, N')) : ∃ h', f_X6_takeBlock_b37 n h x0 x1 x3 x4 = some (r, h') ∧ MX x0 am h0 h' N' := by
  induction n generalizing h N x1 x3 x4 with
  | zero => exact absurd hg (fun q => nomatch (show (none : Option (Int × Mm)) = some (r, N') from q))
  | succ n ih => exact m_X6_takeBlock_s37 (fun hM hg => ih hM hg) hM hg
def g_X6_takeBlock_s10 (k2 : Mm → Int → Int → Option (Int × Mm)) (k10 : Mm → Int → Int → Int → Option (Int × Mm)) (h : Mm) (x1 x2 x3 : Int) : Option (Int × Mm) :=
  if 256 ≤ x3 then (
    k2 h x1 (wr (x2 + 1))
  ) else (
    Option.bind (mgt 1 h x3) fun v2 =>
    if v2 ≠ x2 then (
      k10 h x1 x2 (wr (x3 + 1))
    ) else (
      Option.bind (mst 1 h x3 (-1)) fun h4 =>
      g_X6_takeBlock_b37 fuel h4 x1 x3 x2
    )
  )
def g_X6_takeBlock_b10 (k2 : Mm → Int → Int → Option (Int × Mm)) : Nat → Mm → Int → Int → Int → Option (Int × Mm)
  | 0, _, _, _, _ => none
  | n + 1, h, x1, x2, x3 => g_X6_takeBlock_s10 k2 (g_X6_takeBlock_b10 k2 n) h x1 x2 x3
theorem m_X6_takeBlock_s10 {am : Nat → Nat} {h0 : Hp} {r : Int} {N' : Mm} {x0 : Int} {kg2 : Mm → Int → Int → Option (Int × Mm)} {kf2 : Hp → Int → Int → Int → Option (Int × Hp)} (hk2 : ∀ {h : Hp} {N : Mm} {x1 x2 : Int}, MX x0 am h0 h N → kg2 N x1 x2 = some (r, N') → ∃ h', kf2 h x0 x1 x2 = some (r, h') ∧ MX x0 am h0 h' N') {kg10 : Mm → Int → Int → Int → Option (Int × Mm)} {kf10 : Hp → Int → Int → Int → Int → Option (Int × Hp)} (hk10 : ∀ {h : Hp} {N : Mm} {x1 x2 x3 : Int}, MX x0 am h0 h N → kg10 N x1 x2 x3 = some (r, N') → ∃ h', kf10 h x0 x1 x2 x3 = some (r, h') ∧ MX x0 am h0 h' N') {h : Hp} {N : Mm} {x1 x2 x3 : Int} (hM : MX x0 am h0 h N) (hg : g_X6_takeBlock_s10 kg2 kg10 N x1 x2 x3 = some (r, N')) : ∃ h', f_X6_takeBlock_s10 kf2 kf10 h x0 x1 x2 x3 = some (r, h') ∧ MX x0 am h0 h' N' := by
  unfold g_X6_takeBlock_s10 at hg
  unfold f_X6_takeBlock_s10
  by_cases cd : 256 ≤ x3
  · replace hg := it_pos cd hg
    refine ex_pos cd ?_
    exact hk2 hM hg
  · replace hg := it_neg cd hg
    refine ex_neg cd ?_
    refine ex_bind (mx_ref hM 1 (by decide)) ?_
    obtain ⟨v2, ev2, hg⟩ := bd hg
    refine ex_bind (mx_ald hM (k := 1) (by decide) rfl ev2) ?_
    by_cases cd : v2 ≠ x2
    · replace hg := it_pos cd hg
      refine ex_pos cd ?_
      exact hk10 hM hg
    · replace hg := it_neg cd hg
      refine ex_neg cd ?_
      refine ex_bind (mx_ref hM 1 (by decide)) ?_
      obtain ⟨Nh4, eh4, hg⟩ := bd hg
      obtain ⟨h4, qh4, hM⟩ := mx_ast hM (k := 1) (by decide) rfl eh4
      refine ex_bind qh4 ?_
      exact m_X6_takeBlock_b37 hM hg
theorem m_X6_takeBlock_b10 {am : Nat → Nat} {h0 : Hp} {r : Int} {N' : Mm} {x0 : Int} {kg2 : Mm → Int → Int → Option (Int × Mm)} {kf2 : Hp → Int → Int → Int → Option (Int × Hp)} (hk2 : ∀ {h : Hp} {N : Mm} {x1 x2 : Int}, MX x0 am h0 h N → kg2 N x1 x2 = some (r, N') → ∃ h', kf2 h x0 x1 x2 = some (r, h') ∧ MX x0 am h0 h' N') {n : Nat} {h : Hp} {N : Mm} {x1 x2 x3 : Int} (hM : MX x0 am h0 h N) (hg : g_X6_takeBlock_b10 kg2 n N x1 x2 x3 = some (r, N')) : ∃ h', f_X6_takeBlock_b10 kf2 n h x0 x1 x2 x3 = some (r, h') ∧ MX x0 am h0 h' N' := by
  induction n generalizing h N x1 x2 x3 with
  | zero => exact absurd hg (fun q => nomatch (show (none : Option (Int × Mm)) = some (r, N') from q))
  | succ n ih => exact m_X6_takeBlock_s10 hk2 (fun hM hg => ih hM hg) hM hg
def g_X6_takeBlock_s2 (k2 : Mm → Int → Int → Option (Int × Mm)) (h : Mm) (x1 x2 : Int) : Option (Int × Mm) :=
  if 6 < x2 then (
    some ((-1), h)
  ) else (
    g_X6_takeBlock_b10 k2 fuel h x1 x2 0
  )
def g_X6_takeBlock_b2 : Nat → Mm → Int → Int → Option (Int × Mm)
  | 0, _, _, _ => none
  | n + 1, h, x1, x2 => g_X6_takeBlock_s2 (g_X6_takeBlock_b2 n) h x1 x2
theorem m_X6_takeBlock_s2 {am : Nat → Nat} {h0 : Hp} {r : Int} {N' : Mm} {x0 : Int} {kg2 : Mm → Int → Int → Option (Int × Mm)} {kf2 : Hp → Int → Int → Int → Option (Int × Hp)} (hk2 : ∀ {h : Hp} {N : Mm} {x1 x2 : Int}, MX x0 am h0 h N → kg2 N x1 x2 = some (r, N') → ∃ h', kf2 h x0 x1 x2 = some (r, h') ∧ MX x0 am h0 h' N') {h : Hp} {N : Mm} {x1 x2 : Int} (hM : MX x0 am h0 h N) (hg : g_X6_takeBlock_s2 kg2 N x1 x2 = some (r, N')) : ∃ h', f_X6_takeBlock_s2 kf2 h x0 x1 x2 = some (r, h') ∧ MX x0 am h0 h' N' := by
  unfold g_X6_takeBlock_s2 at hg
  unfold f_X6_takeBlock_s2
  by_cases cd : 6 < x2
  · replace hg := it_pos cd hg
    refine ex_pos cd ?_
    exact ex_ret hg hM
  · replace hg := it_neg cd hg
    refine ex_neg cd ?_
    exact m_X6_takeBlock_b10 hk2 hM hg
theorem m_X6_takeBlock_b2 {am : Nat → Nat} {h0 : Hp} {r : Int} {N' : Mm} {x0 : Int} {n : Nat} {h : Hp} {N : Mm} {x1 x2 : Int} (hM : MX x0 am h0 h N) (hg : g_X6_takeBlock_b2 n N x1 x2 = some (r, N')) : ∃ h', f_X6_takeBlock_b2 n h x0 x1 x2 = some (r, h') ∧ MX x0 am h0 h' N' := by
  induction n generalizing h N x1 x2 with
  | zero => exact absurd hg (fun q => nomatch (show (none : Option (Int × Mm)) = some (r, N') from q))
  | succ n ih => exact m_X6_takeBlock_s2 (fun hM hg => ih hM hg) hM hg
def g_X6_takeBlock (h : Mm) (x1 : Int) : Option (Int × Mm) :=
  g_X6_takeBlock_b2 fuel h x1 x1
theorem m_X6_takeBlock {x0 : Int} {am : Nat → Nat} {h0 : Hp} {r : Int} {N' : Mm} {h : Hp} {N : Mm} {x1 : Int} (hM : MX x0 am h0 h N) (hg : g_X6_takeBlock N x1 = some (r, N')) : ∃ h', f_X6_takeBlock h x0 x1 = some (r, h') ∧ MX x0 am h0 h' N' := by
  unfold g_X6_takeBlock at hg
  unfold f_X6_takeBlock
  exact m_X6_takeBlock_b2 hM hg
def g_X6_giveBlock_j55 (h : Mm) (x3 x4 : Int) : Option (Int × Mm) :=
  Option.bind (mst 1 h x3 x4) fun h6 =>
  some (0, h6)
theorem m_X6_giveBlock_j55 {am : Nat → Nat} {h0 : Hp} {r : Int} {N' : Mm} {x0 : Int} {h : Hp} {N : Mm} {x3 x4 : Int} (hM : MX x0 am h0 h N) (hg : g_X6_giveBlock_j55 N x3 x4 = some (r, N')) : ∃ h', f_X6_giveBlock_j55 h x0 x3 x4 = some (r, h') ∧ MX x0 am h0 h' N' := by
  unfold g_X6_giveBlock_j55 at hg
  unfold f_X6_giveBlock_j55
  refine ex_bind (mx_ref hM 1 (by decide)) ?_
  obtain ⟨Nh6, eh6, hg⟩ := bd hg
  obtain ⟨h6, qh6, hM⟩ := mx_ast hM (k := 1) (by decide) rfl eh6
  refine ex_bind qh6 ?_
  exact ex_ret hg hM
def g_X6_giveBlock_s5 (k5 : Mm → Int → Int → Option (Int × Mm)) (h : Mm) (x3 x4 : Int) : Option (Int × Mm) :=
  if 6 ≤ x4 then (
    g_X6_giveBlock_j55 h x3 x4
  ) else (
    Option.bind (mgt 1 h (ixr x3 (ish 1 x4))) fun v2 =>
    if v2 ≠ x4 then (
      g_X6_giveBlock_j55 h x3 x4
    ) else (
      Option.bind (mst 1 h (ixr x3 (ish 1 x4)) (-1)) fun h4 =>
      k5 h4 (ian x3 (ixr (ish 1 x4) (-1))) (wr (x4 + 1))
    )
  )
def g_X6_giveBlock_b5 : Nat → Mm → Int → Int → Option (Int × Mm)
  | 0, _, _, _ => none
  | n + 1, h, x3, x4 => g_X6_giveBlock_s5 (g_X6_giveBlock_b5 n) h x3 x4
theorem m_X6_giveBlock_s5 {am : Nat → Nat} {h0 : Hp} {r : Int} {N' : Mm} {x0 : Int} {kg5 : Mm → Int → Int → Option (Int × Mm)} {kf5 : Hp → Int → Int → Int → Option (Int × Hp)} (hk5 : ∀ {h : Hp} {N : Mm} {x3 x4 : Int}, MX x0 am h0 h N → kg5 N x3 x4 = some (r, N') → ∃ h', kf5 h x0 x3 x4 = some (r, h') ∧ MX x0 am h0 h' N') {h : Hp} {N : Mm} {x3 x4 : Int} (hM : MX x0 am h0 h N) (hg : g_X6_giveBlock_s5 kg5 N x3 x4 = some (r, N')) : ∃ h', f_X6_giveBlock_s5 kf5 h x0 x3 x4 = some (r, h') ∧ MX x0 am h0 h' N' := by
  unfold g_X6_giveBlock_s5 at hg
  unfold f_X6_giveBlock_s5
  by_cases cd : 6 ≤ x4
  · replace hg := it_pos cd hg
    refine ex_pos cd ?_
    exact m_X6_giveBlock_j55 hM hg
  · replace hg := it_neg cd hg
    refine ex_neg cd ?_
    refine ex_bind (mx_ref hM 1 (by decide)) ?_
    obtain ⟨v2, ev2, hg⟩ := bd hg
    refine ex_bind (mx_ald hM (k := 1) (by decide) rfl ev2) ?_
    by_cases cd : v2 ≠ x4
    · replace hg := it_pos cd hg
      refine ex_pos cd ?_
      exact m_X6_giveBlock_j55 hM hg
    · replace hg := it_neg cd hg
      refine ex_neg cd ?_
      refine ex_bind (mx_ref hM 1 (by decide)) ?_
      obtain ⟨Nh4, eh4, hg⟩ := bd hg
      obtain ⟨h4, qh4, hM⟩ := mx_ast hM (k := 1) (by decide) rfl eh4
      refine ex_bind qh4 ?_
      exact hk5 hM hg
theorem m_X6_giveBlock_b5 {am : Nat → Nat} {h0 : Hp} {r : Int} {N' : Mm} {x0 : Int} {n : Nat} {h : Hp} {N : Mm} {x3 x4 : Int} (hM : MX x0 am h0 h N) (hg : g_X6_giveBlock_b5 n N x3 x4 = some (r, N')) : ∃ h', f_X6_giveBlock_b5 n h x0 x3 x4 = some (r, h') ∧ MX x0 am h0 h' N' := by
  induction n generalizing h N x3 x4 with
  | zero => exact absurd hg (fun q => nomatch (show (none : Option (Int × Mm)) = some (r, N') from q))
  | succ n ih => exact m_X6_giveBlock_s5 (fun hM hg => ih hM hg) hM hg
def g_X6_giveBlock (h : Mm) (x1 x2 : Int) : Option (Int × Mm) :=
  g_X6_giveBlock_b5 fuel h x1 x2
theorem m_X6_giveBlock {x0 : Int} {am : Nat → Nat} {h0 : Hp} {r : Int} {N' : Mm} {h : Hp} {N : Mm} {x1 x2 : Int} (hM : MX x0 am h0 h N) (hg : g_X6_giveBlock N x1 x2 = some (r, N')) : ∃ h', f_X6_giveBlock h x0 x1 x2 = some (r, h') ∧ MX x0 am h0 h' N' := by
  unfold g_X6_giveBlock at hg
  unfold f_X6_giveBlock
  exact m_X6_giveBlock_b5 hM hg
def g_X6_enter_s16 (k16 : Mm → Int → Int → Int → Option (Int × Mm)) (h : Mm) (x3 x4 x5 : Int) : Option (Int × Mm) :=
  if x5 ≤ 0 then (
    Option.bind (mst 22 h (wr (256 * x4)) x3) fun h4 =>
    Option.bind (mgt 21 h4 x4) fun v6 =>
    Option.bind (mst 21 h4 x4 (wr (v6 + 1))) fun h7 =>
    some (0, h7)
  ) else (
    Option.bind (mgt 22 h (wr ((wr ((wr (256 * x4)) + x5)) - 1))) fun v10 =>
    Option.bind (mst 22 h (wr ((wr (256 * x4)) + x5)) v10) fun h11 =>
    k16 h11 x3 x4 (wr (x5 + (-1)))
  )
def g_X6_enter_b16 : Nat → Mm → Int → Int → Int → Option (Int × Mm)
  | 0, _, _, _, _ => none
  | n + 1, h, x3, x4, x5 => g_X6_enter_s16 (g_X6_enter_b16 n) h x3 x4 x5
theorem m_X6_enter_s16 {am : Nat → Nat} {h0 : Hp} {r : Int} {N' : Mm} {x0 : Int} {kg16 : Mm → Int → Int → Int → Option (Int × Mm)} {kf16 : Hp → Int → Int → Int → Int → Option (Int × Hp)} (hk16 : ∀ {h : Hp} {N : Mm} {x3 x4 x5 : Int}, MX x0 am h0 h N → kg16 N x3 x4 x5 = some (r, N') → ∃ h', kf16 h x0 x3 x4 x5 = some (r, h') ∧ MX x0 am h0 h' N') {h : Hp} {N : Mm} {x3 x4 x5 : Int} (hM : MX x0 am h0 h N) (hg : g_X6_enter_s16 kg16 N x3 x4 x5 = some (r, N')) : ∃ h', f_X6_enter_s16 kf16 h x0 x3 x4 x5 = some (r, h') ∧ MX x0 am h0 h' N' := by
  unfold g_X6_enter_s16 at hg
  unfold f_X6_enter_s16
  by_cases cd : x5 ≤ 0
  · replace hg := it_pos cd hg
    refine ex_pos cd ?_
    refine ex_bind (mx_ref hM 22 (by decide)) ?_
    obtain ⟨Nh4, eh4, hg⟩ := bd hg
    obtain ⟨h4, qh4, hM⟩ := mx_ast hM (k := 22) (by decide) rfl eh4
    refine ex_bind qh4 ?_
    refine ex_bind (mx_ref hM 21 (by decide)) ?_
    obtain ⟨v6, ev6, hg⟩ := bd hg
    refine ex_bind (mx_ald hM (k := 21) (by decide) rfl ev6) ?_
    obtain ⟨Nh7, eh7, hg⟩ := bd hg
    obtain ⟨h7, qh7, hM⟩ := mx_ast hM (k := 21) (by decide) rfl eh7
    refine ex_bind qh7 ?_
    exact ex_ret hg hM
  · replace hg := it_neg cd hg
    refine ex_neg cd ?_
    refine ex_bind (mx_ref hM 22 (by decide)) ?_
    refine ex_bind (mx_ref hM 22 (by decide)) ?_
    obtain ⟨v10, ev10, hg⟩ := bd hg
    refine ex_bind (mx_ald hM (k := 22) (by decide) rfl ev10) ?_
    obtain ⟨Nh11, eh11, hg⟩ := bd hg
    obtain ⟨h11, qh11, hM⟩ := mx_ast hM (k := 22) (by decide) rfl eh11
    refine ex_bind qh11 ?_
    exact hk16 hM hg
theorem m_X6_enter_b16 {am : Nat → Nat} {h0 : Hp} {r : Int} {N' : Mm} {x0 : Int} {n : Nat} {h : Hp} {N : Mm} {x3 x4 x5 : Int} (hM : MX x0 am h0 h N) (hg : g_X6_enter_b16 n N x3 x4 x5 = some (r, N')) : ∃ h', f_X6_enter_b16 n h x0 x3 x4 x5 = some (r, h') ∧ MX x0 am h0 h' N' := by
  induction n generalizing h N x3 x4 x5 with
  | zero => exact absurd hg (fun q => nomatch (show (none : Option (Int × Mm)) = some (r, N') from q))
  | succ n ih => exact m_X6_enter_s16 (fun hM hg => ih hM hg) hM hg
def g_X6_enter (h : Mm) (x1 x2 x3 : Int) : Option (Int × Mm) :=
  Option.bind (mgt 21 h (wr ((wr (3 * x1)) + x2))) fun v2 =>
  g_X6_enter_b16 fuel h x3 (wr ((wr (3 * x1)) + x2)) v2
theorem m_X6_enter {x0 : Int} {am : Nat → Nat} {h0 : Hp} {r : Int} {N' : Mm} {h : Hp} {N : Mm} {x1 x2 x3 : Int} (hM : MX x0 am h0 h N) (hg : g_X6_enter N x1 x2 x3 = some (r, N')) : ∃ h', f_X6_enter h x0 x1 x2 x3 = some (r, h') ∧ MX x0 am h0 h' N' := by
  unfold g_X6_enter at hg
  unfold f_X6_enter
  refine ex_bind (mx_ref hM 21 (by decide)) ?_
  obtain ⟨v2, ev2, hg⟩ := bd hg
  refine ex_bind (mx_ald hM (k := 21) (by decide) rfl ev2) ?_
  exact m_X6_enter_b16 hM hg
def g_X6_leave_s49 (k49 : Mm → Int → Int → Option (Int × Mm)) (h : Mm) (x4 x6 : Int) : Option (Int × Mm) :=
  Option.bind (mgt 21 h x4) fun v7 =>
  if v7 ≤ x6 then (
    some (0, h)
  ) else (
    Option.bind (mgt 22 h (wr ((wr ((wr (256 * x4)) + x6)) + 1))) fun v10 =>
    Option.bind (mst 22 h (wr ((wr (256 * x4)) + x6)) v10) fun h11 =>
    k49 h11 x4 (wr (x6 + 1))
  )
def g_X6_leave_b49 : Nat → Mm → Int → Int → Option (Int × Mm)
  | 0, _, _, _ => none
  | n + 1, h, x4, x6 => g_X6_leave_s49 (g_X6_leave_b49 n) h x4 x6
theorem m_X6_leave_s49 {am : Nat → Nat} {h0 : Hp} {r : Int} {N' : Mm} {x0 : Int} {kg49 : Mm → Int → Int → Option (Int × Mm)} {kf49 : Hp → Int → Int → Int → Option (Int × Hp)} (hk49 : ∀ {h : Hp} {N : Mm} {x4 x6 : Int}, MX x0 am h0 h N → kg49 N x4 x6 = some (r, N') → ∃ h', kf49 h x0 x4 x6 = some (r, h') ∧ MX x0 am h0 h' N') {h : Hp} {N : Mm} {x4 x6 : Int} (hM : MX x0 am h0 h N) (hg : g_X6_leave_s49 kg49 N x4 x6 = some (r, N')) : ∃ h', f_X6_leave_s49 kf49 h x0 x4 x6 = some (r, h') ∧ MX x0 am h0 h' N' := by
  unfold g_X6_leave_s49 at hg
  unfold f_X6_leave_s49
  refine ex_bind (mx_ref hM 21 (by decide)) ?_
  obtain ⟨v7, ev7, hg⟩ := bd hg
  refine ex_bind (mx_ald hM (k := 21) (by decide) rfl ev7) ?_
  by_cases cd : v7 ≤ x6
  · replace hg := it_pos cd hg
    refine ex_pos cd ?_
    exact ex_ret hg hM
  · replace hg := it_neg cd hg
    refine ex_neg cd ?_
    refine ex_bind (mx_ref hM 22 (by decide)) ?_
    refine ex_bind (mx_ref hM 22 (by decide)) ?_
    obtain ⟨v10, ev10, hg⟩ := bd hg
    refine ex_bind (mx_ald hM (k := 22) (by decide) rfl ev10) ?_
    obtain ⟨Nh11, eh11, hg⟩ := bd hg
    obtain ⟨h11, qh11, hM⟩ := mx_ast hM (k := 22) (by decide) rfl eh11
    refine ex_bind qh11 ?_
    exact hk49 hM hg
theorem m_X6_leave_b49 {am : Nat → Nat} {h0 : Hp} {r : Int} {N' : Mm} {x0 : Int} {n : Nat} {h : Hp} {N : Mm} {x4 x6 : Int} (hM : MX x0 am h0 h N) (hg : g_X6_leave_b49 n N x4 x6 = some (r, N')) : ∃ h', f_X6_leave_b49 n h x0 x4 x6 = some (r, h') ∧ MX x0 am h0 h' N' := by
  induction n generalizing h N x4 x6 with
  | zero => exact absurd hg (fun q => nomatch (show (none : Option (Int × Mm)) = some (r, N') from q))
  | succ n ih => exact m_X6_leave_s49 (fun hM hg => ih hM hg) hM hg
def g_X6_leave_s10 (k10 : Mm → Int → Int → Int → Option (Int × Mm)) (h : Mm) (x3 x4 x5 : Int) : Option (Int × Mm) :=
  Option.bind (mgt 22 h (wr ((wr (256 * x4)) + x5))) fun v2 =>
  if v2 = x3 then (
    Option.bind (mgt 21 h x4) fun v4 =>
    Option.bind (mst 21 h x4 (wr (v4 - 1))) fun h5 =>
    g_X6_leave_b49 fuel h5 x4 x5
  ) else (
    k10 h x3 x4 (wr (x5 + 1))
  )
def g_X6_leave_b10 : Nat → Mm → Int → Int → Int → Option (Int × Mm)
  | 0, _, _, _, _ => none
  | n + 1, h, x3, x4, x5 => g_X6_leave_s10 (g_X6_leave_b10 n) h x3 x4 x5
theorem m_X6_leave_s10 {am : Nat → Nat} {h0 : Hp} {r : Int} {N' : Mm} {x0 : Int} {kg10 : Mm → Int → Int → Int → Option (Int × Mm)} {kf10 : Hp → Int → Int → Int → Int → Option (Int × Hp)} (hk10 : ∀ {h : Hp} {N : Mm} {x3 x4 x5 : Int}, MX x0 am h0 h N → kg10 N x3 x4 x5 = some (r, N') → ∃ h', kf10 h x0 x3 x4 x5 = some (r, h') ∧ MX x0 am h0 h' N') {h : Hp} {N : Mm} {x3 x4 x5 : Int} (hM : MX x0 am h0 h N) (hg : g_X6_leave_s10 kg10 N x3 x4 x5 = some (r, N')) : ∃ h', f_X6_leave_s10 kf10 h x0 x3 x4 x5 = some (r, h') ∧ MX x0 am h0 h' N' := by
  unfold g_X6_leave_s10 at hg
  unfold f_X6_leave_s10
  refine ex_bind (mx_ref hM 22 (by decide)) ?_
  obtain ⟨v2, ev2, hg⟩ := bd hg
  refine ex_bind (mx_ald hM (k := 22) (by decide) rfl ev2) ?_
  by_cases cd : v2 = x3
  · replace hg := it_pos cd hg
    refine ex_pos cd ?_
    refine ex_bind (mx_ref hM 21 (by decide)) ?_
    obtain ⟨v4, ev4, hg⟩ := bd hg
    refine ex_bind (mx_ald hM (k := 21) (by decide) rfl ev4) ?_
    obtain ⟨Nh5, eh5, hg⟩ := bd hg
    obtain ⟨h5, qh5, hM⟩ := mx_ast hM (k := 21) (by decide) rfl eh5
    refine ex_bind qh5 ?_
    exact m_X6_leave_b49 hM hg
  · replace hg := it_neg cd hg
    refine ex_neg cd ?_
    exact hk10 hM hg
theorem m_X6_leave_b10 {am : Nat → Nat} {h0 : Hp} {r : Int} {N' : Mm} {x0 : Int} {n : Nat} {h : Hp} {N : Mm} {x3 x4 x5 : Int} (hM : MX x0 am h0 h N) (hg : g_X6_leave_b10 n N x3 x4 x5 = some (r, N')) : ∃ h', f_X6_leave_b10 n h x0 x3 x4 x5 = some (r, h') ∧ MX x0 am h0 h' N' := by
  induction n generalizing h N x3 x4 x5 with
  | zero => exact absurd hg (fun q => nomatch (show (none : Option (Int × Mm)) = some (r, N') from q))
  | succ n ih => exact m_X6_leave_s10 (fun hM hg => ih hM hg) hM hg
def g_X6_leave (h : Mm) (x1 x2 x3 : Int) : Option (Int × Mm) :=
  g_X6_leave_b10 fuel h x3 (wr ((wr (3 * x1)) + x2)) 0
theorem m_X6_leave {x0 : Int} {am : Nat → Nat} {h0 : Hp} {r : Int} {N' : Mm} {h : Hp} {N : Mm} {x1 x2 x3 : Int} (hM : MX x0 am h0 h N) (hg : g_X6_leave N x1 x2 x3 = some (r, N')) : ∃ h', f_X6_leave h x0 x1 x2 x3 = some (r, h') ∧ MX x0 am h0 h' N' := by
  unfold g_X6_leave at hg
  unfold f_X6_leave
  exact m_X6_leave_b10 hM hg
def g_X6_whichOf_j38 (h : Mm) (s0 : Int) : Option (Int × Mm) :=
  some (s0, h)
theorem m_X6_whichOf_j38 {am : Nat → Nat} {h0 : Hp} {r : Int} {N' : Mm} {x0 : Int} {h : Hp} {N : Mm} {s0 : Int} (hM : MX x0 am h0 h N) (hg : g_X6_whichOf_j38 N s0 = some (r, N')) : ∃ h', f_X6_whichOf_j38 h s0 = some (r, h') ∧ MX x0 am h0 h' N' := by
  unfold g_X6_whichOf_j38 at hg
  unfold f_X6_whichOf_j38
  exact ex_ret hg hM
def g_X6_whichOf (h : Mm) (x1 : Int) : Option (Int × Mm) :=
  Option.bind (mgt 16 h x1) fun v2 =>
  if v2 ≠ 0 then (
    Option.bind (mgt 16 h x1) fun v4 =>
    Option.bind (mgt 14 h x1) fun v7 =>
    Option.bind (mgt 10 h v7) fun v8 =>
    if v4 ≠ v8 then (
      g_X6_whichOf_j38 h 1
    ) else (
      g_X6_whichOf_j38 h 0
    )
  ) else (
    g_X6_whichOf_j38 h 2
  )
theorem m_X6_whichOf {x0 : Int} {am : Nat → Nat} {h0 : Hp} {r : Int} {N' : Mm} {h : Hp} {N : Mm} {x1 : Int} (hM : MX x0 am h0 h N) (hg : g_X6_whichOf N x1 = some (r, N')) : ∃ h', f_X6_whichOf h x0 x1 = some (r, h') ∧ MX x0 am h0 h' N' := by
  unfold g_X6_whichOf at hg
  unfold f_X6_whichOf
  refine ex_bind (mx_ref hM 16 (by decide)) ?_
  obtain ⟨v2, ev2, hg⟩ := bd hg
  refine ex_bind (mx_ald hM (k := 16) (by decide) rfl ev2) ?_
  by_cases cd : v2 ≠ 0
  · replace hg := it_pos cd hg
    refine ex_pos cd ?_
    refine ex_bind (mx_ref hM 16 (by decide)) ?_
    obtain ⟨v4, ev4, hg⟩ := bd hg
    refine ex_bind (mx_ald hM (k := 16) (by decide) rfl ev4) ?_
    refine ex_bind (mx_ref hM 10 (by decide)) ?_
    refine ex_bind (mx_ref hM 14 (by decide)) ?_
    obtain ⟨v7, ev7, hg⟩ := bd hg
    refine ex_bind (mx_ald hM (k := 14) (by decide) rfl ev7) ?_
    obtain ⟨v8, ev8, hg⟩ := bd hg
    refine ex_bind (mx_ald hM (k := 10) (by decide) rfl ev8) ?_
    by_cases cd : v4 ≠ v8
    · replace hg := it_pos cd hg
      refine ex_pos cd ?_
      exact m_X6_whichOf_j38 hM hg
    · replace hg := it_neg cd hg
      refine ex_neg cd ?_
      exact m_X6_whichOf_j38 hM hg
  · replace hg := it_neg cd hg
    refine ex_neg cd ?_
    exact m_X6_whichOf_j38 hM hg
def g_X6_change_j58 (h : Mm) : Option (Int × Mm) :=
  some (0, h)
theorem m_X6_change_j58 {am : Nat → Nat} {h0 : Hp} {r : Int} {N' : Mm} {x0 : Int} {h : Hp} {N : Mm} (hM : MX x0 am h0 h N) (hg : g_X6_change_j58 N  = some (r, N')) : ∃ h', f_X6_change_j58 h  = some (r, h') ∧ MX x0 am h0 h' N' := by
  unfold g_X6_change_j58 at hg
  unfold f_X6_change_j58
  exact ex_ret hg hM
def g_X6_change (h : Mm) (x1 x2 : Int) : Option (Int × Mm) :=
  Option.bind (g_X6_whichOf h x1) fun r1 =>
  Option.bind (mgt 16 r1.2 x1) fun v5 =>
  Option.bind (mst 16 r1.2 x1 (wr (v5 + x2))) fun h6 =>
  Option.bind (g_X6_whichOf h6 x1) fun r7 =>
  if r7.1 = r1.1 then (
    g_X6_change_j58 r7.2
  ) else (
    Option.bind (mgt 14 r7.2 x1) fun v10 =>
    Option.bind (g_X6_leave r7.2 v10 r1.1 x1) fun r11 =>
    Option.bind (mgt 14 r11.2 x1) fun v14 =>
    Option.bind (g_X6_enter r11.2 v14 r7.1 x1) fun r15 =>
    g_X6_change_j58 r15.2
  )
theorem m_X6_change {x0 : Int} {am : Nat → Nat} {h0 : Hp} {r : Int} {N' : Mm} {h : Hp} {N : Mm} {x1 x2 : Int} (hM : MX x0 am h0 h N) (hg : g_X6_change N x1 x2 = some (r, N')) : ∃ h', f_X6_change h x0 x1 x2 = some (r, h') ∧ MX x0 am h0 h' N' := by
  unfold g_X6_change at hg
  unfold f_X6_change
  refine ex_bind (mx_ck hM) ?_
  obtain ⟨r1, er1, hg⟩ := bd hg
  obtain ⟨hr1, qr1, hM⟩ := m_X6_whichOf hM er1
  refine ex_bind qr1 ?_
  refine ex_bind (mx_ref hM 16 (by decide)) ?_
  refine ex_bind (mx_ref hM 16 (by decide)) ?_
  obtain ⟨v5, ev5, hg⟩ := bd hg
  refine ex_bind (mx_ald hM (k := 16) (by decide) rfl ev5) ?_
  obtain ⟨Nh6, eh6, hg⟩ := bd hg
  obtain ⟨h6, qh6, hM⟩ := mx_ast hM (k := 16) (by decide) rfl eh6
  refine ex_bind qh6 ?_
  refine ex_bind (mx_ck hM) ?_
  obtain ⟨r7, er7, hg⟩ := bd hg
  obtain ⟨hr7, qr7, hM⟩ := m_X6_whichOf hM er7
  refine ex_bind qr7 ?_
  by_cases cd : r7.1 = r1.1
  · replace hg := it_pos cd hg
    refine ex_pos cd ?_
    exact m_X6_change_j58 hM hg
  · replace hg := it_neg cd hg
    refine ex_neg cd ?_
    refine ex_bind (mx_ref hM 14 (by decide)) ?_
    obtain ⟨v10, ev10, hg⟩ := bd hg
    refine ex_bind (mx_ald hM (k := 14) (by decide) rfl ev10) ?_
    refine ex_bind (mx_ck hM) ?_
    obtain ⟨r11, er11, hg⟩ := bd hg
    obtain ⟨hr11, qr11, hM⟩ := m_X6_leave hM er11
    refine ex_bind qr11 ?_
    refine ex_bind (mx_ref hM 14 (by decide)) ?_
    obtain ⟨v14, ev14, hg⟩ := bd hg
    refine ex_bind (mx_ald hM (k := 14) (by decide) rfl ev14) ?_
    refine ex_bind (mx_ck hM) ?_
    obtain ⟨r15, er15, hg⟩ := bd hg
    obtain ⟨hr15, qr15, hM⟩ := m_X6_enter hM er15
    refine ex_bind qr15 ?_
    exact m_X6_change_j58 hM hg
def g_X6_unitOf (h : Mm) (x1 x2 : Int) : Option (Int × Mm) :=
  Option.bind (mgt 14 h x1) fun v2 =>
  Option.bind (mgt 15 h x1) fun v4 =>
  Option.bind (mgt 6 h v2) fun v6 =>
  Option.bind (mgt 9 h v2) fun v8 =>
  Option.bind (idv (wr ((wr ((wr (1024 * x1)) + (wr (v4 * v6)))) + (wr (x2 * v8)))) 8) fun v9 =>
  some (v9, h)
theorem m_X6_unitOf {x0 : Int} {am : Nat → Nat} {h0 : Hp} {r : Int} {N' : Mm} {h : Hp} {N : Mm} {x1 x2 : Int} (hM : MX x0 am h0 h N) (hg : g_X6_unitOf N x1 x2 = some (r, N')) : ∃ h', f_X6_unitOf h x0 x1 x2 = some (r, h') ∧ MX x0 am h0 h' N' := by
  unfold g_X6_unitOf at hg
  unfold f_X6_unitOf
  refine ex_bind (mx_ref hM 14 (by decide)) ?_
  obtain ⟨v2, ev2, hg⟩ := bd hg
  refine ex_bind (mx_ald hM (k := 14) (by decide) rfl ev2) ?_
  refine ex_bind (mx_ref hM 15 (by decide)) ?_
  obtain ⟨v4, ev4, hg⟩ := bd hg
  refine ex_bind (mx_ald hM (k := 15) (by decide) rfl ev4) ?_
  refine ex_bind (mx_ref hM 6 (by decide)) ?_
  obtain ⟨v6, ev6, hg⟩ := bd hg
  refine ex_bind (mx_ald hM (k := 6) (by decide) rfl ev6) ?_
  refine ex_bind (mx_ref hM 9 (by decide)) ?_
  obtain ⟨v8, ev8, hg⟩ := bd hg
  refine ex_bind (mx_ald hM (k := 9) (by decide) rfl ev8) ?_
  obtain ⟨v9, ev9, hg⟩ := bd hg
  refine ex_bind ev9 ?_
  exact ex_ret hg hM
def g_X6_giveSlab_s50 (k50 : Mm → Int → Int → Int → Option (Int × Mm)) (h : Mm) (x1 x2 x3 : Int) : Option (Int × Mm) :=
  Option.bind (mgt 7 h x2) fun v14 =>
  if (wr (x1 + (ish 1 v14))) ≤ x3 then (
    Option.bind (mgt 7 h x2) fun v16 =>
    Option.bind (g_X6_giveBlock h x1 v16) fun r17 =>
    Option.bind (mgt 7 r17.2 x2) fun v20 =>
    some (ish 1 v20, r17.2)
  ) else (
    Option.bind (mst 2 h x3 (-1)) fun h22 =>
    k50 h22 x1 x2 (wr (x3 + 1))
  )
def g_X6_giveSlab_b50 : Nat → Mm → Int → Int → Int → Option (Int × Mm)
  | 0, _, _, _, _ => none
  | n + 1, h, x1, x2, x3 => g_X6_giveSlab_s50 (g_X6_giveSlab_b50 n) h x1 x2 x3
theorem m_X6_giveSlab_s50 {am : Nat → Nat} {h0 : Hp} {r : Int} {N' : Mm} {x0 : Int} {kg50 : Mm → Int → Int → Int → Option (Int × Mm)} {kf50 : Hp → Int → Int → Int → Int → Option (Int × Hp)} (hk50 : ∀ {h : Hp} {N : Mm} {x1 x2 x3 : Int}, MX x0 am h0 h N → kg50 N x1 x2 x3 = some (r, N') → ∃ h', kf50 h x0 x1 x2 x3 = some (r, h') ∧ MX x0 am h0 h' N') {h : Hp} {N : Mm} {x1 x2 x3 : Int} (hM : MX x0 am h0 h N) (hg : g_X6_giveSlab_s50 kg50 N x1 x2 x3 = some (r, N')) : ∃ h', f_X6_giveSlab_s50 kf50 h x0 x1 x2 x3 = some (r, h') ∧ MX x0 am h0 h' N' := by
  unfold g_X6_giveSlab_s50 at hg
  unfold f_X6_giveSlab_s50
  refine ex_bind (mx_ref hM 7 (by decide)) ?_
  obtain ⟨v14, ev14, hg⟩ := bd hg
  refine ex_bind (mx_ald hM (k := 7) (by decide) rfl ev14) ?_
  by_cases cd : (wr (x1 + (ish 1 v14))) ≤ x3
  · replace hg := it_pos cd hg
    refine ex_pos cd ?_
    refine ex_bind (mx_ref hM 7 (by decide)) ?_
    obtain ⟨v16, ev16, hg⟩ := bd hg
    refine ex_bind (mx_ald hM (k := 7) (by decide) rfl ev16) ?_
    refine ex_bind (mx_ck hM) ?_
    obtain ⟨r17, er17, hg⟩ := bd hg
    obtain ⟨hr17, qr17, hM⟩ := m_X6_giveBlock hM er17
    refine ex_bind qr17 ?_
    refine ex_bind (mx_ref hM 7 (by decide)) ?_
    obtain ⟨v20, ev20, hg⟩ := bd hg
    refine ex_bind (mx_ald hM (k := 7) (by decide) rfl ev20) ?_
    exact ex_ret hg hM
  · replace hg := it_neg cd hg
    refine ex_neg cd ?_
    refine ex_bind (mx_ref hM 2 (by decide)) ?_
    obtain ⟨Nh22, eh22, hg⟩ := bd hg
    obtain ⟨h22, qh22, hM⟩ := mx_ast hM (k := 2) (by decide) rfl eh22
    refine ex_bind qh22 ?_
    exact hk50 hM hg
theorem m_X6_giveSlab_b50 {am : Nat → Nat} {h0 : Hp} {r : Int} {N' : Mm} {x0 : Int} {n : Nat} {h : Hp} {N : Mm} {x1 x2 x3 : Int} (hM : MX x0 am h0 h N) (hg : g_X6_giveSlab_b50 n N x1 x2 x3 = some (r, N')) : ∃ h', f_X6_giveSlab_b50 n h x0 x1 x2 x3 = some (r, h') ∧ MX x0 am h0 h' N' := by
  induction n generalizing h N x1 x2 x3 with
  | zero => exact absurd hg (fun q => nomatch (show (none : Option (Int × Mm)) = some (r, N') from q))
  | succ n ih => exact m_X6_giveSlab_s50 (fun hM hg => ih hM hg) hM hg
def g_X6_giveSlab_s20 (k20 : Mm → Int → Int → Int → Option (Int × Mm)) (h : Mm) (x1 x2 x3 : Int) : Option (Int × Mm) :=
  Option.bind (mgt 10 h x2) fun v8 =>
  if v8 ≤ x3 then (
    g_X6_giveSlab_b50 fuel h x1 x2 x1
  ) else (
    Option.bind (g_X6_unitOf h x1 x3) fun r10 =>
    Option.bind (mst 18 r10.2 r10.1 0) fun h12 =>
    k20 h12 x1 x2 (wr (x3 + 1))
  )
def g_X6_giveSlab_b20 : Nat → Mm → Int → Int → Int → Option (Int × Mm)
  | 0, _, _, _, _ => none
  | n + 1, h, x1, x2, x3 => g_X6_giveSlab_s20 (g_X6_giveSlab_b20 n) h x1 x2 x3
theorem m_X6_giveSlab_s20 {am : Nat → Nat} {h0 : Hp} {r : Int} {N' : Mm} {x0 : Int} {kg20 : Mm → Int → Int → Int → Option (Int × Mm)} {kf20 : Hp → Int → Int → Int → Int → Option (Int × Hp)} (hk20 : ∀ {h : Hp} {N : Mm} {x1 x2 x3 : Int}, MX x0 am h0 h N → kg20 N x1 x2 x3 = some (r, N') → ∃ h', kf20 h x0 x1 x2 x3 = some (r, h') ∧ MX x0 am h0 h' N') {h : Hp} {N : Mm} {x1 x2 x3 : Int} (hM : MX x0 am h0 h N) (hg : g_X6_giveSlab_s20 kg20 N x1 x2 x3 = some (r, N')) : ∃ h', f_X6_giveSlab_s20 kf20 h x0 x1 x2 x3 = some (r, h') ∧ MX x0 am h0 h' N' := by
  unfold g_X6_giveSlab_s20 at hg
  unfold f_X6_giveSlab_s20
  refine ex_bind (mx_ref hM 10 (by decide)) ?_
  obtain ⟨v8, ev8, hg⟩ := bd hg
  refine ex_bind (mx_ald hM (k := 10) (by decide) rfl ev8) ?_
  by_cases cd : v8 ≤ x3
  · replace hg := it_pos cd hg
    refine ex_pos cd ?_
    exact m_X6_giveSlab_b50 hM hg
  · replace hg := it_neg cd hg
    refine ex_neg cd ?_
    refine ex_bind (mx_ref hM 18 (by decide)) ?_
    refine ex_bind (mx_ck hM) ?_
    obtain ⟨r10, er10, hg⟩ := bd hg
    obtain ⟨hr10, qr10, hM⟩ := m_X6_unitOf hM er10
    refine ex_bind qr10 ?_
    obtain ⟨Nh12, eh12, hg⟩ := bd hg
    obtain ⟨h12, qh12, hM⟩ := mx_ast hM (k := 18) (by decide) rfl eh12
    refine ex_bind qh12 ?_
    exact hk20 hM hg
theorem m_X6_giveSlab_b20 {am : Nat → Nat} {h0 : Hp} {r : Int} {N' : Mm} {x0 : Int} {n : Nat} {h : Hp} {N : Mm} {x1 x2 x3 : Int} (hM : MX x0 am h0 h N) (hg : g_X6_giveSlab_b20 n N x1 x2 x3 = some (r, N')) : ∃ h', f_X6_giveSlab_b20 n h x0 x1 x2 x3 = some (r, h') ∧ MX x0 am h0 h' N' := by
  induction n generalizing h N x1 x2 x3 with
  | zero => exact absurd hg (fun q => nomatch (show (none : Option (Int × Mm)) = some (r, N') from q))
  | succ n ih => exact m_X6_giveSlab_s20 (fun hM hg => ih hM hg) hM hg
def g_X6_giveSlab (h : Mm) (x1 : Int) : Option (Int × Mm) :=
  Option.bind (mgt 14 h x1) fun v2 =>
  Option.bind (g_X6_whichOf h x1) fun r3 =>
  Option.bind (g_X6_leave r3.2 v2 r3.1 x1) fun r5 =>
  g_X6_giveSlab_b20 fuel r5.2 x1 v2 0
theorem m_X6_giveSlab {x0 : Int} {am : Nat → Nat} {h0 : Hp} {r : Int} {N' : Mm} {h : Hp} {N : Mm} {x1 : Int} (hM : MX x0 am h0 h N) (hg : g_X6_giveSlab N x1 = some (r, N')) : ∃ h', f_X6_giveSlab h x0 x1 = some (r, h') ∧ MX x0 am h0 h' N' := by
  unfold g_X6_giveSlab at hg
  unfold f_X6_giveSlab
  refine ex_bind (mx_ref hM 14 (by decide)) ?_
  obtain ⟨v2, ev2, hg⟩ := bd hg
  refine ex_bind (mx_ald hM (k := 14) (by decide) rfl ev2) ?_
  refine ex_bind (mx_ck hM) ?_
  obtain ⟨r3, er3, hg⟩ := bd hg
  obtain ⟨hr3, qr3, hM⟩ := m_X6_whichOf hM er3
  refine ex_bind qr3 ?_
  refine ex_bind (mx_ck hM) ?_
  obtain ⟨r5, er5, hg⟩ := bd hg
  obtain ⟨hr5, qr5, hM⟩ := m_X6_leave hM er5
  refine ex_bind qr5 ?_
  exact m_X6_giveSlab_b20 hM hg
def g_X6_reapAll_s12 (k4 : Mm → Int → Int → Option (Int × Mm)) (k12 : Mm → Int → Int → Option (Int × Mm)) (h : Mm) (x1 x2 : Int) : Option (Int × Mm) :=
  Option.bind (mgt 21 h (wr ((wr (3 * x2)) + 2))) fun v3 =>
  if v3 ≤ 0 then (
    k4 h x1 (wr (x2 + 1))
  ) else (
    Option.bind (mgt 22 h (wr (256 * (wr ((wr (3 * x2)) + 2))))) fun v5 =>
    Option.bind (g_X6_giveSlab h v5) fun r6 =>
    k12 r6.2 (wr (x1 + r6.1)) x2
  )
def g_X6_reapAll_b12 (k4 : Mm → Int → Int → Option (Int × Mm)) : Nat → Mm → Int → Int → Option (Int × Mm)
  | 0, _, _, _ => none
  | n + 1, h, x1, x2 => g_X6_reapAll_s12 k4 (g_X6_reapAll_b12 k4 n) h x1 x2
theorem m_X6_reapAll_s12 {am : Nat → Nat} {h0 : Hp} {r : Int} {N' : Mm} {x0 : Int} {kg4 : Mm → Int → Int → Option (Int × Mm)} {kf4 : Hp → Int → Int → Int → Option (Int × Hp)} (hk4 : ∀ {h : Hp} {N : Mm} {x1 x2 : Int}, MX x0 am h0 h N → kg4 N x1 x2 = some (r, N') → ∃ h', kf4 h x0 x1 x2 = some (r, h') ∧ MX x0 am h0 h' N') {kg12 : Mm → Int → Int → Option (Int × Mm)} {kf12 : Hp → Int → Int → Int → Option (Int × Hp)} (hk12 : ∀ {h : Hp} {N : Mm} {x1 x2 : Int}, MX x0 am h0 h N → kg12 N x1 x2 = some (r, N') → ∃ h', kf12 h x0 x1 x2 = some (r, h') ∧ MX x0 am h0 h' N') {h : Hp} {N : Mm} {x1 x2 : Int} (hM : MX x0 am h0 h N) (hg : g_X6_reapAll_s12 kg4 kg12 N x1 x2 = some (r, N')) : ∃ h', f_X6_reapAll_s12 kf4 kf12 h x0 x1 x2 = some (r, h') ∧ MX x0 am h0 h' N' := by
  unfold g_X6_reapAll_s12 at hg
  unfold f_X6_reapAll_s12
  refine ex_bind (mx_ref hM 21 (by decide)) ?_
  obtain ⟨v3, ev3, hg⟩ := bd hg
  refine ex_bind (mx_ald hM (k := 21) (by decide) rfl ev3) ?_
  by_cases cd : v3 ≤ 0
  · replace hg := it_pos cd hg
    refine ex_pos cd ?_
    exact hk4 hM hg
  · replace hg := it_neg cd hg
    refine ex_neg cd ?_
    refine ex_bind (mx_ref hM 22 (by decide)) ?_
    obtain ⟨v5, ev5, hg⟩ := bd hg
    refine ex_bind (mx_ald hM (k := 22) (by decide) rfl ev5) ?_
    refine ex_bind (mx_ck hM) ?_
    obtain ⟨r6, er6, hg⟩ := bd hg
    obtain ⟨hr6, qr6, hM⟩ := m_X6_giveSlab hM er6
    refine ex_bind qr6 ?_
    exact hk12 hM hg
theorem m_X6_reapAll_b12 {am : Nat → Nat} {h0 : Hp} {r : Int} {N' : Mm} {x0 : Int} {kg4 : Mm → Int → Int → Option (Int × Mm)} {kf4 : Hp → Int → Int → Int → Option (Int × Hp)} (hk4 : ∀ {h : Hp} {N : Mm} {x1 x2 : Int}, MX x0 am h0 h N → kg4 N x1 x2 = some (r, N') → ∃ h', kf4 h x0 x1 x2 = some (r, h') ∧ MX x0 am h0 h' N') {n : Nat} {h : Hp} {N : Mm} {x1 x2 : Int} (hM : MX x0 am h0 h N) (hg : g_X6_reapAll_b12 kg4 n N x1 x2 = some (r, N')) : ∃ h', f_X6_reapAll_b12 kf4 n h x0 x1 x2 = some (r, h') ∧ MX x0 am h0 h' N' := by
  induction n generalizing h N x1 x2 with
  | zero => exact absurd hg (fun q => nomatch (show (none : Option (Int × Mm)) = some (r, N') from q))
  | succ n ih => exact m_X6_reapAll_s12 hk4 (fun hM hg => ih hM hg) hM hg
def g_X6_reapAll_s4 (k4 : Mm → Int → Int → Option (Int × Mm)) (h : Mm) (x1 x2 : Int) : Option (Int × Mm) :=
  Option.bind (some (h 3 0)) fun v1 =>
  if v1 ≤ x2 then (
    some (x1, h)
  ) else (
    g_X6_reapAll_b12 k4 fuel h x1 x2
  )
def g_X6_reapAll_b4 : Nat → Mm → Int → Int → Option (Int × Mm)
  | 0, _, _, _ => none
  | n + 1, h, x1, x2 => g_X6_reapAll_s4 (g_X6_reapAll_b4 n) h x1 x2
theorem m_X6_reapAll_s4 {am : Nat → Nat} {h0 : Hp} {r : Int} {N' : Mm} {x0 : Int} {kg4 : Mm → Int → Int → Option (Int × Mm)} {kf4 : Hp → Int → Int → Int → Option (Int × Hp)} (hk4 : ∀ {h : Hp} {N : Mm} {x1 x2 : Int}, MX x0 am h0 h N → kg4 N x1 x2 = some (r, N') → ∃ h', kf4 h x0 x1 x2 = some (r, h') ∧ MX x0 am h0 h' N') {h : Hp} {N : Mm} {x1 x2 : Int} (hM : MX x0 am h0 h N) (hg : g_X6_reapAll_s4 kg4 N x1 x2 = some (r, N')) : ∃ h', f_X6_reapAll_s4 kf4 h x0 x1 x2 = some (r, h') ∧ MX x0 am h0 h' N' := by
  unfold g_X6_reapAll_s4 at hg
  unfold f_X6_reapAll_s4
  obtain ⟨v1, ev1, hg⟩ := bd hg
  replace ev1 := Option.some.inj ev1
  refine ex_bind (v := v1) (by rw [← ev1]; exact mx_f3 hM) ?_
  by_cases cd : v1 ≤ x2
  · replace hg := it_pos cd hg
    refine ex_pos cd ?_
    exact ex_ret hg hM
  · replace hg := it_neg cd hg
    refine ex_neg cd ?_
    exact m_X6_reapAll_b12 hk4 hM hg
theorem m_X6_reapAll_b4 {am : Nat → Nat} {h0 : Hp} {r : Int} {N' : Mm} {x0 : Int} {n : Nat} {h : Hp} {N : Mm} {x1 x2 : Int} (hM : MX x0 am h0 h N) (hg : g_X6_reapAll_b4 n N x1 x2 = some (r, N')) : ∃ h', f_X6_reapAll_b4 n h x0 x1 x2 = some (r, h') ∧ MX x0 am h0 h' N' := by
  induction n generalizing h N x1 x2 with
  | zero => exact absurd hg (fun q => nomatch (show (none : Option (Int × Mm)) = some (r, N') from q))
  | succ n ih => exact m_X6_reapAll_s4 (fun hM hg => ih hM hg) hM hg
def g_X6_reapAll (h : Mm) : Option (Int × Mm) :=
  g_X6_reapAll_b4 fuel h 0 0
theorem m_X6_reapAll {x0 : Int} {am : Nat → Nat} {h0 : Hp} {r : Int} {N' : Mm} {h : Hp} {N : Mm} (hM : MX x0 am h0 h N) (hg : g_X6_reapAll N = some (r, N')) : ∃ h', f_X6_reapAll h x0 = some (r, h') ∧ MX x0 am h0 h' N' := by
  unfold g_X6_reapAll at hg
  unfold f_X6_reapAll
  exact m_X6_reapAll_b4 hM hg
def g_X6_makeSlab_j210 (k141 : Mm → Int → Int → Int → Option (Int × Mm)) (h : Mm) (x1 x2 x3 s1 s2 : Int) : Option (Int × Mm) :=
  Option.bind (mst 19 h s1 s2) fun h52 =>
  k141 h52 x1 x2 (wr (x3 + 1))
theorem m_X6_makeSlab_j210 {am : Nat → Nat} {h0 : Hp} {r : Int} {N' : Mm} {x0 : Int} {kg141 : Mm → Int → Int → Int → Option (Int × Mm)} {kf141 : Hp → Int → Int → Int → Int → Option (Int × Hp)} (hk141 : ∀ {h : Hp} {N : Mm} {x1 x2 x3 : Int}, MX x0 am h0 h N → kg141 N x1 x2 x3 = some (r, N') → ∃ h', kf141 h x0 x1 x2 x3 = some (r, h') ∧ MX x0 am h0 h' N') {h : Hp} {N : Mm} {x1 x2 x3 s1 s2 : Int} (hM : MX x0 am h0 h N) (hg : g_X6_makeSlab_j210 kg141 N x1 x2 x3 s1 s2 = some (r, N')) : ∃ h', f_X6_makeSlab_j210 kf141 h x0 x1 x2 x3 (am 19 : Int) s1 s2 = some (r, h') ∧ MX x0 am h0 h' N' := by
  unfold g_X6_makeSlab_j210 at hg
  unfold f_X6_makeSlab_j210
  obtain ⟨Nh52, eh52, hg⟩ := bd hg
  obtain ⟨h52, qh52, hM⟩ := mx_ast hM (k := 19) (by decide) rfl eh52
  refine ex_bind qh52 ?_
  exact hk141 hM hg
def g_X6_makeSlab_s141 (k141 : Mm → Int → Int → Int → Option (Int × Mm)) (h : Mm) (x1 x2 x3 : Int) : Option (Int × Mm) :=
  Option.bind (mgt 10 h x1) fun v36 =>
  if v36 ≤ x3 then (
    Option.bind (g_X6_enter h x1 2 x2) fun r37 =>
    rtM 1 r37.2
  ) else (
    Option.bind (g_X6_unitOf h x2 x3) fun r39 =>
    Option.bind (mst 18 r39.2 r39.1 1) fun h42 =>
    Option.bind (mgt 8 h42 x1) fun v45 =>
    Option.bind (mst 20 h42 r39.1 v45) fun h46 =>
    Option.bind (mgt 10 h46 x1) fun v49 =>
    if v49 ≤ (wr (x3 + 1)) then (
      g_X6_makeSlab_j210 k141 h46 x1 x2 x3 r39.1 (-1)
    ) else (
      Option.bind (g_X6_unitOf h46 x2 (wr (x3 + 1))) fun r50 =>
      g_X6_makeSlab_j210 k141 r50.2 x1 x2 x3 r39.1 r50.1
    )
  )
def g_X6_makeSlab_b141 : Nat → Mm → Int → Int → Int → Option (Int × Mm)
  | 0, _, _, _, _ => none
  | n + 1, h, x1, x2, x3 => g_X6_makeSlab_s141 (g_X6_makeSlab_b141 n) h x1 x2 x3
theorem m_X6_makeSlab_s141 {am : Nat → Nat} {h0 : Hp} {r : Int} {N' : Mm} {x0 : Int} {kg141 : Mm → Int → Int → Int → Option (Int × Mm)} {kf141 : Hp → Int → Int → Int → Int → Option (Int × Hp)} (hk141 : ∀ {h : Hp} {N : Mm} {x1 x2 x3 : Int}, MX x0 am h0 h N → kg141 N x1 x2 x3 = some (r, N') → ∃ h', kf141 h x0 x1 x2 x3 = some (r, h') ∧ MX x0 am h0 h' N') {h : Hp} {N : Mm} {x1 x2 x3 : Int} (hM : MX x0 am h0 h N) (hg : g_X6_makeSlab_s141 kg141 N x1 x2 x3 = some (r, N')) : ∃ h', f_X6_makeSlab_s141 kf141 h x0 x1 x2 x3 = some (r, h') ∧ MX x0 am h0 h' N' := by
  unfold g_X6_makeSlab_s141 at hg
  unfold f_X6_makeSlab_s141
  refine ex_bind (mx_ref hM 10 (by decide)) ?_
  obtain ⟨v36, ev36, hg⟩ := bd hg
  refine ex_bind (mx_ald hM (k := 10) (by decide) rfl ev36) ?_
  by_cases cd : v36 ≤ x3
  · replace hg := it_pos cd hg
    refine ex_pos cd ?_
    refine ex_bind (mx_ck hM) ?_
    obtain ⟨r37, er37, hg⟩ := bd hg
    obtain ⟨hr37, qr37, hM⟩ := m_X6_enter hM er37
    refine ex_bind qr37 ?_
    exact ex_rtB (P := MX x0 am h0) hg hM
  · replace hg := it_neg cd hg
    refine ex_neg cd ?_
    refine ex_bind (mx_ck hM) ?_
    obtain ⟨r39, er39, hg⟩ := bd hg
    obtain ⟨hr39, qr39, hM⟩ := m_X6_unitOf hM er39
    refine ex_bind qr39 ?_
    refine ex_bind (mx_ref hM 18 (by decide)) ?_
    obtain ⟨Nh42, eh42, hg⟩ := bd hg
    obtain ⟨h42, qh42, hM⟩ := mx_ast hM (k := 18) (by decide) rfl eh42
    refine ex_bind qh42 ?_
    refine ex_bind (mx_ref hM 20 (by decide)) ?_
    refine ex_bind (mx_ref hM 8 (by decide)) ?_
    obtain ⟨v45, ev45, hg⟩ := bd hg
    refine ex_bind (mx_ald hM (k := 8) (by decide) rfl ev45) ?_
    obtain ⟨Nh46, eh46, hg⟩ := bd hg
    obtain ⟨h46, qh46, hM⟩ := mx_ast hM (k := 20) (by decide) rfl eh46
    refine ex_bind qh46 ?_
    refine ex_bind (mx_ref hM 19 (by decide)) ?_
    refine ex_bind (mx_ref hM 10 (by decide)) ?_
    obtain ⟨v49, ev49, hg⟩ := bd hg
    refine ex_bind (mx_ald hM (k := 10) (by decide) rfl ev49) ?_
    by_cases cd : v49 ≤ (wr (x3 + 1))
    · replace hg := it_pos cd hg
      refine ex_pos cd ?_
      exact m_X6_makeSlab_j210 hk141 hM hg
    · replace hg := it_neg cd hg
      refine ex_neg cd ?_
      refine ex_bind (mx_ck hM) ?_
      obtain ⟨r50, er50, hg⟩ := bd hg
      obtain ⟨hr50, qr50, hM⟩ := m_X6_unitOf hM er50
      refine ex_bind qr50 ?_
      exact m_X6_makeSlab_j210 hk141 hM hg
theorem m_X6_makeSlab_b141 {am : Nat → Nat} {h0 : Hp} {r : Int} {N' : Mm} {x0 : Int} {n : Nat} {h : Hp} {N : Mm} {x1 x2 x3 : Int} (hM : MX x0 am h0 h N) (hg : g_X6_makeSlab_b141 n N x1 x2 x3 = some (r, N')) : ∃ h', f_X6_makeSlab_b141 n h x0 x1 x2 x3 = some (r, h') ∧ MX x0 am h0 h' N' := by
  induction n generalizing h N x1 x2 x3 with
  | zero => exact absurd hg (fun q => nomatch (show (none : Option (Int × Mm)) = some (r, N') from q))
  | succ n ih => exact m_X6_makeSlab_s141 (fun hM hg => ih hM hg) hM hg
def g_X6_makeSlab_j119 (h : Mm) (x1 x2 s1 s2 : Int) : Option (Int × Mm) :=
  Option.bind (mst 12 h s1 s2) fun h28 =>
  Option.bind (mst 16 h28 x2 0) fun h30 =>
  Option.bind (g_X6_unitOf h30 x2 0) fun r32 =>
  Option.bind (mst 17 r32.2 x2 r32.1) fun h34 =>
  g_X6_makeSlab_b141 fuel h34 x1 x2 0
theorem m_X6_makeSlab_j119 {am : Nat → Nat} {h0 : Hp} {r : Int} {N' : Mm} {x0 : Int} {h : Hp} {N : Mm} {x1 x2 s1 s2 : Int} (hM : MX x0 am h0 h N) (hg : g_X6_makeSlab_j119 N x1 x2 s1 s2 = some (r, N')) : ∃ h', f_X6_makeSlab_j119 h x0 x1 x2 (am 12 : Int) s1 s2 = some (r, h') ∧ MX x0 am h0 h' N' := by
  unfold g_X6_makeSlab_j119 at hg
  unfold f_X6_makeSlab_j119
  obtain ⟨Nh28, eh28, hg⟩ := bd hg
  obtain ⟨h28, qh28, hM⟩ := mx_ast hM (k := 12) (by decide) rfl eh28
  refine ex_bind qh28 ?_
  refine ex_bind (mx_ref hM 16 (by decide)) ?_
  obtain ⟨Nh30, eh30, hg⟩ := bd hg
  obtain ⟨h30, qh30, hM⟩ := mx_ast hM (k := 16) (by decide) rfl eh30
  refine ex_bind qh30 ?_
  refine ex_bind (mx_ref hM 17 (by decide)) ?_
  refine ex_bind (mx_ck hM) ?_
  obtain ⟨r32, er32, hg⟩ := bd hg
  obtain ⟨hr32, qr32, hM⟩ := m_X6_unitOf hM er32
  refine ex_bind qr32 ?_
  obtain ⟨Nh34, eh34, hg⟩ := bd hg
  obtain ⟨h34, qh34, hM⟩ := mx_ast hM (k := 17) (by decide) rfl eh34
  refine ex_bind qh34 ?_
  exact m_X6_makeSlab_b141 hM hg
def g_X6_makeSlab_s39 (k39 : Mm → Int → Int → Int → Option (Int × Mm)) (h : Mm) (x1 x2 x3 : Int) : Option (Int × Mm) :=
  Option.bind (mgt 7 h x1) fun v12 =>
  if (wr (x2 + (ish 1 v12))) ≤ x3 then (
    Option.bind (mst 14 h x2 x1) fun h14 =>
    Option.bind (mgt 12 h14 x1) fun v17 =>
    Option.bind (mst 15 h14 x2 v17) fun h18 =>
    Option.bind (mgt 12 h18 x1) fun v21 =>
    Option.bind (mgt 11 h18 x1) fun v23 =>
    if (wr (v21 + 1)) ≠ v23 then (
      Option.bind (mgt 12 h18 x1) fun v25 =>
      g_X6_makeSlab_j119 h18 x1 x2 x1 (wr (v25 + 1))
    ) else (
      g_X6_makeSlab_j119 h18 x1 x2 x1 0
    )
  ) else (
    Option.bind (mst 2 h x3 x2) fun h27 =>
    k39 h27 x1 x2 (wr (x3 + 1))
  )
def g_X6_makeSlab_b39 : Nat → Mm → Int → Int → Int → Option (Int × Mm)
  | 0, _, _, _, _ => none
  | n + 1, h, x1, x2, x3 => g_X6_makeSlab_s39 (g_X6_makeSlab_b39 n) h x1 x2 x3
theorem m_X6_makeSlab_s39 {am : Nat → Nat} {h0 : Hp} {r : Int} {N' : Mm} {x0 : Int} {kg39 : Mm → Int → Int → Int → Option (Int × Mm)} {kf39 : Hp → Int → Int → Int → Int → Option (Int × Hp)} (hk39 : ∀ {h : Hp} {N : Mm} {x1 x2 x3 : Int}, MX x0 am h0 h N → kg39 N x1 x2 x3 = some (r, N') → ∃ h', kf39 h x0 x1 x2 x3 = some (r, h') ∧ MX x0 am h0 h' N') {h : Hp} {N : Mm} {x1 x2 x3 : Int} (hM : MX x0 am h0 h N) (hg : g_X6_makeSlab_s39 kg39 N x1 x2 x3 = some (r, N')) : ∃ h', f_X6_makeSlab_s39 kf39 h x0 x1 x2 x3 = some (r, h') ∧ MX x0 am h0 h' N' := by
  unfold g_X6_makeSlab_s39 at hg
  unfold f_X6_makeSlab_s39
  refine ex_bind (mx_ref hM 7 (by decide)) ?_
  obtain ⟨v12, ev12, hg⟩ := bd hg
  refine ex_bind (mx_ald hM (k := 7) (by decide) rfl ev12) ?_
  by_cases cd : (wr (x2 + (ish 1 v12))) ≤ x3
  · replace hg := it_pos cd hg
    refine ex_pos cd ?_
    refine ex_bind (mx_ref hM 14 (by decide)) ?_
    obtain ⟨Nh14, eh14, hg⟩ := bd hg
    obtain ⟨h14, qh14, hM⟩ := mx_ast hM (k := 14) (by decide) rfl eh14
    refine ex_bind qh14 ?_
    refine ex_bind (mx_ref hM 15 (by decide)) ?_
    refine ex_bind (mx_ref hM 12 (by decide)) ?_
    obtain ⟨v17, ev17, hg⟩ := bd hg
    refine ex_bind (mx_ald hM (k := 12) (by decide) rfl ev17) ?_
    obtain ⟨Nh18, eh18, hg⟩ := bd hg
    obtain ⟨h18, qh18, hM⟩ := mx_ast hM (k := 15) (by decide) rfl eh18
    refine ex_bind qh18 ?_
    refine ex_bind (mx_ref hM 12 (by decide)) ?_
    refine ex_bind (mx_ref hM 12 (by decide)) ?_
    obtain ⟨v21, ev21, hg⟩ := bd hg
    refine ex_bind (mx_ald hM (k := 12) (by decide) rfl ev21) ?_
    refine ex_bind (mx_ref hM 11 (by decide)) ?_
    obtain ⟨v23, ev23, hg⟩ := bd hg
    refine ex_bind (mx_ald hM (k := 11) (by decide) rfl ev23) ?_
    by_cases cd : (wr (v21 + 1)) ≠ v23
    · replace hg := it_pos cd hg
      refine ex_pos cd ?_
      refine ex_bind (mx_ref hM 12 (by decide)) ?_
      obtain ⟨v25, ev25, hg⟩ := bd hg
      refine ex_bind (mx_ald hM (k := 12) (by decide) rfl ev25) ?_
      exact m_X6_makeSlab_j119 hM hg
    · replace hg := it_neg cd hg
      refine ex_neg cd ?_
      exact m_X6_makeSlab_j119 hM hg
  · replace hg := it_neg cd hg
    refine ex_neg cd ?_
    refine ex_bind (mx_ref hM 2 (by decide)) ?_
    obtain ⟨Nh27, eh27, hg⟩ := bd hg
    obtain ⟨h27, qh27, hM⟩ := mx_ast hM (k := 2) (by decide) rfl eh27
    refine ex_bind qh27 ?_
    exact hk39 hM hg
theorem m_X6_makeSlab_b39 {am : Nat → Nat} {h0 : Hp} {r : Int} {N' : Mm} {x0 : Int} {n : Nat} {h : Hp} {N : Mm} {x1 x2 x3 : Int} (hM : MX x0 am h0 h N) (hg : g_X6_makeSlab_b39 n N x1 x2 x3 = some (r, N')) : ∃ h', f_X6_makeSlab_b39 n h x0 x1 x2 x3 = some (r, h') ∧ MX x0 am h0 h' N' := by
  induction n generalizing h N x1 x2 x3 with
  | zero => exact absurd hg (fun q => nomatch (show (none : Option (Int × Mm)) = some (r, N') from q))
  | succ n ih => exact m_X6_makeSlab_s39 (fun hM hg => ih hM hg) hM hg
def g_X6_makeSlab_j31 (h : Mm) (x1 x2 : Int) : Option (Int × Mm) :=
  if 0 ≤ x2 then (
    g_X6_makeSlab_b39 fuel h x1 x2 x2
  ) else (
    rtM 0 h
  )
theorem m_X6_makeSlab_j31 {am : Nat → Nat} {h0 : Hp} {r : Int} {N' : Mm} {x0 : Int} {h : Hp} {N : Mm} {x1 x2 : Int} (hM : MX x0 am h0 h N) (hg : g_X6_makeSlab_j31 N x1 x2 = some (r, N')) : ∃ h', f_X6_makeSlab_j31 h x0 x1 x2 = some (r, h') ∧ MX x0 am h0 h' N' := by
  unfold g_X6_makeSlab_j31 at hg
  unfold f_X6_makeSlab_j31
  by_cases cd : 0 ≤ x2
  · replace hg := it_pos cd hg
    refine ex_pos cd ?_
    exact m_X6_makeSlab_b39 hM hg
  · replace hg := it_neg cd hg
    refine ex_neg cd ?_
    exact ex_rtB (P := MX x0 am h0) hg hM
def g_X6_makeSlab (h : Mm) (x1 : Int) : Option (Int × Mm) :=
  Option.bind (mgt 7 h x1) fun v2 =>
  Option.bind (g_X6_takeBlock h v2) fun r3 =>
  if 0 ≤ r3.1 then (
    g_X6_makeSlab_j31 r3.2 x1 r3.1
  ) else (
    Option.bind (g_X6_reapAll r3.2) fun r5 =>
    Option.bind (mgt 7 r5.2 x1) fun v8 =>
    Option.bind (g_X6_takeBlock r5.2 v8) fun r9 =>
    g_X6_makeSlab_j31 r9.2 x1 r9.1
  )
theorem m_X6_makeSlab {x0 : Int} {am : Nat → Nat} {h0 : Hp} {r : Int} {N' : Mm} {h : Hp} {N : Mm} {x1 : Int} (hM : MX x0 am h0 h N) (hg : g_X6_makeSlab N x1 = some (r, N')) : ∃ h', f_X6_makeSlab h x0 x1 = some (r, h') ∧ MX x0 am h0 h' N' := by
  unfold g_X6_makeSlab at hg
  unfold f_X6_makeSlab
  refine ex_bind (mx_ref hM 7 (by decide)) ?_
  obtain ⟨v2, ev2, hg⟩ := bd hg
  refine ex_bind (mx_ald hM (k := 7) (by decide) rfl ev2) ?_
  refine ex_bind (mx_ck hM) ?_
  obtain ⟨r3, er3, hg⟩ := bd hg
  obtain ⟨hr3, qr3, hM⟩ := m_X6_takeBlock hM er3
  refine ex_bind qr3 ?_
  by_cases cd : 0 ≤ r3.1
  · replace hg := it_pos cd hg
    refine ex_pos cd ?_
    exact m_X6_makeSlab_j31 hM hg
  · replace hg := it_neg cd hg
    refine ex_neg cd ?_
    refine ex_bind (mx_ck hM) ?_
    obtain ⟨r5, er5, hg⟩ := bd hg
    obtain ⟨hr5, qr5, hM⟩ := m_X6_reapAll hM er5
    refine ex_bind qr5 ?_
    refine ex_bind (mx_ref hM 7 (by decide)) ?_
    obtain ⟨v8, ev8, hg⟩ := bd hg
    refine ex_bind (mx_ald hM (k := 7) (by decide) rfl ev8) ?_
    refine ex_bind (mx_ck hM) ?_
    obtain ⟨r9, er9, hg⟩ := bd hg
    obtain ⟨hr9, qr9, hM⟩ := m_X6_takeBlock hM er9
    refine ex_bind qr9 ?_
    exact m_X6_makeSlab_j31 hM hg
def g_X6_fromSlabs_j62 (h : Mm) (s0 : Int) : Option (Int × Mm) :=
  Option.bind (mgt 22 h (wr (256 * s0))) fun v10 =>
  Option.bind (mgt 17 h v10) fun v12 =>
  Option.bind (mgt 19 h v12) fun v15 =>
  Option.bind (mst 17 h v10 v15) fun h16 =>
  Option.bind (g_X6_change h16 v10 1) fun r17 =>
  some (v12, r17.2)
theorem m_X6_fromSlabs_j62 {am : Nat → Nat} {h0 : Hp} {r : Int} {N' : Mm} {x0 : Int} {h : Hp} {N : Mm} {s0 : Int} (hM : MX x0 am h0 h N) (hg : g_X6_fromSlabs_j62 N s0 = some (r, N')) : ∃ h', f_X6_fromSlabs_j62 h x0 s0 = some (r, h') ∧ MX x0 am h0 h' N' := by
  unfold g_X6_fromSlabs_j62 at hg
  unfold f_X6_fromSlabs_j62
  refine ex_bind (mx_ref hM 22 (by decide)) ?_
  obtain ⟨v10, ev10, hg⟩ := bd hg
  refine ex_bind (mx_ald hM (k := 22) (by decide) rfl ev10) ?_
  refine ex_bind (mx_ref hM 17 (by decide)) ?_
  obtain ⟨v12, ev12, hg⟩ := bd hg
  refine ex_bind (mx_ald hM (k := 17) (by decide) rfl ev12) ?_
  refine ex_bind (mx_ref hM 17 (by decide)) ?_
  refine ex_bind (mx_ref hM 19 (by decide)) ?_
  obtain ⟨v15, ev15, hg⟩ := bd hg
  refine ex_bind (mx_ald hM (k := 19) (by decide) rfl ev15) ?_
  obtain ⟨Nh16, eh16, hg⟩ := bd hg
  obtain ⟨h16, qh16, hM⟩ := mx_ast hM (k := 17) (by decide) rfl eh16
  refine ex_bind qh16 ?_
  refine ex_bind (mx_ck hM) ?_
  obtain ⟨r17, er17, hg⟩ := bd hg
  obtain ⟨hr17, qr17, hM⟩ := m_X6_change hM er17
  refine ex_bind qr17 ?_
  exact ex_ret hg hM
def g_X6_fromSlabs_j36 (h : Mm) (x1 : Int) : Option (Int × Mm) :=
  Option.bind (mgt 21 h (wr ((wr (3 * x1)) + 1))) fun v8 =>
  if v8 ≤ 0 then (
    g_X6_fromSlabs_j62 h (wr ((wr (3 * x1)) + 2))
  ) else (
    g_X6_fromSlabs_j62 h (wr ((wr (3 * x1)) + 1))
  )
theorem m_X6_fromSlabs_j36 {am : Nat → Nat} {h0 : Hp} {r : Int} {N' : Mm} {x0 : Int} {h : Hp} {N : Mm} {x1 : Int} (hM : MX x0 am h0 h N) (hg : g_X6_fromSlabs_j36 N x1 = some (r, N')) : ∃ h', f_X6_fromSlabs_j36 h x0 x1 = some (r, h') ∧ MX x0 am h0 h' N' := by
  unfold g_X6_fromSlabs_j36 at hg
  unfold f_X6_fromSlabs_j36
  refine ex_bind (mx_ref hM 21 (by decide)) ?_
  obtain ⟨v8, ev8, hg⟩ := bd hg
  refine ex_bind (mx_ald hM (k := 21) (by decide) rfl ev8) ?_
  by_cases cd : v8 ≤ 0
  · replace hg := it_pos cd hg
    refine ex_pos cd ?_
    exact m_X6_fromSlabs_j62 hM hg
  · replace hg := it_neg cd hg
    refine ex_neg cd ?_
    exact m_X6_fromSlabs_j62 hM hg
def g_X6_fromSlabs (h : Mm) (x1 : Int) : Option (Int × Mm) :=
  Option.bind (mgt 21 h (wr ((wr (3 * x1)) + 1))) fun v2 =>
  if v2 ≠ 0 then (
    g_X6_fromSlabs_j36 h x1
  ) else (
    Option.bind (mgt 21 h (wr ((wr (3 * x1)) + 2))) fun v4 =>
    if v4 ≠ 0 then (
      g_X6_fromSlabs_j36 h x1
    ) else (
      Option.bind (g_X6_makeSlab h x1) fun r5 =>
      if r5.1 ≠ 0 then (
        g_X6_fromSlabs_j36 r5.2 x1
      ) else (
        some ((-1), r5.2)
      )
    )
  )
theorem m_X6_fromSlabs {x0 : Int} {am : Nat → Nat} {h0 : Hp} {r : Int} {N' : Mm} {h : Hp} {N : Mm} {x1 : Int} (hM : MX x0 am h0 h N) (hg : g_X6_fromSlabs N x1 = some (r, N')) : ∃ h', f_X6_fromSlabs h x0 x1 = some (r, h') ∧ MX x0 am h0 h' N' := by
  unfold g_X6_fromSlabs at hg
  unfold f_X6_fromSlabs
  refine ex_bind (mx_ref hM 21 (by decide)) ?_
  obtain ⟨v2, ev2, hg⟩ := bd hg
  refine ex_bind (mx_ald hM (k := 21) (by decide) rfl ev2) ?_
  by_cases cd : v2 ≠ 0
  · replace hg := it_pos cd hg
    refine ex_pos cd ?_
    exact m_X6_fromSlabs_j36 hM hg
  · replace hg := it_neg cd hg
    refine ex_neg cd ?_
    refine ex_bind (mx_ref hM 21 (by decide)) ?_
    obtain ⟨v4, ev4, hg⟩ := bd hg
    refine ex_bind (mx_ald hM (k := 21) (by decide) rfl ev4) ?_
    by_cases cd : v4 ≠ 0
    · replace hg := it_pos cd hg
      refine ex_pos cd ?_
      exact m_X6_fromSlabs_j36 hM hg
    · replace hg := it_neg cd hg
      refine ex_neg cd ?_
      refine ex_bind (mx_ck hM) ?_
      obtain ⟨r5, er5, hg⟩ := bd hg
      obtain ⟨hr5, qr5, hM⟩ := m_X6_makeSlab hM er5
      refine ex_bind qr5 ?_
      by_cases cd : r5.1 ≠ 0
      · replace hg := it_pos cd hg
        refine ex_pos cd ?_
        exact m_X6_fromSlabs_j36 hM hg
      · replace hg := it_neg cd hg
        refine ex_neg cd ?_
        exact ex_ret hg hM
def g_X6_toSlab (h : Mm) (x1 : Int) : Option (Int × Mm) :=
  Option.bind (idv x1 128) fun v2 =>
  Option.bind (mgt 2 h v2) fun v3 =>
  Option.bind (mst 18 h x1 1) fun h5 =>
  Option.bind (mgt 17 h5 v3) fun v8 =>
  Option.bind (mst 19 h5 x1 v8) fun h9 =>
  Option.bind (mst 17 h9 v3 x1) fun h11 =>
  Option.bind (g_X6_change h11 v3 (-1)) fun r12 =>
  some (0, r12.2)
theorem m_X6_toSlab {x0 : Int} {am : Nat → Nat} {h0 : Hp} {r : Int} {N' : Mm} {h : Hp} {N : Mm} {x1 : Int} (hM : MX x0 am h0 h N) (hg : g_X6_toSlab N x1 = some (r, N')) : ∃ h', f_X6_toSlab h x0 x1 = some (r, h') ∧ MX x0 am h0 h' N' := by
  unfold g_X6_toSlab at hg
  unfold f_X6_toSlab
  refine ex_bind (mx_ref hM 2 (by decide)) ?_
  obtain ⟨v2, ev2, hg⟩ := bd hg
  refine ex_bind ev2 ?_
  obtain ⟨v3, ev3, hg⟩ := bd hg
  refine ex_bind (mx_ald hM (k := 2) (by decide) rfl ev3) ?_
  refine ex_bind (mx_ref hM 18 (by decide)) ?_
  obtain ⟨Nh5, eh5, hg⟩ := bd hg
  obtain ⟨h5, qh5, hM⟩ := mx_ast hM (k := 18) (by decide) rfl eh5
  refine ex_bind qh5 ?_
  refine ex_bind (mx_ref hM 19 (by decide)) ?_
  refine ex_bind (mx_ref hM 17 (by decide)) ?_
  obtain ⟨v8, ev8, hg⟩ := bd hg
  refine ex_bind (mx_ald hM (k := 17) (by decide) rfl ev8) ?_
  obtain ⟨Nh9, eh9, hg⟩ := bd hg
  obtain ⟨h9, qh9, hM⟩ := mx_ast hM (k := 19) (by decide) rfl eh9
  refine ex_bind qh9 ?_
  refine ex_bind (mx_ref hM 17 (by decide)) ?_
  obtain ⟨Nh11, eh11, hg⟩ := bd hg
  obtain ⟨h11, qh11, hM⟩ := mx_ast hM (k := 17) (by decide) rfl eh11
  refine ex_bind qh11 ?_
  refine ex_bind (mx_ck hM) ?_
  obtain ⟨r12, er12, hg⟩ := bd hg
  obtain ⟨hr12, qr12, hM⟩ := m_X6_change hM er12
  refine ex_bind qr12 ?_
  exact ex_ret hg hM
def g_X6_cache_j113 (h : Mm) (x1 x2 x3 x4 x6 x7 s1 : Int) : Option (Int × Mm) :=
  Option.bind (g_X6_refused h s1) fun r5 =>
  if r5.1 = 0 then (
    Option.bind (some (r5.2 3 0)) fun v7 =>
    if v7 ≠ 8 then (
      Option.bind (some (r5.2 3 0)) fun v9 =>
      Option.bind (mst 5 r5.2 v9 x1) fun h10 =>
      Option.bind (some (h10 3 0)) fun v12 =>
      Option.bind (mst 6 h10 v12 x2) fun h13 =>
      Option.bind (some (h13 3 0)) fun v15 =>
      Option.bind (mst 7 h13 v15 x3) fun h16 =>
      Option.bind (some (h16 3 0)) fun v18 =>
      Option.bind (mst 8 h16 v18 x4) fun h19 =>
      Option.bind (some (h19 3 0)) fun v21 =>
      Option.bind (mst 9 h19 v21 x6) fun h22 =>
      Option.bind (some (h22 3 0)) fun v24 =>
      Option.bind (idv x7 x6) fun v25 =>
      Option.bind (mst 10 h22 v24 v25) fun h26 =>
      Option.bind (some (h26 3 0)) fun v28 =>
      Option.bind (irm x7 x6) fun v29 =>
      Option.bind (idv v29 x2) fun v30 =>
      Option.bind (mst 11 h26 v28 (wr (v30 + 1))) fun h31 =>
      Option.bind (some (h31 3 0)) fun v32 =>
      Option.bind (some (mup h31 3 0 (wr (v32 + 1)))) fun h33 =>
      Option.bind (some (h33 3 0)) fun v34 =>
      some (wr (v34 - 1), h33)
    ) else (
      some ((-1), r5.2)
    )
  ) else (
    some (0, r5.2)
  )
theorem m_X6_cache_j113 {am : Nat → Nat} {h0 : Hp} {r : Int} {N' : Mm} {x0 : Int} {h : Hp} {N : Mm} {x1 x2 x3 x4 x6 x7 s1 : Int} (hM : MX x0 am h0 h N) (hg : g_X6_cache_j113 N x1 x2 x3 x4 x6 x7 s1 = some (r, N')) : ∃ h', f_X6_cache_j113 h x0 x1 x2 x3 x4 x6 x7 x0 s1 = some (r, h') ∧ MX x0 am h0 h' N' := by
  unfold g_X6_cache_j113 at hg
  unfold f_X6_cache_j113
  refine ex_bind (mx_ck hM) ?_
  obtain ⟨r5, er5, hg⟩ := bd hg
  obtain ⟨hr5, qr5, hM⟩ := m_X6_refused hM er5
  refine ex_bind qr5 ?_
  by_cases cd : r5.1 = 0
  · replace hg := it_pos cd hg
    refine ex_pos cd ?_
    obtain ⟨v7, ev7, hg⟩ := bd hg
    replace ev7 := Option.some.inj ev7
    refine ex_bind (v := v7) (by rw [← ev7]; exact mx_f3 hM) ?_
    by_cases cd : v7 ≠ 8
    · replace hg := it_pos cd hg
      refine ex_pos cd ?_
      refine ex_bind (mx_ref hM 5 (by decide)) ?_
      obtain ⟨v9, ev9, hg⟩ := bd hg
      replace ev9 := Option.some.inj ev9
      refine ex_bind (v := v9) (by rw [← ev9]; exact mx_f3 hM) ?_
      obtain ⟨Nh10, eh10, hg⟩ := bd hg
      obtain ⟨h10, qh10, hM⟩ := mx_ast hM (k := 5) (by decide) rfl eh10
      refine ex_bind qh10 ?_
      refine ex_bind (mx_ref hM 6 (by decide)) ?_
      obtain ⟨v12, ev12, hg⟩ := bd hg
      replace ev12 := Option.some.inj ev12
      refine ex_bind (v := v12) (by rw [← ev12]; exact mx_f3 hM) ?_
      obtain ⟨Nh13, eh13, hg⟩ := bd hg
      obtain ⟨h13, qh13, hM⟩ := mx_ast hM (k := 6) (by decide) rfl eh13
      refine ex_bind qh13 ?_
      refine ex_bind (mx_ref hM 7 (by decide)) ?_
      obtain ⟨v15, ev15, hg⟩ := bd hg
      replace ev15 := Option.some.inj ev15
      refine ex_bind (v := v15) (by rw [← ev15]; exact mx_f3 hM) ?_
      obtain ⟨Nh16, eh16, hg⟩ := bd hg
      obtain ⟨h16, qh16, hM⟩ := mx_ast hM (k := 7) (by decide) rfl eh16
      refine ex_bind qh16 ?_
      refine ex_bind (mx_ref hM 8 (by decide)) ?_
      obtain ⟨v18, ev18, hg⟩ := bd hg
      replace ev18 := Option.some.inj ev18
      refine ex_bind (v := v18) (by rw [← ev18]; exact mx_f3 hM) ?_
      obtain ⟨Nh19, eh19, hg⟩ := bd hg
      obtain ⟨h19, qh19, hM⟩ := mx_ast hM (k := 8) (by decide) rfl eh19
      refine ex_bind qh19 ?_
      refine ex_bind (mx_ref hM 9 (by decide)) ?_
      obtain ⟨v21, ev21, hg⟩ := bd hg
      replace ev21 := Option.some.inj ev21
      refine ex_bind (v := v21) (by rw [← ev21]; exact mx_f3 hM) ?_
      obtain ⟨Nh22, eh22, hg⟩ := bd hg
      obtain ⟨h22, qh22, hM⟩ := mx_ast hM (k := 9) (by decide) rfl eh22
      refine ex_bind qh22 ?_
      refine ex_bind (mx_ref hM 10 (by decide)) ?_
      obtain ⟨v24, ev24, hg⟩ := bd hg
      replace ev24 := Option.some.inj ev24
      refine ex_bind (v := v24) (by rw [← ev24]; exact mx_f3 hM) ?_
      obtain ⟨v25, ev25, hg⟩ := bd hg
      refine ex_bind ev25 ?_
      obtain ⟨Nh26, eh26, hg⟩ := bd hg
      obtain ⟨h26, qh26, hM⟩ := mx_ast hM (k := 10) (by decide) rfl eh26
      refine ex_bind qh26 ?_
      refine ex_bind (mx_ref hM 11 (by decide)) ?_
      obtain ⟨v28, ev28, hg⟩ := bd hg
      replace ev28 := Option.some.inj ev28
      refine ex_bind (v := v28) (by rw [← ev28]; exact mx_f3 hM) ?_
      obtain ⟨v29, ev29, hg⟩ := bd hg
      refine ex_bind ev29 ?_
      obtain ⟨v30, ev30, hg⟩ := bd hg
      refine ex_bind ev30 ?_
      obtain ⟨Nh31, eh31, hg⟩ := bd hg
      obtain ⟨h31, qh31, hM⟩ := mx_ast hM (k := 11) (by decide) rfl eh31
      refine ex_bind qh31 ?_
      obtain ⟨v32, ev32, hg⟩ := bd hg
      replace ev32 := Option.some.inj ev32
      refine ex_bind (v := v32) (by rw [← ev32]; exact mx_f3 hM) ?_
      obtain ⟨Nh33, eh33, hg⟩ := bd hg
      cases eh33
      obtain ⟨h33, qh33, hM⟩ := mx_put hM (k := 3) (by decide) (wr (v32 + 1))
      refine ex_bind qh33 ?_
      obtain ⟨v34, ev34, hg⟩ := bd hg
      replace ev34 := Option.some.inj ev34
      refine ex_bind (v := v34) (by rw [← ev34]; exact mx_f3 hM) ?_
      exact ex_ret hg hM
    · replace hg := it_neg cd hg
      refine ex_neg cd ?_
      exact ex_ret hg hM
  · replace hg := it_neg cd hg
    refine ex_neg cd ?_
    exact ex_ret hg hM
def g_X6_cache_j108 (h : Mm) (x1 x2 x3 x4 x6 x7 : Int) : Option (Int × Mm) :=
  g_X6_cache_j113 h x1 x2 x3 x4 x6 x7 1
theorem m_X6_cache_j108 {am : Nat → Nat} {h0 : Hp} {r : Int} {N' : Mm} {x0 : Int} {h : Hp} {N : Mm} {x1 x2 x3 x4 x6 x7 : Int} (hM : MX x0 am h0 h N) (hg : g_X6_cache_j108 N x1 x2 x3 x4 x6 x7 = some (r, N')) : ∃ h', f_X6_cache_j108 h x0 x1 x2 x3 x4 x6 x7 x0 = some (r, h') ∧ MX x0 am h0 h' N' := by
  unfold g_X6_cache_j108 at hg
  unfold f_X6_cache_j108
  exact m_X6_cache_j113 hM hg
def g_X6_cache_j93 (h : Mm) (x1 x2 x3 x4 x5 x6 s0 : Int) : Option (Int × Mm) :=
  if x5 = 0 then (
    g_X6_cache_j108 h x1 x2 x3 x4 x6 s0
  ) else (
    if x6 ≤ s0 then (
      g_X6_cache_j113 h x1 x2 x3 x4 x6 s0 0
    ) else (
      g_X6_cache_j108 h x1 x2 x3 x4 x6 s0
    )
  )
theorem m_X6_cache_j93 {am : Nat → Nat} {h0 : Hp} {r : Int} {N' : Mm} {x0 : Int} {h : Hp} {N : Mm} {x1 x2 x3 x4 x5 x6 s0 : Int} (hM : MX x0 am h0 h N) (hg : g_X6_cache_j93 N x1 x2 x3 x4 x5 x6 s0 = some (r, N')) : ∃ h', f_X6_cache_j93 h x0 x1 x2 x3 x4 x5 x6 s0 = some (r, h') ∧ MX x0 am h0 h' N' := by
  unfold g_X6_cache_j93 at hg
  unfold f_X6_cache_j93
  by_cases cd : x5 = 0
  · replace hg := it_pos cd hg
    refine ex_pos cd ?_
    exact m_X6_cache_j108 hM hg
  · replace hg := it_neg cd hg
    refine ex_neg cd ?_
    by_cases cd : x6 ≤ s0
    · replace hg := it_pos cd hg
      refine ex_pos cd ?_
      exact m_X6_cache_j113 hM hg
    · replace hg := it_neg cd hg
      refine ex_neg cd ?_
      exact m_X6_cache_j108 hM hg
def g_X6_cache_j77 (h : Mm) (x1 x2 x3 x4 x5 s0 : Int) : Option (Int × Mm) :=
  if x5 = 0 then (
    g_X6_cache_j93 h x1 x2 x3 x4 x5 s0 0
  ) else (
    g_X6_cache_j93 h x1 x2 x3 x4 x5 s0 (ish 1024 x3)
  )
theorem m_X6_cache_j77 {am : Nat → Nat} {h0 : Hp} {r : Int} {N' : Mm} {x0 : Int} {h : Hp} {N : Mm} {x1 x2 x3 x4 x5 s0 : Int} (hM : MX x0 am h0 h N) (hg : g_X6_cache_j77 N x1 x2 x3 x4 x5 s0 = some (r, N')) : ∃ h', f_X6_cache_j77 h x0 x1 x2 x3 x4 x5 s0 = some (r, h') ∧ MX x0 am h0 h' N' := by
  unfold g_X6_cache_j77 at hg
  unfold f_X6_cache_j77
  by_cases cd : x5 = 0
  · replace hg := it_pos cd hg
    refine ex_pos cd ?_
    exact m_X6_cache_j93 hM hg
  · replace hg := it_neg cd hg
    refine ex_neg cd ?_
    exact m_X6_cache_j93 hM hg
def g_X6_cache_j57 (h : Mm) (x1 x2 x3 x4 s0 : Int) : Option (Int × Mm) :=
  if s0 = 0 then (
    g_X6_cache_j77 h x1 x2 x3 x4 s0 1
  ) else (
    Option.bind (idv (wr ((wr (x1 + x2)) - 1)) x2) fun v4 =>
    g_X6_cache_j77 h x1 x2 x3 x4 s0 (wr (v4 * x2))
  )
theorem m_X6_cache_j57 {am : Nat → Nat} {h0 : Hp} {r : Int} {N' : Mm} {x0 : Int} {h : Hp} {N : Mm} {x1 x2 x3 x4 s0 : Int} (hM : MX x0 am h0 h N) (hg : g_X6_cache_j57 N x1 x2 x3 x4 s0 = some (r, N')) : ∃ h', f_X6_cache_j57 h x0 x1 x2 x3 x4 s0 = some (r, h') ∧ MX x0 am h0 h' N' := by
  unfold g_X6_cache_j57 at hg
  unfold f_X6_cache_j57
  by_cases cd : s0 = 0
  · replace hg := it_pos cd hg
    refine ex_pos cd ?_
    exact m_X6_cache_j77 hM hg
  · replace hg := it_neg cd hg
    refine ex_neg cd ?_
    obtain ⟨v4, ev4, hg⟩ := bd hg
    refine ex_bind ev4 ?_
    exact m_X6_cache_j77 hM hg
def g_X6_cache_j56 (h : Mm) (x1 x2 x3 x4 : Int) : Option (Int × Mm) :=
  g_X6_cache_j57 h x1 x2 x3 x4 0
theorem m_X6_cache_j56 {am : Nat → Nat} {h0 : Hp} {r : Int} {N' : Mm} {x0 : Int} {h : Hp} {N : Mm} {x1 x2 x3 x4 : Int} (hM : MX x0 am h0 h N) (hg : g_X6_cache_j56 N x1 x2 x3 x4 = some (r, N')) : ∃ h', f_X6_cache_j56 h x0 x1 x2 x3 x4 = some (r, h') ∧ MX x0 am h0 h' N' := by
  unfold g_X6_cache_j56 at hg
  unfold f_X6_cache_j56
  exact m_X6_cache_j57 hM hg
def g_X6_cache_j43 (h : Mm) (x1 x2 x3 x4 : Int) : Option (Int × Mm) :=
  Option.bind (g_X6_isIn h x3 0 3) fun r3 =>
  if r3.1 = 0 then (
    g_X6_cache_j56 r3.2 x1 x2 x3 x4
  ) else (
    g_X6_cache_j57 r3.2 x1 x2 x3 x4 1
  )
theorem m_X6_cache_j43 {am : Nat → Nat} {h0 : Hp} {r : Int} {N' : Mm} {x0 : Int} {h : Hp} {N : Mm} {x1 x2 x3 x4 : Int} (hM : MX x0 am h0 h N) (hg : g_X6_cache_j43 N x1 x2 x3 x4 = some (r, N')) : ∃ h', f_X6_cache_j43 h x0 x1 x2 x3 x4 = some (r, h') ∧ MX x0 am h0 h' N' := by
  unfold g_X6_cache_j43 at hg
  unfold f_X6_cache_j43
  obtain ⟨r3, er3, hg⟩ := bd hg
  obtain ⟨hr3, qr3, hM⟩ := m_X6_isIn hM er3
  refine ex_bind qr3 ?_
  by_cases cd : r3.1 = 0
  · replace hg := it_pos cd hg
    refine ex_pos cd ?_
    exact m_X6_cache_j56 hM hg
  · replace hg := it_neg cd hg
    refine ex_neg cd ?_
    exact m_X6_cache_j57 hM hg
def g_X6_cache (h : Mm) (x1 x2 x3 x4 : Int) : Option (Int × Mm) :=
  Option.bind (g_X6_isIn h x1 8 4096) fun r1 =>
  if r1.1 = 0 then (
    g_X6_cache_j56 r1.2 x1 x2 x3 x4
  ) else (
    Option.bind (irm x1 8) fun v2 =>
    if v2 ≠ 0 then (
      g_X6_cache_j56 r1.2 x1 x2 x3 x4
    ) else (
      if x2 = 8 then (
        g_X6_cache_j43 r1.2 x1 x2 x3 x4
      ) else (
        if x2 = 16 then (
          g_X6_cache_j43 r1.2 x1 x2 x3 x4
        ) else (
          if x2 = 32 then (
            g_X6_cache_j43 r1.2 x1 x2 x3 x4
          ) else (
            if x2 ≠ 64 then (
              g_X6_cache_j56 r1.2 x1 x2 x3 x4
            ) else (
              g_X6_cache_j43 r1.2 x1 x2 x3 x4
            )
          )
        )
      )
    )
  )
theorem m_X6_cache {x0 : Int} {am : Nat → Nat} {h0 : Hp} {r : Int} {N' : Mm} {h : Hp} {N : Mm} {x1 x2 x3 x4 : Int} (hM : MX x0 am h0 h N) (hg : g_X6_cache N x1 x2 x3 x4 = some (r, N')) : ∃ h', f_X6_cache h x0 x1 x2 x3 x4 = some (r, h') ∧ MX x0 am h0 h' N' := by
  unfold g_X6_cache at hg
  unfold f_X6_cache
  obtain ⟨r1, er1, hg⟩ := bd hg
  obtain ⟨hr1, qr1, hM⟩ := m_X6_isIn hM er1
  refine ex_bind qr1 ?_
  by_cases cd : r1.1 = 0
  · replace hg := it_pos cd hg
    refine ex_pos cd ?_
    exact m_X6_cache_j56 hM hg
  · replace hg := it_neg cd hg
    refine ex_neg cd ?_
    obtain ⟨v2, ev2, hg⟩ := bd hg
    refine ex_bind ev2 ?_
    by_cases cd : v2 ≠ 0
    · replace hg := it_pos cd hg
      refine ex_pos cd ?_
      exact m_X6_cache_j56 hM hg
    · replace hg := it_neg cd hg
      refine ex_neg cd ?_
      by_cases cd : x2 = 8
      · replace hg := it_pos cd hg
        refine ex_pos cd ?_
        exact m_X6_cache_j43 hM hg
      · replace hg := it_neg cd hg
        refine ex_neg cd ?_
        by_cases cd : x2 = 16
        · replace hg := it_pos cd hg
          refine ex_pos cd ?_
          exact m_X6_cache_j43 hM hg
        · replace hg := it_neg cd hg
          refine ex_neg cd ?_
          by_cases cd : x2 = 32
          · replace hg := it_pos cd hg
            refine ex_pos cd ?_
            exact m_X6_cache_j43 hM hg
          · replace hg := it_neg cd hg
            refine ex_neg cd ?_
            by_cases cd : x2 ≠ 64
            · replace hg := it_pos cd hg
              refine ex_pos cd ?_
              exact m_X6_cache_j56 hM hg
            · replace hg := it_neg cd hg
              refine ex_neg cd ?_
              exact m_X6_cache_j43 hM hg
def g_X6_liveOf_j46 (k4 : Mm → Int → Int → Int → Option (Int × Mm)) (h : Mm) (x1 x3 s0 : Int) : Option (Int × Mm) :=
  k4 h x1 s0 (wr (x3 + 1))
theorem m_X6_liveOf_j46 {am : Nat → Nat} {h0 : Hp} {r : Int} {N' : Mm} {x0 : Int} {kg4 : Mm → Int → Int → Int → Option (Int × Mm)} {kf4 : Hp → Int → Int → Int → Int → Option (Int × Hp)} (hk4 : ∀ {h : Hp} {N : Mm} {x1 x2 x3 : Int}, MX x0 am h0 h N → kg4 N x1 x2 x3 = some (r, N') → ∃ h', kf4 h x0 x1 x2 x3 = some (r, h') ∧ MX x0 am h0 h' N') {h : Hp} {N : Mm} {x1 x3 s0 : Int} (hM : MX x0 am h0 h N) (hg : g_X6_liveOf_j46 kg4 N x1 x3 s0 = some (r, N')) : ∃ h', f_X6_liveOf_j46 kf4 h x0 x1 x3 s0 = some (r, h') ∧ MX x0 am h0 h' N' := by
  unfold g_X6_liveOf_j46 at hg
  unfold f_X6_liveOf_j46
  exact hk4 hM hg
def g_X6_liveOf_j45 (k4 : Mm → Int → Int → Int → Option (Int × Mm)) (h : Mm) (x1 x2 x3 : Int) : Option (Int × Mm) :=
  g_X6_liveOf_j46 k4 h x1 x3 x2
theorem m_X6_liveOf_j45 {am : Nat → Nat} {h0 : Hp} {r : Int} {N' : Mm} {x0 : Int} {kg4 : Mm → Int → Int → Int → Option (Int × Mm)} {kf4 : Hp → Int → Int → Int → Int → Option (Int × Hp)} (hk4 : ∀ {h : Hp} {N : Mm} {x1 x2 x3 : Int}, MX x0 am h0 h N → kg4 N x1 x2 x3 = some (r, N') → ∃ h', kf4 h x0 x1 x2 x3 = some (r, h') ∧ MX x0 am h0 h' N') {h : Hp} {N : Mm} {x1 x2 x3 : Int} (hM : MX x0 am h0 h N) (hg : g_X6_liveOf_j45 kg4 N x1 x2 x3 = some (r, N')) : ∃ h', f_X6_liveOf_j45 kf4 h x0 x1 x2 x3 = some (r, h') ∧ MX x0 am h0 h' N' := by
  unfold g_X6_liveOf_j45 at hg
  unfold f_X6_liveOf_j45
  exact m_X6_liveOf_j46 hk4 hM hg
def g_X6_liveOf_s4 (k4 : Mm → Int → Int → Int → Option (Int × Mm)) (h : Mm) (x1 x2 x3 : Int) : Option (Int × Mm) :=
  if 32768 ≤ x3 then (
    some (x2, h)
  ) else (
    Option.bind (mgt 18 h x3) fun v2 =>
    if v2 ≠ 2 then (
      g_X6_liveOf_j45 k4 h x1 x2 x3
    ) else (
      Option.bind (idv x3 128) fun v5 =>
      Option.bind (mgt 2 h v5) fun v6 =>
      Option.bind (mgt 14 h v6) fun v7 =>
      if v7 ≠ x1 then (
        g_X6_liveOf_j45 k4 h x1 x2 x3
      ) else (
        g_X6_liveOf_j46 k4 h x1 x3 (wr (x2 + 1))
      )
    )
  )
def g_X6_liveOf_b4 : Nat → Mm → Int → Int → Int → Option (Int × Mm)
  | 0, _, _, _, _ => none
  | n + 1, h, x1, x2, x3 => g_X6_liveOf_s4 (g_X6_liveOf_b4 n) h x1 x2 x3
theorem m_X6_liveOf_s4 {am : Nat → Nat} {h0 : Hp} {r : Int} {N' : Mm} {x0 : Int} {kg4 : Mm → Int → Int → Int → Option (Int × Mm)} {kf4 : Hp → Int → Int → Int → Int → Option (Int × Hp)} (hk4 : ∀ {h : Hp} {N : Mm} {x1 x2 x3 : Int}, MX x0 am h0 h N → kg4 N x1 x2 x3 = some (r, N') → ∃ h', kf4 h x0 x1 x2 x3 = some (r, h') ∧ MX x0 am h0 h' N') {h : Hp} {N : Mm} {x1 x2 x3 : Int} (hM : MX x0 am h0 h N) (hg : g_X6_liveOf_s4 kg4 N x1 x2 x3 = some (r, N')) : ∃ h', f_X6_liveOf_s4 kf4 h x0 x1 x2 x3 = some (r, h') ∧ MX x0 am h0 h' N' := by
  unfold g_X6_liveOf_s4 at hg
  unfold f_X6_liveOf_s4
  by_cases cd : 32768 ≤ x3
  · replace hg := it_pos cd hg
    refine ex_pos cd ?_
    exact ex_ret hg hM
  · replace hg := it_neg cd hg
    refine ex_neg cd ?_
    refine ex_bind (mx_ref hM 18 (by decide)) ?_
    obtain ⟨v2, ev2, hg⟩ := bd hg
    refine ex_bind (mx_ald hM (k := 18) (by decide) rfl ev2) ?_
    by_cases cd : v2 ≠ 2
    · replace hg := it_pos cd hg
      refine ex_pos cd ?_
      exact m_X6_liveOf_j45 hk4 hM hg
    · replace hg := it_neg cd hg
      refine ex_neg cd ?_
      refine ex_bind (mx_ref hM 14 (by decide)) ?_
      refine ex_bind (mx_ref hM 2 (by decide)) ?_
      obtain ⟨v5, ev5, hg⟩ := bd hg
      refine ex_bind ev5 ?_
      obtain ⟨v6, ev6, hg⟩ := bd hg
      refine ex_bind (mx_ald hM (k := 2) (by decide) rfl ev6) ?_
      obtain ⟨v7, ev7, hg⟩ := bd hg
      refine ex_bind (mx_ald hM (k := 14) (by decide) rfl ev7) ?_
      by_cases cd : v7 ≠ x1
      · replace hg := it_pos cd hg
        refine ex_pos cd ?_
        exact m_X6_liveOf_j45 hk4 hM hg
      · replace hg := it_neg cd hg
        refine ex_neg cd ?_
        exact m_X6_liveOf_j46 hk4 hM hg
theorem m_X6_liveOf_b4 {am : Nat → Nat} {h0 : Hp} {r : Int} {N' : Mm} {x0 : Int} {n : Nat} {h : Hp} {N : Mm} {x1 x2 x3 : Int} (hM : MX x0 am h0 h N) (hg : g_X6_liveOf_b4 n N x1 x2 x3 = some (r, N')) : ∃ h', f_X6_liveOf_b4 n h x0 x1 x2 x3 = some (r, h') ∧ MX x0 am h0 h' N' := by
  induction n generalizing h N x1 x2 x3 with
  | zero => exact absurd hg (fun q => nomatch (show (none : Option (Int × Mm)) = some (r, N') from q))
  | succ n ih => exact m_X6_liveOf_s4 (fun hM hg => ih hM hg) hM hg
def g_X6_liveOf (h : Mm) (x1 : Int) : Option (Int × Mm) :=
  g_X6_liveOf_b4 fuel h x1 0 0
theorem m_X6_liveOf {x0 : Int} {am : Nat → Nat} {h0 : Hp} {r : Int} {N' : Mm} {h : Hp} {N : Mm} {x1 : Int} (hM : MX x0 am h0 h N) (hg : g_X6_liveOf N x1 = some (r, N')) : ∃ h', f_X6_liveOf h x0 x1 = some (r, h') ∧ MX x0 am h0 h' N' := by
  unfold g_X6_liveOf at hg
  unfold f_X6_liveOf
  exact m_X6_liveOf_b4 hM hg
def g_X6_emptyHeld_s11 (k11 : Mm → Int → Int → Int → Option (Int × Mm)) (h : Mm) (x1 x2 x3 : Int) : Option (Int × Mm) :=
  if x3 < 0 then (
    Option.bind (mst 23 h x1 0) fun h4 =>
    some (x2, h4)
  ) else (
    Option.bind (mgt 24 h (wr ((wr (4 * x1)) + x3))) fun v6 =>
    Option.bind (g_X6_toSlab h v6) fun r7 =>
    k11 r7.2 x1 x2 (wr (x3 + (-1)))
  )
def g_X6_emptyHeld_b11 : Nat → Mm → Int → Int → Int → Option (Int × Mm)
  | 0, _, _, _, _ => none
  | n + 1, h, x1, x2, x3 => g_X6_emptyHeld_s11 (g_X6_emptyHeld_b11 n) h x1 x2 x3
theorem m_X6_emptyHeld_s11 {am : Nat → Nat} {h0 : Hp} {r : Int} {N' : Mm} {x0 : Int} {kg11 : Mm → Int → Int → Int → Option (Int × Mm)} {kf11 : Hp → Int → Int → Int → Int → Option (Int × Hp)} (hk11 : ∀ {h : Hp} {N : Mm} {x1 x2 x3 : Int}, MX x0 am h0 h N → kg11 N x1 x2 x3 = some (r, N') → ∃ h', kf11 h x0 x1 x2 x3 = some (r, h') ∧ MX x0 am h0 h' N') {h : Hp} {N : Mm} {x1 x2 x3 : Int} (hM : MX x0 am h0 h N) (hg : g_X6_emptyHeld_s11 kg11 N x1 x2 x3 = some (r, N')) : ∃ h', f_X6_emptyHeld_s11 kf11 h x0 x1 x2 x3 = some (r, h') ∧ MX x0 am h0 h' N' := by
  unfold g_X6_emptyHeld_s11 at hg
  unfold f_X6_emptyHeld_s11
  by_cases cd : x3 < 0
  · replace hg := it_pos cd hg
    refine ex_pos cd ?_
    refine ex_bind (mx_ref hM 23 (by decide)) ?_
    obtain ⟨Nh4, eh4, hg⟩ := bd hg
    obtain ⟨h4, qh4, hM⟩ := mx_ast hM (k := 23) (by decide) rfl eh4
    refine ex_bind qh4 ?_
    exact ex_ret hg hM
  · replace hg := it_neg cd hg
    refine ex_neg cd ?_
    refine ex_bind (mx_ref hM 24 (by decide)) ?_
    obtain ⟨v6, ev6, hg⟩ := bd hg
    refine ex_bind (mx_ald hM (k := 24) (by decide) rfl ev6) ?_
    refine ex_bind (mx_ck hM) ?_
    obtain ⟨r7, er7, hg⟩ := bd hg
    obtain ⟨hr7, qr7, hM⟩ := m_X6_toSlab hM er7
    refine ex_bind qr7 ?_
    exact hk11 hM hg
theorem m_X6_emptyHeld_b11 {am : Nat → Nat} {h0 : Hp} {r : Int} {N' : Mm} {x0 : Int} {n : Nat} {h : Hp} {N : Mm} {x1 x2 x3 : Int} (hM : MX x0 am h0 h N) (hg : g_X6_emptyHeld_b11 n N x1 x2 x3 = some (r, N')) : ∃ h', f_X6_emptyHeld_b11 n h x0 x1 x2 x3 = some (r, h') ∧ MX x0 am h0 h' N' := by
  induction n generalizing h N x1 x2 x3 with
  | zero => exact absurd hg (fun q => nomatch (show (none : Option (Int × Mm)) = some (r, N') from q))
  | succ n ih => exact m_X6_emptyHeld_s11 (fun hM hg => ih hM hg) hM hg
def g_X6_emptyHeld (h : Mm) (x1 : Int) : Option (Int × Mm) :=
  Option.bind (mgt 23 h x1) fun v2 =>
  g_X6_emptyHeld_b11 fuel h x1 v2 (wr (v2 - 1))
theorem m_X6_emptyHeld {x0 : Int} {am : Nat → Nat} {h0 : Hp} {r : Int} {N' : Mm} {h : Hp} {N : Mm} {x1 : Int} (hM : MX x0 am h0 h N) (hg : g_X6_emptyHeld N x1 = some (r, N')) : ∃ h', f_X6_emptyHeld h x0 x1 = some (r, h') ∧ MX x0 am h0 h' N' := by
  unfold g_X6_emptyHeld at hg
  unfold f_X6_emptyHeld
  refine ex_bind (mx_ref hM 23 (by decide)) ?_
  obtain ⟨v2, ev2, hg⟩ := bd hg
  refine ex_bind (mx_ald hM (k := 23) (by decide) rfl ev2) ?_
  exact m_X6_emptyHeld_b11 hM hg
def g_X6_emptyDepot_s13 (k13 : Mm → Int → Int → Int → Option (Int × Mm)) (h : Mm) (x1 x2 x3 : Int) : Option (Int × Mm) :=
  if x3 < 0 then (
    Option.bind (mst 25 h x1 0) fun h4 =>
    some (x2, h4)
  ) else (
    Option.bind (mgt 26 h (wr ((wr (12 * x1)) + x3))) fun v6 =>
    Option.bind (g_X6_toSlab h v6) fun r7 =>
    k13 r7.2 x1 x2 (wr (x3 + (-1)))
  )
def g_X6_emptyDepot_b13 : Nat → Mm → Int → Int → Int → Option (Int × Mm)
  | 0, _, _, _, _ => none
  | n + 1, h, x1, x2, x3 => g_X6_emptyDepot_s13 (g_X6_emptyDepot_b13 n) h x1 x2 x3
theorem m_X6_emptyDepot_s13 {am : Nat → Nat} {h0 : Hp} {r : Int} {N' : Mm} {x0 : Int} {kg13 : Mm → Int → Int → Int → Option (Int × Mm)} {kf13 : Hp → Int → Int → Int → Int → Option (Int × Hp)} (hk13 : ∀ {h : Hp} {N : Mm} {x1 x2 x3 : Int}, MX x0 am h0 h N → kg13 N x1 x2 x3 = some (r, N') → ∃ h', kf13 h x0 x1 x2 x3 = some (r, h') ∧ MX x0 am h0 h' N') {h : Hp} {N : Mm} {x1 x2 x3 : Int} (hM : MX x0 am h0 h N) (hg : g_X6_emptyDepot_s13 kg13 N x1 x2 x3 = some (r, N')) : ∃ h', f_X6_emptyDepot_s13 kf13 h x0 x1 x2 x3 = some (r, h') ∧ MX x0 am h0 h' N' := by
  unfold g_X6_emptyDepot_s13 at hg
  unfold f_X6_emptyDepot_s13
  by_cases cd : x3 < 0
  · replace hg := it_pos cd hg
    refine ex_pos cd ?_
    refine ex_bind (mx_ref hM 25 (by decide)) ?_
    obtain ⟨Nh4, eh4, hg⟩ := bd hg
    obtain ⟨h4, qh4, hM⟩ := mx_ast hM (k := 25) (by decide) rfl eh4
    refine ex_bind qh4 ?_
    exact ex_ret hg hM
  · replace hg := it_neg cd hg
    refine ex_neg cd ?_
    refine ex_bind (mx_ref hM 26 (by decide)) ?_
    obtain ⟨v6, ev6, hg⟩ := bd hg
    refine ex_bind (mx_ald hM (k := 26) (by decide) rfl ev6) ?_
    refine ex_bind (mx_ck hM) ?_
    obtain ⟨r7, er7, hg⟩ := bd hg
    obtain ⟨hr7, qr7, hM⟩ := m_X6_toSlab hM er7
    refine ex_bind qr7 ?_
    exact hk13 hM hg
theorem m_X6_emptyDepot_b13 {am : Nat → Nat} {h0 : Hp} {r : Int} {N' : Mm} {x0 : Int} {n : Nat} {h : Hp} {N : Mm} {x1 x2 x3 : Int} (hM : MX x0 am h0 h N) (hg : g_X6_emptyDepot_b13 n N x1 x2 x3 = some (r, N')) : ∃ h', f_X6_emptyDepot_b13 n h x0 x1 x2 x3 = some (r, h') ∧ MX x0 am h0 h' N' := by
  induction n generalizing h N x1 x2 x3 with
  | zero => exact absurd hg (fun q => nomatch (show (none : Option (Int × Mm)) = some (r, N') from q))
  | succ n ih => exact m_X6_emptyDepot_s13 (fun hM hg => ih hM hg) hM hg
def g_X6_emptyDepot (h : Mm) (x1 : Int) : Option (Int × Mm) :=
  Option.bind (mgt 25 h x1) fun v2 =>
  g_X6_emptyDepot_b13 fuel h x1 (wr (4 * v2)) (wr ((wr (4 * v2)) - 1))
theorem m_X6_emptyDepot {x0 : Int} {am : Nat → Nat} {h0 : Hp} {r : Int} {N' : Mm} {h : Hp} {N : Mm} {x1 : Int} (hM : MX x0 am h0 h N) (hg : g_X6_emptyDepot N x1 = some (r, N')) : ∃ h', f_X6_emptyDepot h x0 x1 = some (r, h') ∧ MX x0 am h0 h' N' := by
  unfold g_X6_emptyDepot at hg
  unfold f_X6_emptyDepot
  refine ex_bind (mx_ref hM 25 (by decide)) ?_
  obtain ⟨v2, ev2, hg⟩ := bd hg
  refine ex_bind (mx_ald hM (k := 25) (by decide) rfl ev2) ?_
  exact m_X6_emptyDepot_b13 hM hg
def g_X6_drop_j123 (k85 : Mm → Int → Int → Int → Option (Int × Mm)) (h : Mm) (x1 x3 s0 : Int) : Option (Int × Mm) :=
  k85 h x1 s0 (wr (x3 + 1))
theorem m_X6_drop_j123 {am : Nat → Nat} {h0 : Hp} {r : Int} {N' : Mm} {x0 : Int} {kg85 : Mm → Int → Int → Int → Option (Int × Mm)} {kf85 : Hp → Int → Int → Int → Int → Option (Int × Hp)} (hk85 : ∀ {h : Hp} {N : Mm} {x1 x2 x3 : Int}, MX x0 am h0 h N → kg85 N x1 x2 x3 = some (r, N') → ∃ h', kf85 h x0 x1 x2 x3 = some (r, h') ∧ MX x0 am h0 h' N') {h : Hp} {N : Mm} {x1 x3 s0 : Int} (hM : MX x0 am h0 h N) (hg : g_X6_drop_j123 kg85 N x1 x3 s0 = some (r, N')) : ∃ h', f_X6_drop_j123 kf85 h x0 x1 x3 s0 = some (r, h') ∧ MX x0 am h0 h' N' := by
  unfold g_X6_drop_j123 at hg
  unfold f_X6_drop_j123
  exact hk85 hM hg
def g_X6_drop_j122 (k85 : Mm → Int → Int → Int → Option (Int × Mm)) (h : Mm) (x1 x2 x3 : Int) : Option (Int × Mm) :=
  g_X6_drop_j123 k85 h x1 x3 x2
theorem m_X6_drop_j122 {am : Nat → Nat} {h0 : Hp} {r : Int} {N' : Mm} {x0 : Int} {kg85 : Mm → Int → Int → Int → Option (Int × Mm)} {kf85 : Hp → Int → Int → Int → Int → Option (Int × Hp)} (hk85 : ∀ {h : Hp} {N : Mm} {x1 x2 x3 : Int}, MX x0 am h0 h N → kg85 N x1 x2 x3 = some (r, N') → ∃ h', kf85 h x0 x1 x2 x3 = some (r, h') ∧ MX x0 am h0 h' N') {h : Hp} {N : Mm} {x1 x2 x3 : Int} (hM : MX x0 am h0 h N) (hg : g_X6_drop_j122 kg85 N x1 x2 x3 = some (r, N')) : ∃ h', f_X6_drop_j122 kf85 h x0 x1 x2 x3 = some (r, h') ∧ MX x0 am h0 h' N' := by
  unfold g_X6_drop_j122 at hg
  unfold f_X6_drop_j122
  exact m_X6_drop_j123 hk85 hM hg
def g_X6_drop_s85 (k85 : Mm → Int → Int → Int → Option (Int × Mm)) (h : Mm) (x1 x2 x3 : Int) : Option (Int × Mm) :=
  if 256 ≤ x3 then (
    Option.bind (mst 4 h x1 1) fun h14 =>
    some (x2, h14)
  ) else (
    Option.bind (mgt 2 h x3) fun v16 =>
    if v16 ≠ x3 then (
      g_X6_drop_j122 k85 h x1 x2 x3
    ) else (
      Option.bind (mgt 14 h x3) fun v18 =>
      if v18 ≠ x1 then (
        g_X6_drop_j122 k85 h x1 x2 x3
      ) else (
        Option.bind (g_X6_giveSlab h x3) fun r19 =>
        g_X6_drop_j123 k85 r19.2 x1 x3 (wr (x2 + r19.1))
      )
    )
  )
def g_X6_drop_b85 : Nat → Mm → Int → Int → Int → Option (Int × Mm)
  | 0, _, _, _, _ => none
  | n + 1, h, x1, x2, x3 => g_X6_drop_s85 (g_X6_drop_b85 n) h x1 x2 x3
theorem m_X6_drop_s85 {am : Nat → Nat} {h0 : Hp} {r : Int} {N' : Mm} {x0 : Int} {kg85 : Mm → Int → Int → Int → Option (Int × Mm)} {kf85 : Hp → Int → Int → Int → Int → Option (Int × Hp)} (hk85 : ∀ {h : Hp} {N : Mm} {x1 x2 x3 : Int}, MX x0 am h0 h N → kg85 N x1 x2 x3 = some (r, N') → ∃ h', kf85 h x0 x1 x2 x3 = some (r, h') ∧ MX x0 am h0 h' N') {h : Hp} {N : Mm} {x1 x2 x3 : Int} (hM : MX x0 am h0 h N) (hg : g_X6_drop_s85 kg85 N x1 x2 x3 = some (r, N')) : ∃ h', f_X6_drop_s85 kf85 h x0 x1 x2 x3 = some (r, h') ∧ MX x0 am h0 h' N' := by
  unfold g_X6_drop_s85 at hg
  unfold f_X6_drop_s85
  by_cases cd : 256 ≤ x3
  · replace hg := it_pos cd hg
    refine ex_pos cd ?_
    refine ex_bind (mx_ref hM 4 (by decide)) ?_
    obtain ⟨Nh14, eh14, hg⟩ := bd hg
    obtain ⟨h14, qh14, hM⟩ := mx_ast hM (k := 4) (by decide) rfl eh14
    refine ex_bind qh14 ?_
    exact ex_ret hg hM
  · replace hg := it_neg cd hg
    refine ex_neg cd ?_
    refine ex_bind (mx_ref hM 2 (by decide)) ?_
    obtain ⟨v16, ev16, hg⟩ := bd hg
    refine ex_bind (mx_ald hM (k := 2) (by decide) rfl ev16) ?_
    by_cases cd : v16 ≠ x3
    · replace hg := it_pos cd hg
      refine ex_pos cd ?_
      exact m_X6_drop_j122 hk85 hM hg
    · replace hg := it_neg cd hg
      refine ex_neg cd ?_
      refine ex_bind (mx_ref hM 14 (by decide)) ?_
      obtain ⟨v18, ev18, hg⟩ := bd hg
      refine ex_bind (mx_ald hM (k := 14) (by decide) rfl ev18) ?_
      by_cases cd : v18 ≠ x1
      · replace hg := it_pos cd hg
        refine ex_pos cd ?_
        exact m_X6_drop_j122 hk85 hM hg
      · replace hg := it_neg cd hg
        refine ex_neg cd ?_
        refine ex_bind (mx_ck hM) ?_
        obtain ⟨r19, er19, hg⟩ := bd hg
        obtain ⟨hr19, qr19, hM⟩ := m_X6_giveSlab hM er19
        refine ex_bind qr19 ?_
        exact m_X6_drop_j123 hk85 hM hg
theorem m_X6_drop_b85 {am : Nat → Nat} {h0 : Hp} {r : Int} {N' : Mm} {x0 : Int} {n : Nat} {h : Hp} {N : Mm} {x1 x2 x3 : Int} (hM : MX x0 am h0 h N) (hg : g_X6_drop_b85 n N x1 x2 x3 = some (r, N')) : ∃ h', f_X6_drop_b85 n h x0 x1 x2 x3 = some (r, h') ∧ MX x0 am h0 h' N' := by
  induction n generalizing h N x1 x2 x3 with
  | zero => exact absurd hg (fun q => nomatch (show (none : Option (Int × Mm)) = some (r, N') from q))
  | succ n ih => exact m_X6_drop_s85 (fun hM hg => ih hM hg) hM hg
def g_X6_drop_s36 (k36 : Mm → Int → Int → Option (Int × Mm)) (h : Mm) (x1 x2 : Int) : Option (Int × Mm) :=
  if 4 ≤ x2 then (
    Option.bind (g_X6_emptyDepot h x1) fun r7 =>
    g_X6_drop_b85 fuel r7.2 x1 0 0
  ) else (
    Option.bind (g_X6_emptyHeld h (wr (2 * (wr ((wr (8 * x2)) + x1))))) fun r9 =>
    Option.bind (g_X6_emptyHeld r9.2 (wr ((wr (2 * (wr ((wr (8 * x2)) + x1)))) + 1))) fun r11 =>
    k36 r11.2 x1 (wr (x2 + 1))
  )
def g_X6_drop_b36 : Nat → Mm → Int → Int → Option (Int × Mm)
  | 0, _, _, _ => none
  | n + 1, h, x1, x2 => g_X6_drop_s36 (g_X6_drop_b36 n) h x1 x2
theorem m_X6_drop_s36 {am : Nat → Nat} {h0 : Hp} {r : Int} {N' : Mm} {x0 : Int} {kg36 : Mm → Int → Int → Option (Int × Mm)} {kf36 : Hp → Int → Int → Int → Option (Int × Hp)} (hk36 : ∀ {h : Hp} {N : Mm} {x1 x2 : Int}, MX x0 am h0 h N → kg36 N x1 x2 = some (r, N') → ∃ h', kf36 h x0 x1 x2 = some (r, h') ∧ MX x0 am h0 h' N') {h : Hp} {N : Mm} {x1 x2 : Int} (hM : MX x0 am h0 h N) (hg : g_X6_drop_s36 kg36 N x1 x2 = some (r, N')) : ∃ h', f_X6_drop_s36 kf36 h x0 x1 x2 = some (r, h') ∧ MX x0 am h0 h' N' := by
  unfold g_X6_drop_s36 at hg
  unfold f_X6_drop_s36
  by_cases cd : 4 ≤ x2
  · replace hg := it_pos cd hg
    refine ex_pos cd ?_
    refine ex_bind (mx_ck hM) ?_
    obtain ⟨r7, er7, hg⟩ := bd hg
    obtain ⟨hr7, qr7, hM⟩ := m_X6_emptyDepot hM er7
    refine ex_bind qr7 ?_
    exact m_X6_drop_b85 hM hg
  · replace hg := it_neg cd hg
    refine ex_neg cd ?_
    refine ex_bind (mx_ck hM) ?_
    obtain ⟨r9, er9, hg⟩ := bd hg
    obtain ⟨hr9, qr9, hM⟩ := m_X6_emptyHeld hM er9
    refine ex_bind qr9 ?_
    refine ex_bind (mx_ck hM) ?_
    obtain ⟨r11, er11, hg⟩ := bd hg
    obtain ⟨hr11, qr11, hM⟩ := m_X6_emptyHeld hM er11
    refine ex_bind qr11 ?_
    exact hk36 hM hg
theorem m_X6_drop_b36 {am : Nat → Nat} {h0 : Hp} {r : Int} {N' : Mm} {x0 : Int} {n : Nat} {h : Hp} {N : Mm} {x1 x2 : Int} (hM : MX x0 am h0 h N) (hg : g_X6_drop_b36 n N x1 x2 = some (r, N')) : ∃ h', f_X6_drop_b36 n h x0 x1 x2 = some (r, h') ∧ MX x0 am h0 h' N' := by
  induction n generalizing h N x1 x2 with
  | zero => exact absurd hg (fun q => nomatch (show (none : Option (Int × Mm)) = some (r, N') from q))
  | succ n ih => exact m_X6_drop_s36 (fun hM hg => ih hM hg) hM hg
def g_X6_drop_j26 (h : Mm) (x1 s1 : Int) : Option (Int × Mm) :=
  Option.bind (g_X6_refused h s1) fun r5 =>
  if r5.1 = 0 then (
    g_X6_drop_b36 fuel r5.2 x1 0
  ) else (
    some (0, r5.2)
  )
theorem m_X6_drop_j26 {am : Nat → Nat} {h0 : Hp} {r : Int} {N' : Mm} {x0 : Int} {h : Hp} {N : Mm} {x1 s1 : Int} (hM : MX x0 am h0 h N) (hg : g_X6_drop_j26 N x1 s1 = some (r, N')) : ∃ h', f_X6_drop_j26 h x0 x1 x0 s1 = some (r, h') ∧ MX x0 am h0 h' N' := by
  unfold g_X6_drop_j26 at hg
  unfold f_X6_drop_j26
  refine ex_bind (mx_ck hM) ?_
  obtain ⟨r5, er5, hg⟩ := bd hg
  obtain ⟨hr5, qr5, hM⟩ := m_X6_refused hM er5
  refine ex_bind qr5 ?_
  by_cases cd : r5.1 = 0
  · replace hg := it_pos cd hg
    refine ex_pos cd ?_
    exact m_X6_drop_b36 hM hg
  · replace hg := it_neg cd hg
    refine ex_neg cd ?_
    exact ex_ret hg hM
def g_X6_drop (h : Mm) (x1 : Int) : Option (Int × Mm) :=
  Option.bind (g_X6_isCache h x1) fun r1 =>
  if r1.1 ≠ 0 then (
    Option.bind (g_X6_liveOf r1.2 x1) fun r3 =>
    if r3.1 ≤ 0 then (
      g_X6_drop_j26 r3.2 x1 0
    ) else (
      g_X6_drop_j26 r3.2 x1 2
    )
  ) else (
    g_X6_drop_j26 r1.2 x1 1
  )
theorem m_X6_drop {x0 : Int} {am : Nat → Nat} {h0 : Hp} {r : Int} {N' : Mm} {h : Hp} {N : Mm} {x1 : Int} (hM : MX x0 am h0 h N) (hg : g_X6_drop N x1 = some (r, N')) : ∃ h', f_X6_drop h x0 x1 = some (r, h') ∧ MX x0 am h0 h' N' := by
  unfold g_X6_drop at hg
  unfold f_X6_drop
  refine ex_bind (mx_ck hM) ?_
  obtain ⟨r1, er1, hg⟩ := bd hg
  obtain ⟨hr1, qr1, hM⟩ := m_X6_isCache hM er1
  refine ex_bind qr1 ?_
  by_cases cd : r1.1 ≠ 0
  · replace hg := it_pos cd hg
    refine ex_pos cd ?_
    refine ex_bind (mx_ck hM) ?_
    obtain ⟨r3, er3, hg⟩ := bd hg
    obtain ⟨hr3, qr3, hM⟩ := m_X6_liveOf hM er3
    refine ex_bind qr3 ?_
    by_cases cd : r3.1 ≤ 0
    · replace hg := it_pos cd hg
      refine ex_pos cd ?_
      exact m_X6_drop_j26 hM hg
    · replace hg := it_neg cd hg
      refine ex_neg cd ?_
      exact m_X6_drop_j26 hM hg
  · replace hg := it_neg cd hg
    refine ex_neg cd ?_
    exact m_X6_drop_j26 hM hg
def g_X6_swap_s2 (k2 : Mm → Int → Int → Option (Int × Mm)) (h : Mm) (x1 x2 : Int) : Option (Int × Mm) :=
  if 4 ≤ x2 then (
    Option.bind (mgt 23 h x1) fun v2 =>
    Option.bind (mgt 23 h (wr (x1 + 1))) fun v5 =>
    Option.bind (mst 23 h x1 v5) fun h6 =>
    Option.bind (mst 23 h6 (wr (x1 + 1)) v2) fun h8 =>
    some (0, h8)
  ) else (
    Option.bind (mgt 24 h (wr ((wr (4 * x1)) + x2))) fun v10 =>
    Option.bind (mgt 24 h (wr ((wr ((wr (4 * x1)) + 4)) + x2))) fun v13 =>
    Option.bind (mst 24 h (wr ((wr (4 * x1)) + x2)) v13) fun h14 =>
    Option.bind (mst 24 h14 (wr ((wr ((wr (4 * x1)) + 4)) + x2)) v10) fun h16 =>
    k2 h16 x1 (wr (x2 + 1))
  )
def g_X6_swap_b2 : Nat → Mm → Int → Int → Option (Int × Mm)
  | 0, _, _, _ => none
  | n + 1, h, x1, x2 => g_X6_swap_s2 (g_X6_swap_b2 n) h x1 x2
theorem m_X6_swap_s2 {am : Nat → Nat} {h0 : Hp} {r : Int} {N' : Mm} {x0 : Int} {kg2 : Mm → Int → Int → Option (Int × Mm)} {kf2 : Hp → Int → Int → Int → Option (Int × Hp)} (hk2 : ∀ {h : Hp} {N : Mm} {x1 x2 : Int}, MX x0 am h0 h N → kg2 N x1 x2 = some (r, N') → ∃ h', kf2 h x0 x1 x2 = some (r, h') ∧ MX x0 am h0 h' N') {h : Hp} {N : Mm} {x1 x2 : Int} (hM : MX x0 am h0 h N) (hg : g_X6_swap_s2 kg2 N x1 x2 = some (r, N')) : ∃ h', f_X6_swap_s2 kf2 h x0 x1 x2 = some (r, h') ∧ MX x0 am h0 h' N' := by
  unfold g_X6_swap_s2 at hg
  unfold f_X6_swap_s2
  by_cases cd : 4 ≤ x2
  · replace hg := it_pos cd hg
    refine ex_pos cd ?_
    refine ex_bind (mx_ref hM 23 (by decide)) ?_
    obtain ⟨v2, ev2, hg⟩ := bd hg
    refine ex_bind (mx_ald hM (k := 23) (by decide) rfl ev2) ?_
    refine ex_bind (mx_ref hM 23 (by decide)) ?_
    refine ex_bind (mx_ref hM 23 (by decide)) ?_
    obtain ⟨v5, ev5, hg⟩ := bd hg
    refine ex_bind (mx_ald hM (k := 23) (by decide) rfl ev5) ?_
    obtain ⟨Nh6, eh6, hg⟩ := bd hg
    obtain ⟨h6, qh6, hM⟩ := mx_ast hM (k := 23) (by decide) rfl eh6
    refine ex_bind qh6 ?_
    refine ex_bind (mx_ref hM 23 (by decide)) ?_
    obtain ⟨Nh8, eh8, hg⟩ := bd hg
    obtain ⟨h8, qh8, hM⟩ := mx_ast hM (k := 23) (by decide) rfl eh8
    refine ex_bind qh8 ?_
    exact ex_ret hg hM
  · replace hg := it_neg cd hg
    refine ex_neg cd ?_
    refine ex_bind (mx_ref hM 24 (by decide)) ?_
    obtain ⟨v10, ev10, hg⟩ := bd hg
    refine ex_bind (mx_ald hM (k := 24) (by decide) rfl ev10) ?_
    refine ex_bind (mx_ref hM 24 (by decide)) ?_
    refine ex_bind (mx_ref hM 24 (by decide)) ?_
    obtain ⟨v13, ev13, hg⟩ := bd hg
    refine ex_bind (mx_ald hM (k := 24) (by decide) rfl ev13) ?_
    obtain ⟨Nh14, eh14, hg⟩ := bd hg
    obtain ⟨h14, qh14, hM⟩ := mx_ast hM (k := 24) (by decide) rfl eh14
    refine ex_bind qh14 ?_
    refine ex_bind (mx_ref hM 24 (by decide)) ?_
    obtain ⟨Nh16, eh16, hg⟩ := bd hg
    obtain ⟨h16, qh16, hM⟩ := mx_ast hM (k := 24) (by decide) rfl eh16
    refine ex_bind qh16 ?_
    exact hk2 hM hg
theorem m_X6_swap_b2 {am : Nat → Nat} {h0 : Hp} {r : Int} {N' : Mm} {x0 : Int} {n : Nat} {h : Hp} {N : Mm} {x1 x2 : Int} (hM : MX x0 am h0 h N) (hg : g_X6_swap_b2 n N x1 x2 = some (r, N')) : ∃ h', f_X6_swap_b2 n h x0 x1 x2 = some (r, h') ∧ MX x0 am h0 h' N' := by
  induction n generalizing h N x1 x2 with
  | zero => exact absurd hg (fun q => nomatch (show (none : Option (Int × Mm)) = some (r, N') from q))
  | succ n ih => exact m_X6_swap_s2 (fun hM hg => ih hM hg) hM hg
def g_X6_swap (h : Mm) (x1 : Int) : Option (Int × Mm) :=
  g_X6_swap_b2 fuel h x1 0
theorem m_X6_swap {x0 : Int} {am : Nat → Nat} {h0 : Hp} {r : Int} {N' : Mm} {h : Hp} {N : Mm} {x1 : Int} (hM : MX x0 am h0 h N) (hg : g_X6_swap N x1 = some (r, N')) : ∃ h', f_X6_swap h x0 x1 = some (r, h') ∧ MX x0 am h0 h' N' := by
  unfold g_X6_swap at hg
  unfold f_X6_swap
  exact m_X6_swap_b2 hM hg
def g_X6_allocate_j200 (h : Mm) (x1 x4 : Int) : Option (Int × Mm) :=
  if 0 ≤ x4 then (
    Option.bind (mst 18 h x4 2) fun h39 =>
    some (wr (8 * x4), h39)
  ) else (
    Option.bind (mgt 13 h x1) fun v41 =>
    Option.bind (mst 13 h x1 (wr (v41 + 1))) fun h42 =>
    some ((-1), h42)
  )
theorem m_X6_allocate_j200 {am : Nat → Nat} {h0 : Hp} {r : Int} {N' : Mm} {x0 : Int} {h : Hp} {N : Mm} {x1 x4 : Int} (hM : MX x0 am h0 h N) (hg : g_X6_allocate_j200 N x1 x4 = some (r, N')) : ∃ h', f_X6_allocate_j200 h x0 x1 x4 = some (r, h') ∧ MX x0 am h0 h' N' := by
  unfold g_X6_allocate_j200 at hg
  unfold f_X6_allocate_j200
  by_cases cd : 0 ≤ x4
  · replace hg := it_pos cd hg
    refine ex_pos cd ?_
    refine ex_bind (mx_ref hM 18 (by decide)) ?_
    obtain ⟨Nh39, eh39, hg⟩ := bd hg
    obtain ⟨h39, qh39, hM⟩ := mx_ast hM (k := 18) (by decide) rfl eh39
    refine ex_bind qh39 ?_
    exact ex_ret hg hM
  · replace hg := it_neg cd hg
    refine ex_neg cd ?_
    refine ex_bind (mx_ref hM 13 (by decide)) ?_
    obtain ⟨v41, ev41, hg⟩ := bd hg
    refine ex_bind (mx_ald hM (k := 13) (by decide) rfl ev41) ?_
    obtain ⟨Nh42, eh42, hg⟩ := bd hg
    obtain ⟨h42, qh42, hM⟩ := mx_ast hM (k := 13) (by decide) rfl eh42
    refine ex_bind qh42 ?_
    exact ex_ret hg hM
def g_X6_allocate_j151 (h : Mm) (x1 x3 : Int) : Option (Int × Mm) :=
  Option.bind (mgt 23 h x3) fun v20 =>
  if v20 ≤ 0 then (
    Option.bind (g_X6_fromSlabs h x1) fun r21 =>
    g_X6_allocate_j200 r21.2 x1 r21.1
  ) else (
    Option.bind (mgt 23 h x3) fun v24 =>
    Option.bind (mst 23 h x3 (wr (v24 - 1))) fun h25 =>
    Option.bind (mgt 23 h25 x3) fun v28 =>
    Option.bind (mgt 24 h25 (wr ((wr (4 * x3)) + v28))) fun v29 =>
    g_X6_allocate_j200 h25 x1 v29
  )
theorem m_X6_allocate_j151 {am : Nat → Nat} {h0 : Hp} {r : Int} {N' : Mm} {x0 : Int} {h : Hp} {N : Mm} {x1 x3 : Int} (hM : MX x0 am h0 h N) (hg : g_X6_allocate_j151 N x1 x3 = some (r, N')) : ∃ h', f_X6_allocate_j151 h x0 x1 x3 = some (r, h') ∧ MX x0 am h0 h' N' := by
  unfold g_X6_allocate_j151 at hg
  unfold f_X6_allocate_j151
  refine ex_bind (mx_ref hM 23 (by decide)) ?_
  obtain ⟨v20, ev20, hg⟩ := bd hg
  refine ex_bind (mx_ald hM (k := 23) (by decide) rfl ev20) ?_
  by_cases cd : v20 ≤ 0
  · replace hg := it_pos cd hg
    refine ex_pos cd ?_
    refine ex_bind (mx_ck hM) ?_
    obtain ⟨r21, er21, hg⟩ := bd hg
    obtain ⟨hr21, qr21, hM⟩ := m_X6_fromSlabs hM er21
    refine ex_bind qr21 ?_
    exact m_X6_allocate_j200 hM hg
  · replace hg := it_neg cd hg
    refine ex_neg cd ?_
    refine ex_bind (mx_ref hM 23 (by decide)) ?_
    obtain ⟨v24, ev24, hg⟩ := bd hg
    refine ex_bind (mx_ald hM (k := 23) (by decide) rfl ev24) ?_
    obtain ⟨Nh25, eh25, hg⟩ := bd hg
    obtain ⟨h25, qh25, hM⟩ := mx_ast hM (k := 23) (by decide) rfl eh25
    refine ex_bind qh25 ?_
    refine ex_bind (mx_ref hM 24 (by decide)) ?_
    refine ex_bind (mx_ref hM 23 (by decide)) ?_
    obtain ⟨v28, ev28, hg⟩ := bd hg
    refine ex_bind (mx_ald hM (k := 23) (by decide) rfl ev28) ?_
    obtain ⟨v29, ev29, hg⟩ := bd hg
    refine ex_bind (mx_ald hM (k := 24) (by decide) rfl ev29) ?_
    exact m_X6_allocate_j200 hM hg
def g_X6_allocate_s100 (k100 : Mm → Int → Int → Int → Option (Int × Mm)) (h : Mm) (x1 x3 x4 : Int) : Option (Int × Mm) :=
  if 4 ≤ x4 then (
    Option.bind (mst 23 h x3 4) fun h31 =>
    g_X6_allocate_j151 h31 x1 x3
  ) else (
    Option.bind (mgt 25 h x1) fun v35 =>
    Option.bind (mgt 26 h (wr ((wr ((wr (12 * x1)) + (wr (4 * v35)))) + x4))) fun v36 =>
    Option.bind (mst 24 h (wr ((wr (4 * x3)) + x4)) v36) fun h37 =>
    k100 h37 x1 x3 (wr (x4 + 1))
  )
def g_X6_allocate_b100 : Nat → Mm → Int → Int → Int → Option (Int × Mm)
  | 0, _, _, _, _ => none
  | n + 1, h, x1, x3, x4 => g_X6_allocate_s100 (g_X6_allocate_b100 n) h x1 x3 x4
theorem m_X6_allocate_s100 {am : Nat → Nat} {h0 : Hp} {r : Int} {N' : Mm} {x0 : Int} {kg100 : Mm → Int → Int → Int → Option (Int × Mm)} {kf100 : Hp → Int → Int → Int → Int → Option (Int × Hp)} (hk100 : ∀ {h : Hp} {N : Mm} {x1 x3 x4 : Int}, MX x0 am h0 h N → kg100 N x1 x3 x4 = some (r, N') → ∃ h', kf100 h x0 x1 x3 x4 = some (r, h') ∧ MX x0 am h0 h' N') {h : Hp} {N : Mm} {x1 x3 x4 : Int} (hM : MX x0 am h0 h N) (hg : g_X6_allocate_s100 kg100 N x1 x3 x4 = some (r, N')) : ∃ h', f_X6_allocate_s100 kf100 h x0 x1 x3 x4 = some (r, h') ∧ MX x0 am h0 h' N' := by
  unfold g_X6_allocate_s100 at hg
  unfold f_X6_allocate_s100
  by_cases cd : 4 ≤ x4
  · replace hg := it_pos cd hg
    refine ex_pos cd ?_
    refine ex_bind (mx_ref hM 23 (by decide)) ?_
    obtain ⟨Nh31, eh31, hg⟩ := bd hg
    obtain ⟨h31, qh31, hM⟩ := mx_ast hM (k := 23) (by decide) rfl eh31
    refine ex_bind qh31 ?_
    exact m_X6_allocate_j151 hM hg
  · replace hg := it_neg cd hg
    refine ex_neg cd ?_
    refine ex_bind (mx_ref hM 24 (by decide)) ?_
    refine ex_bind (mx_ref hM 26 (by decide)) ?_
    refine ex_bind (mx_ref hM 25 (by decide)) ?_
    obtain ⟨v35, ev35, hg⟩ := bd hg
    refine ex_bind (mx_ald hM (k := 25) (by decide) rfl ev35) ?_
    obtain ⟨v36, ev36, hg⟩ := bd hg
    refine ex_bind (mx_ald hM (k := 26) (by decide) rfl ev36) ?_
    obtain ⟨Nh37, eh37, hg⟩ := bd hg
    obtain ⟨h37, qh37, hM⟩ := mx_ast hM (k := 24) (by decide) rfl eh37
    refine ex_bind qh37 ?_
    exact hk100 hM hg
theorem m_X6_allocate_b100 {am : Nat → Nat} {h0 : Hp} {r : Int} {N' : Mm} {x0 : Int} {n : Nat} {h : Hp} {N : Mm} {x1 x3 x4 : Int} (hM : MX x0 am h0 h N) (hg : g_X6_allocate_b100 n N x1 x3 x4 = some (r, N')) : ∃ h', f_X6_allocate_b100 n h x0 x1 x3 x4 = some (r, h') ∧ MX x0 am h0 h' N' := by
  induction n generalizing h N x1 x3 x4 with
  | zero => exact absurd hg (fun q => nomatch (show (none : Option (Int × Mm)) = some (r, N') from q))
  | succ n ih => exact m_X6_allocate_s100 (fun hM hg => ih hM hg) hM hg
def g_X6_allocate_j69 (h : Mm) (x1 x3 : Int) : Option (Int × Mm) :=
  Option.bind (mgt 23 h x3) fun v13 =>
  if v13 ≠ 0 then (
    g_X6_allocate_j151 h x1 x3
  ) else (
    Option.bind (mgt 25 h x1) fun v15 =>
    if v15 ≤ 0 then (
      g_X6_allocate_j151 h x1 x3
    ) else (
      Option.bind (mgt 25 h x1) fun v17 =>
      Option.bind (mst 25 h x1 (wr (v17 - 1))) fun h18 =>
      g_X6_allocate_b100 fuel h18 x1 x3 0
    )
  )
theorem m_X6_allocate_j69 {am : Nat → Nat} {h0 : Hp} {r : Int} {N' : Mm} {x0 : Int} {h : Hp} {N : Mm} {x1 x3 : Int} (hM : MX x0 am h0 h N) (hg : g_X6_allocate_j69 N x1 x3 = some (r, N')) : ∃ h', f_X6_allocate_j69 h x0 x1 x3 = some (r, h') ∧ MX x0 am h0 h' N' := by
  unfold g_X6_allocate_j69 at hg
  unfold f_X6_allocate_j69
  refine ex_bind (mx_ref hM 23 (by decide)) ?_
  obtain ⟨v13, ev13, hg⟩ := bd hg
  refine ex_bind (mx_ald hM (k := 23) (by decide) rfl ev13) ?_
  by_cases cd : v13 ≠ 0
  · replace hg := it_pos cd hg
    refine ex_pos cd ?_
    exact m_X6_allocate_j151 hM hg
  · replace hg := it_neg cd hg
    refine ex_neg cd ?_
    refine ex_bind (mx_ref hM 25 (by decide)) ?_
    obtain ⟨v15, ev15, hg⟩ := bd hg
    refine ex_bind (mx_ald hM (k := 25) (by decide) rfl ev15) ?_
    by_cases cd : v15 ≤ 0
    · replace hg := it_pos cd hg
      refine ex_pos cd ?_
      exact m_X6_allocate_j151 hM hg
    · replace hg := it_neg cd hg
      refine ex_neg cd ?_
      refine ex_bind (mx_ref hM 25 (by decide)) ?_
      obtain ⟨v17, ev17, hg⟩ := bd hg
      refine ex_bind (mx_ald hM (k := 25) (by decide) rfl ev17) ?_
      obtain ⟨Nh18, eh18, hg⟩ := bd hg
      obtain ⟨h18, qh18, hM⟩ := mx_ast hM (k := 25) (by decide) rfl eh18
      refine ex_bind qh18 ?_
      exact m_X6_allocate_b100 hM hg
def g_X6_allocate_j27 (h : Mm) (x1 x2 s1 : Int) : Option (Int × Mm) :=
  Option.bind (g_X6_refused h s1) fun r4 =>
  if r4.1 = 0 then (
    Option.bind (mgt 23 r4.2 (wr (2 * (wr ((wr (8 * x2)) + x1))))) fun v7 =>
    if v7 ≠ 0 then (
      g_X6_allocate_j69 r4.2 x1 (wr (2 * (wr ((wr (8 * x2)) + x1))))
    ) else (
      Option.bind (mgt 23 r4.2 (wr ((wr (2 * (wr ((wr (8 * x2)) + x1)))) + 1))) fun v9 =>
      if v9 ≤ 0 then (
        g_X6_allocate_j69 r4.2 x1 (wr (2 * (wr ((wr (8 * x2)) + x1))))
      ) else (
        Option.bind (g_X6_swap r4.2 (wr (2 * (wr ((wr (8 * x2)) + x1))))) fun r10 =>
        g_X6_allocate_j69 r10.2 x1 (wr (2 * (wr ((wr (8 * x2)) + x1))))
      )
    )
  ) else (
    some (0, r4.2)
  )
theorem m_X6_allocate_j27 {am : Nat → Nat} {h0 : Hp} {r : Int} {N' : Mm} {x0 : Int} {h : Hp} {N : Mm} {x1 x2 s1 : Int} (hM : MX x0 am h0 h N) (hg : g_X6_allocate_j27 N x1 x2 s1 = some (r, N')) : ∃ h', f_X6_allocate_j27 h x0 x1 x2 x0 s1 = some (r, h') ∧ MX x0 am h0 h' N' := by
  unfold g_X6_allocate_j27 at hg
  unfold f_X6_allocate_j27
  refine ex_bind (mx_ck hM) ?_
  obtain ⟨r4, er4, hg⟩ := bd hg
  obtain ⟨hr4, qr4, hM⟩ := m_X6_refused hM er4
  refine ex_bind qr4 ?_
  by_cases cd : r4.1 = 0
  · replace hg := it_pos cd hg
    refine ex_pos cd ?_
    refine ex_bind (mx_ref hM 23 (by decide)) ?_
    obtain ⟨v7, ev7, hg⟩ := bd hg
    refine ex_bind (mx_ald hM (k := 23) (by decide) rfl ev7) ?_
    by_cases cd : v7 ≠ 0
    · replace hg := it_pos cd hg
      refine ex_pos cd ?_
      exact m_X6_allocate_j69 hM hg
    · replace hg := it_neg cd hg
      refine ex_neg cd ?_
      refine ex_bind (mx_ref hM 23 (by decide)) ?_
      obtain ⟨v9, ev9, hg⟩ := bd hg
      refine ex_bind (mx_ald hM (k := 23) (by decide) rfl ev9) ?_
      by_cases cd : v9 ≤ 0
      · replace hg := it_pos cd hg
        refine ex_pos cd ?_
        exact m_X6_allocate_j69 hM hg
      · replace hg := it_neg cd hg
        refine ex_neg cd ?_
        refine ex_bind (mx_ck hM) ?_
        obtain ⟨r10, er10, hg⟩ := bd hg
        obtain ⟨hr10, qr10, hM⟩ := m_X6_swap hM er10
        refine ex_bind qr10 ?_
        exact m_X6_allocate_j69 hM hg
  · replace hg := it_neg cd hg
    refine ex_neg cd ?_
    exact ex_ret hg hM
def g_X6_allocate (h : Mm) (x1 x2 : Int) : Option (Int × Mm) :=
  Option.bind (g_X6_isCache h x1) fun r1 =>
  if r1.1 ≠ 0 then (
    Option.bind (g_X6_isIn r1.2 x2 0 3) fun r3 =>
    if r3.1 ≠ 0 then (
      g_X6_allocate_j27 r3.2 x1 x2 0
    ) else (
      g_X6_allocate_j27 r3.2 x1 x2 2
    )
  ) else (
    g_X6_allocate_j27 r1.2 x1 x2 1
  )
theorem m_X6_allocate {x0 : Int} {am : Nat → Nat} {h0 : Hp} {r : Int} {N' : Mm} {h : Hp} {N : Mm} {x1 x2 : Int} (hM : MX x0 am h0 h N) (hg : g_X6_allocate N x1 x2 = some (r, N')) : ∃ h', f_X6_allocate h x0 x1 x2 = some (r, h') ∧ MX x0 am h0 h' N' := by
  unfold g_X6_allocate at hg
  unfold f_X6_allocate
  refine ex_bind (mx_ck hM) ?_
  obtain ⟨r1, er1, hg⟩ := bd hg
  obtain ⟨hr1, qr1, hM⟩ := m_X6_isCache hM er1
  refine ex_bind qr1 ?_
  by_cases cd : r1.1 ≠ 0
  · replace hg := it_pos cd hg
    refine ex_pos cd ?_
    obtain ⟨r3, er3, hg⟩ := bd hg
    obtain ⟨hr3, qr3, hM⟩ := m_X6_isIn hM er3
    refine ex_bind qr3 ?_
    by_cases cd : r3.1 ≠ 0
    · replace hg := it_pos cd hg
      refine ex_pos cd ?_
      exact m_X6_allocate_j27 hM hg
    · replace hg := it_neg cd hg
      refine ex_neg cd ?_
      exact m_X6_allocate_j27 hM hg
  · replace hg := it_neg cd hg
    refine ex_neg cd ?_
    exact m_X6_allocate_j27 hM hg
def g_X6_isLive_j35 (h : Mm) (s0 : Int) : Option (Int × Mm) :=
  rtM s0 h
theorem m_X6_isLive_j35 {am : Nat → Nat} {h0 : Hp} {r : Int} {N' : Mm} {x0 : Int} {h : Hp} {N : Mm} {s0 : Int} (hM : MX x0 am h0 h N) (hg : g_X6_isLive_j35 N s0 = some (r, N')) : ∃ h', f_X6_isLive_j35 h s0 = some (r, h') ∧ MX x0 am h0 h' N' := by
  unfold g_X6_isLive_j35 at hg
  unfold f_X6_isLive_j35
  exact ex_rtB (P := MX x0 am h0) hg hM
def g_X6_isLive_j34 (h : Mm) : Option (Int × Mm) :=
  g_X6_isLive_j35 h 0
theorem m_X6_isLive_j34 {am : Nat → Nat} {h0 : Hp} {r : Int} {N' : Mm} {x0 : Int} {h : Hp} {N : Mm} (hM : MX x0 am h0 h N) (hg : g_X6_isLive_j34 N  = some (r, N')) : ∃ h', f_X6_isLive_j34 h  = some (r, h') ∧ MX x0 am h0 h' N' := by
  unfold g_X6_isLive_j34 at hg
  unfold f_X6_isLive_j34
  exact m_X6_isLive_j35 hM hg
def g_X6_isLive (h : Mm) (x1 : Int) : Option (Int × Mm) :=
  Option.bind (g_X6_isIn h x1 0 262143) fun r1 =>
  if r1.1 = 0 then (
    g_X6_isLive_j34 r1.2
  ) else (
    Option.bind (irm x1 8) fun v2 =>
    if v2 ≠ 0 then (
      g_X6_isLive_j34 r1.2
    ) else (
      Option.bind (idv x1 8) fun v4 =>
      Option.bind (mgt 18 r1.2 v4) fun v5 =>
      if v5 ≠ 2 then (
        g_X6_isLive_j34 r1.2
      ) else (
        g_X6_isLive_j35 r1.2 1
      )
    )
  )
theorem m_X6_isLive {x0 : Int} {am : Nat → Nat} {h0 : Hp} {r : Int} {N' : Mm} {h : Hp} {N : Mm} {x1 : Int} (hM : MX x0 am h0 h N) (hg : g_X6_isLive N x1 = some (r, N')) : ∃ h', f_X6_isLive h x0 x1 = some (r, h') ∧ MX x0 am h0 h' N' := by
  unfold g_X6_isLive at hg
  unfold f_X6_isLive
  obtain ⟨r1, er1, hg⟩ := bd hg
  obtain ⟨hr1, qr1, hM⟩ := m_X6_isIn hM er1
  refine ex_bind qr1 ?_
  by_cases cd : r1.1 = 0
  · replace hg := it_pos cd hg
    refine ex_pos cd ?_
    exact m_X6_isLive_j34 hM hg
  · replace hg := it_neg cd hg
    refine ex_neg cd ?_
    obtain ⟨v2, ev2, hg⟩ := bd hg
    refine ex_bind ev2 ?_
    by_cases cd : v2 ≠ 0
    · replace hg := it_pos cd hg
      refine ex_pos cd ?_
      exact m_X6_isLive_j34 hM hg
    · replace hg := it_neg cd hg
      refine ex_neg cd ?_
      refine ex_bind (mx_ref hM 18 (by decide)) ?_
      obtain ⟨v4, ev4, hg⟩ := bd hg
      refine ex_bind ev4 ?_
      obtain ⟨v5, ev5, hg⟩ := bd hg
      refine ex_bind (mx_ald hM (k := 18) (by decide) rfl ev5) ?_
      by_cases cd : v5 ≠ 2
      · replace hg := it_pos cd hg
        refine ex_pos cd ?_
        exact m_X6_isLive_j34 hM hg
      · replace hg := it_neg cd hg
        refine ex_neg cd ?_
        exact m_X6_isLive_j35 hM hg
def g_X6_cacheAt (h : Mm) (x1 : Int) : Option (Int × Mm) :=
  Option.bind (idv x1 1024) fun v3 =>
  Option.bind (mgt 2 h v3) fun v4 =>
  Option.bind (mgt 14 h v4) fun v5 =>
  some (v5, h)
theorem m_X6_cacheAt {x0 : Int} {am : Nat → Nat} {h0 : Hp} {r : Int} {N' : Mm} {h : Hp} {N : Mm} {x1 : Int} (hM : MX x0 am h0 h N) (hg : g_X6_cacheAt N x1 = some (r, N')) : ∃ h', f_X6_cacheAt h x0 x1 = some (r, h') ∧ MX x0 am h0 h' N' := by
  unfold g_X6_cacheAt at hg
  unfold f_X6_cacheAt
  refine ex_bind (mx_ref hM 14 (by decide)) ?_
  refine ex_bind (mx_ref hM 2 (by decide)) ?_
  obtain ⟨v3, ev3, hg⟩ := bd hg
  refine ex_bind ev3 ?_
  obtain ⟨v4, ev4, hg⟩ := bd hg
  refine ex_bind (mx_ald hM (k := 2) (by decide) rfl ev4) ?_
  obtain ⟨v5, ev5, hg⟩ := bd hg
  refine ex_bind (mx_ald hM (k := 14) (by decide) rfl ev5) ?_
  exact ex_ret hg hM
def g_X6_free_j276 (h : Mm) (x5 : Int) : Option (Int × Mm) :=
  some (x5, h)
theorem m_X6_free_j276 {am : Nat → Nat} {h0 : Hp} {r : Int} {N' : Mm} {x0 : Int} {h : Hp} {N : Mm} {x5 : Int} (hM : MX x0 am h0 h N) (hg : g_X6_free_j276 N x5 = some (r, N')) : ∃ h', f_X6_free_j276 h x5 = some (r, h') ∧ MX x0 am h0 h' N' := by
  unfold g_X6_free_j276 at hg
  unfold f_X6_free_j276
  exact ex_ret hg hM
def g_X6_free_j218 (h : Mm) (x4 x5 x6 : Int) : Option (Int × Mm) :=
  Option.bind (mgt 23 h x6) fun v27 =>
  if 4 ≤ v27 then (
    Option.bind (g_X6_toSlab h x4) fun r28 =>
    g_X6_free_j276 r28.2 x5
  ) else (
    Option.bind (mgt 23 h x6) fun v32 =>
    Option.bind (mst 24 h (wr ((wr (4 * x6)) + v32)) x4) fun h33 =>
    Option.bind (mgt 23 h33 x6) fun v35 =>
    Option.bind (mst 23 h33 x6 (wr (v35 + 1))) fun h36 =>
    Option.bind (mst 18 h36 x4 3) fun h38 =>
    g_X6_free_j276 h38 x5
  )
theorem m_X6_free_j218 {am : Nat → Nat} {h0 : Hp} {r : Int} {N' : Mm} {x0 : Int} {h : Hp} {N : Mm} {x4 x5 x6 : Int} (hM : MX x0 am h0 h N) (hg : g_X6_free_j218 N x4 x5 x6 = some (r, N')) : ∃ h', f_X6_free_j218 h x0 x4 x5 x6 = some (r, h') ∧ MX x0 am h0 h' N' := by
  unfold g_X6_free_j218 at hg
  unfold f_X6_free_j218
  refine ex_bind (mx_ref hM 23 (by decide)) ?_
  obtain ⟨v27, ev27, hg⟩ := bd hg
  refine ex_bind (mx_ald hM (k := 23) (by decide) rfl ev27) ?_
  by_cases cd : 4 ≤ v27
  · replace hg := it_pos cd hg
    refine ex_pos cd ?_
    refine ex_bind (mx_ck hM) ?_
    obtain ⟨r28, er28, hg⟩ := bd hg
    obtain ⟨hr28, qr28, hM⟩ := m_X6_toSlab hM er28
    refine ex_bind qr28 ?_
    exact m_X6_free_j276 hM hg
  · replace hg := it_neg cd hg
    refine ex_neg cd ?_
    refine ex_bind (mx_ref hM 24 (by decide)) ?_
    refine ex_bind (mx_ref hM 23 (by decide)) ?_
    obtain ⟨v32, ev32, hg⟩ := bd hg
    refine ex_bind (mx_ald hM (k := 23) (by decide) rfl ev32) ?_
    obtain ⟨Nh33, eh33, hg⟩ := bd hg
    obtain ⟨h33, qh33, hM⟩ := mx_ast hM (k := 24) (by decide) rfl eh33
    refine ex_bind qh33 ?_
    refine ex_bind (mx_ref hM 23 (by decide)) ?_
    obtain ⟨v35, ev35, hg⟩ := bd hg
    refine ex_bind (mx_ald hM (k := 23) (by decide) rfl ev35) ?_
    obtain ⟨Nh36, eh36, hg⟩ := bd hg
    obtain ⟨h36, qh36, hM⟩ := mx_ast hM (k := 23) (by decide) rfl eh36
    refine ex_bind qh36 ?_
    refine ex_bind (mx_ref hM 18 (by decide)) ?_
    obtain ⟨Nh38, eh38, hg⟩ := bd hg
    obtain ⟨h38, qh38, hM⟩ := mx_ast hM (k := 18) (by decide) rfl eh38
    refine ex_bind qh38 ?_
    exact m_X6_free_j276 hM hg
def g_X6_free_s142 (k142 : Mm → Int → Int → Int → Int → Option (Int × Mm)) (h : Mm) (x4 x5 x6 x7 : Int) : Option (Int × Mm) :=
  if 4 ≤ x7 then (
    Option.bind (mgt 25 h x5) fun v40 =>
    Option.bind (mst 25 h x5 (wr (v40 + 1))) fun h41 =>
    Option.bind (mst 23 h41 (wr (x6 + 1)) 0) fun h43 =>
    Option.bind (g_X6_swap h43 x6) fun r44 =>
    g_X6_free_j218 r44.2 x4 x5 x6
  ) else (
    Option.bind (mgt 25 h x5) fun v48 =>
    Option.bind (mgt 24 h (wr ((wr ((wr (4 * x6)) + 4)) + x7))) fun v50 =>
    Option.bind (mst 26 h (wr ((wr ((wr (12 * x5)) + (wr (4 * v48)))) + x7)) v50) fun h51 =>
    k142 h51 x4 x5 x6 (wr (x7 + 1))
  )
def g_X6_free_b142 : Nat → Mm → Int → Int → Int → Int → Option (Int × Mm)
  | 0, _, _, _, _, _ => none
  | n + 1, h, x4, x5, x6, x7 => g_X6_free_s142 (g_X6_free_b142 n) h x4 x5 x6 x7
theorem m_X6_free_s142 {am : Nat → Nat} {h0 : Hp} {r : Int} {N' : Mm} {x0 : Int} {kg142 : Mm → Int → Int → Int → Int → Option (Int × Mm)} {kf142 : Hp → Int → Int → Int → Int → Int → Option (Int × Hp)} (hk142 : ∀ {h : Hp} {N : Mm} {x4 x5 x6 x7 : Int}, MX x0 am h0 h N → kg142 N x4 x5 x6 x7 = some (r, N') → ∃ h', kf142 h x0 x4 x5 x6 x7 = some (r, h') ∧ MX x0 am h0 h' N') {h : Hp} {N : Mm} {x4 x5 x6 x7 : Int} (hM : MX x0 am h0 h N) (hg : g_X6_free_s142 kg142 N x4 x5 x6 x7 = some (r, N')) : ∃ h', f_X6_free_s142 kf142 h x0 x4 x5 x6 x7 = some (r, h') ∧ MX x0 am h0 h' N' := by
  unfold g_X6_free_s142 at hg
  unfold f_X6_free_s142
  by_cases cd : 4 ≤ x7
  · replace hg := it_pos cd hg
    refine ex_pos cd ?_
    refine ex_bind (mx_ref hM 25 (by decide)) ?_
    obtain ⟨v40, ev40, hg⟩ := bd hg
    refine ex_bind (mx_ald hM (k := 25) (by decide) rfl ev40) ?_
    obtain ⟨Nh41, eh41, hg⟩ := bd hg
    obtain ⟨h41, qh41, hM⟩ := mx_ast hM (k := 25) (by decide) rfl eh41
    refine ex_bind qh41 ?_
    refine ex_bind (mx_ref hM 23 (by decide)) ?_
    obtain ⟨Nh43, eh43, hg⟩ := bd hg
    obtain ⟨h43, qh43, hM⟩ := mx_ast hM (k := 23) (by decide) rfl eh43
    refine ex_bind qh43 ?_
    refine ex_bind (mx_ck hM) ?_
    obtain ⟨r44, er44, hg⟩ := bd hg
    obtain ⟨hr44, qr44, hM⟩ := m_X6_swap hM er44
    refine ex_bind qr44 ?_
    exact m_X6_free_j218 hM hg
  · replace hg := it_neg cd hg
    refine ex_neg cd ?_
    refine ex_bind (mx_ref hM 26 (by decide)) ?_
    refine ex_bind (mx_ref hM 25 (by decide)) ?_
    obtain ⟨v48, ev48, hg⟩ := bd hg
    refine ex_bind (mx_ald hM (k := 25) (by decide) rfl ev48) ?_
    refine ex_bind (mx_ref hM 24 (by decide)) ?_
    obtain ⟨v50, ev50, hg⟩ := bd hg
    refine ex_bind (mx_ald hM (k := 24) (by decide) rfl ev50) ?_
    obtain ⟨Nh51, eh51, hg⟩ := bd hg
    obtain ⟨h51, qh51, hM⟩ := mx_ast hM (k := 26) (by decide) rfl eh51
    refine ex_bind qh51 ?_
    exact hk142 hM hg
theorem m_X6_free_b142 {am : Nat → Nat} {h0 : Hp} {r : Int} {N' : Mm} {x0 : Int} {n : Nat} {h : Hp} {N : Mm} {x4 x5 x6 x7 : Int} (hM : MX x0 am h0 h N) (hg : g_X6_free_b142 n N x4 x5 x6 x7 = some (r, N')) : ∃ h', f_X6_free_b142 n h x0 x4 x5 x6 x7 = some (r, h') ∧ MX x0 am h0 h' N' := by
  induction n generalizing h N x4 x5 x6 x7 with
  | zero => exact absurd hg (fun q => nomatch (show (none : Option (Int × Mm)) = some (r, N') from q))
  | succ n ih => exact m_X6_free_s142 (fun hM hg => ih hM hg) hM hg
def g_X6_free_j117 (h : Mm) (x4 x5 x6 : Int) : Option (Int × Mm) :=
  Option.bind (mgt 23 h x6) fun v23 =>
  if v23 ≠ 4 then (
    g_X6_free_j218 h x4 x5 x6
  ) else (
    Option.bind (mgt 25 h x5) fun v25 =>
    if 3 ≤ v25 then (
      g_X6_free_j218 h x4 x5 x6
    ) else (
      g_X6_free_b142 fuel h x4 x5 x6 0
    )
  )
theorem m_X6_free_j117 {am : Nat → Nat} {h0 : Hp} {r : Int} {N' : Mm} {x0 : Int} {h : Hp} {N : Mm} {x4 x5 x6 : Int} (hM : MX x0 am h0 h N) (hg : g_X6_free_j117 N x4 x5 x6 = some (r, N')) : ∃ h', f_X6_free_j117 h x0 x4 x5 x6 = some (r, h') ∧ MX x0 am h0 h' N' := by
  unfold g_X6_free_j117 at hg
  unfold f_X6_free_j117
  refine ex_bind (mx_ref hM 23 (by decide)) ?_
  obtain ⟨v23, ev23, hg⟩ := bd hg
  refine ex_bind (mx_ald hM (k := 23) (by decide) rfl ev23) ?_
  by_cases cd : v23 ≠ 4
  · replace hg := it_pos cd hg
    refine ex_pos cd ?_
    exact m_X6_free_j218 hM hg
  · replace hg := it_neg cd hg
    refine ex_neg cd ?_
    refine ex_bind (mx_ref hM 25 (by decide)) ?_
    obtain ⟨v25, ev25, hg⟩ := bd hg
    refine ex_bind (mx_ald hM (k := 25) (by decide) rfl ev25) ?_
    by_cases cd : 3 ≤ v25
    · replace hg := it_pos cd hg
      refine ex_pos cd ?_
      exact m_X6_free_j218 hM hg
    · replace hg := it_neg cd hg
      refine ex_neg cd ?_
      exact m_X6_free_b142 hM hg
def g_X6_free_j52 (h : Mm) (x1 x2 s0 : Int) : Option (Int × Mm) :=
  Option.bind (g_X6_refused h s0) fun r11 =>
  if r11.1 = 0 then (
    Option.bind (idv x1 8) fun v13 =>
    Option.bind (g_X6_cacheAt r11.2 x1) fun r14 =>
    Option.bind (mgt 23 r14.2 (wr (2 * (wr ((wr (8 * x2)) + r14.1))))) fun v17 =>
    if v17 ≠ 4 then (
      g_X6_free_j117 r14.2 v13 r14.1 (wr (2 * (wr ((wr (8 * x2)) + r14.1))))
    ) else (
      Option.bind (mgt 23 r14.2 (wr ((wr (2 * (wr ((wr (8 * x2)) + r14.1)))) + 1))) fun v19 =>
      if 4 ≤ v19 then (
        g_X6_free_j117 r14.2 v13 r14.1 (wr (2 * (wr ((wr (8 * x2)) + r14.1))))
      ) else (
        Option.bind (g_X6_swap r14.2 (wr (2 * (wr ((wr (8 * x2)) + r14.1))))) fun r20 =>
        g_X6_free_j117 r20.2 v13 r14.1 (wr (2 * (wr ((wr (8 * x2)) + r14.1))))
      )
    )
  ) else (
    some (0, r11.2)
  )
theorem m_X6_free_j52 {am : Nat → Nat} {h0 : Hp} {r : Int} {N' : Mm} {x0 : Int} {h : Hp} {N : Mm} {x1 x2 s0 : Int} (hM : MX x0 am h0 h N) (hg : g_X6_free_j52 N x1 x2 s0 = some (r, N')) : ∃ h', f_X6_free_j52 h x0 x1 x2 s0 = some (r, h') ∧ MX x0 am h0 h' N' := by
  unfold g_X6_free_j52 at hg
  unfold f_X6_free_j52
  refine ex_bind (mx_ck hM) ?_
  obtain ⟨r11, er11, hg⟩ := bd hg
  obtain ⟨hr11, qr11, hM⟩ := m_X6_refused hM er11
  refine ex_bind qr11 ?_
  by_cases cd : r11.1 = 0
  · replace hg := it_pos cd hg
    refine ex_pos cd ?_
    obtain ⟨v13, ev13, hg⟩ := bd hg
    refine ex_bind ev13 ?_
    refine ex_bind (mx_ck hM) ?_
    obtain ⟨r14, er14, hg⟩ := bd hg
    obtain ⟨hr14, qr14, hM⟩ := m_X6_cacheAt hM er14
    refine ex_bind qr14 ?_
    refine ex_bind (mx_ref hM 23 (by decide)) ?_
    obtain ⟨v17, ev17, hg⟩ := bd hg
    refine ex_bind (mx_ald hM (k := 23) (by decide) rfl ev17) ?_
    by_cases cd : v17 ≠ 4
    · replace hg := it_pos cd hg
      refine ex_pos cd ?_
      exact m_X6_free_j117 hM hg
    · replace hg := it_neg cd hg
      refine ex_neg cd ?_
      refine ex_bind (mx_ref hM 23 (by decide)) ?_
      obtain ⟨v19, ev19, hg⟩ := bd hg
      refine ex_bind (mx_ald hM (k := 23) (by decide) rfl ev19) ?_
      by_cases cd : 4 ≤ v19
      · replace hg := it_pos cd hg
        refine ex_pos cd ?_
        exact m_X6_free_j117 hM hg
      · replace hg := it_neg cd hg
        refine ex_neg cd ?_
        refine ex_bind (mx_ck hM) ?_
        obtain ⟨r20, er20, hg⟩ := bd hg
        obtain ⟨hr20, qr20, hM⟩ := m_X6_swap hM er20
        refine ex_bind qr20 ?_
        exact m_X6_free_j117 hM hg
  · replace hg := it_neg cd hg
    refine ex_neg cd ?_
    exact ex_ret hg hM
def g_X6_free (h : Mm) (x1 x2 : Int) : Option (Int × Mm) :=
  Option.bind (g_X6_isLive h x1) fun r1 =>
  if r1.1 ≠ 0 then (
    Option.bind (g_X6_isIn r1.2 x2 0 3) fun r3 =>
    if r3.1 ≠ 0 then (
      Option.bind (idv x1 8) fun v5 =>
      Option.bind (mgt 20 r3.2 v5) fun v6 =>
      Option.bind (g_X6_cacheAt r3.2 x1) fun r8 =>
      Option.bind (mgt 8 r8.2 r8.1) fun v10 =>
      if v6 = v10 then (
        g_X6_free_j52 r8.2 x1 x2 0
      ) else (
        g_X6_free_j52 r8.2 x1 x2 3
      )
    ) else (
      g_X6_free_j52 r3.2 x1 x2 2
    )
  ) else (
    g_X6_free_j52 r1.2 x1 x2 1
  )
theorem m_X6_free {x0 : Int} {am : Nat → Nat} {h0 : Hp} {r : Int} {N' : Mm} {h : Hp} {N : Mm} {x1 x2 : Int} (hM : MX x0 am h0 h N) (hg : g_X6_free N x1 x2 = some (r, N')) : ∃ h', f_X6_free h x0 x1 x2 = some (r, h') ∧ MX x0 am h0 h' N' := by
  unfold g_X6_free at hg
  unfold f_X6_free
  refine ex_bind (mx_ck hM) ?_
  obtain ⟨r1, er1, hg⟩ := bd hg
  obtain ⟨hr1, qr1, hM⟩ := m_X6_isLive hM er1
  refine ex_bind qr1 ?_
  by_cases cd : r1.1 ≠ 0
  · replace hg := it_pos cd hg
    refine ex_pos cd ?_
    obtain ⟨r3, er3, hg⟩ := bd hg
    obtain ⟨hr3, qr3, hM⟩ := m_X6_isIn hM er3
    refine ex_bind qr3 ?_
    by_cases cd : r3.1 ≠ 0
    · replace hg := it_pos cd hg
      refine ex_pos cd ?_
      refine ex_bind (mx_ref hM 20 (by decide)) ?_
      obtain ⟨v5, ev5, hg⟩ := bd hg
      refine ex_bind ev5 ?_
      obtain ⟨v6, ev6, hg⟩ := bd hg
      refine ex_bind (mx_ald hM (k := 20) (by decide) rfl ev6) ?_
      refine ex_bind (mx_ref hM 8 (by decide)) ?_
      refine ex_bind (mx_ck hM) ?_
      obtain ⟨r8, er8, hg⟩ := bd hg
      obtain ⟨hr8, qr8, hM⟩ := m_X6_cacheAt hM er8
      refine ex_bind qr8 ?_
      obtain ⟨v10, ev10, hg⟩ := bd hg
      refine ex_bind (mx_ald hM (k := 8) (by decide) rfl ev10) ?_
      by_cases cd : v6 = v10
      · replace hg := it_pos cd hg
        refine ex_pos cd ?_
        exact m_X6_free_j52 hM hg
      · replace hg := it_neg cd hg
        refine ex_neg cd ?_
        exact m_X6_free_j52 hM hg
    · replace hg := it_neg cd hg
      refine ex_neg cd ?_
      exact m_X6_free_j52 hM hg
  · replace hg := it_neg cd hg
    refine ex_neg cd ?_
    exact m_X6_free_j52 hM hg
def g_X6_mark_j14 (h : Mm) (x1 x2 s1 : Int) : Option (Int × Mm) :=
  Option.bind (g_X6_refused h s1) fun r3 =>
  if r3.1 = 0 then (
    Option.bind (idv x1 8) fun v6 =>
    Option.bind (mgt 20 r3.2 v6) fun v7 =>
    Option.bind (idv x1 8) fun v9 =>
    Option.bind (mst 20 r3.2 v9 x2) fun h10 =>
    some (v7, h10)
  ) else (
    some (0, r3.2)
  )
theorem m_X6_mark_j14 {am : Nat → Nat} {h0 : Hp} {r : Int} {N' : Mm} {x0 : Int} {h : Hp} {N : Mm} {x1 x2 s1 : Int} (hM : MX x0 am h0 h N) (hg : g_X6_mark_j14 N x1 x2 s1 = some (r, N')) : ∃ h', f_X6_mark_j14 h x0 x1 x2 x0 s1 = some (r, h') ∧ MX x0 am h0 h' N' := by
  unfold g_X6_mark_j14 at hg
  unfold f_X6_mark_j14
  refine ex_bind (mx_ck hM) ?_
  obtain ⟨r3, er3, hg⟩ := bd hg
  obtain ⟨hr3, qr3, hM⟩ := m_X6_refused hM er3
  refine ex_bind qr3 ?_
  by_cases cd : r3.1 = 0
  · replace hg := it_pos cd hg
    refine ex_pos cd ?_
    refine ex_bind (mx_ref hM 20 (by decide)) ?_
    obtain ⟨v6, ev6, hg⟩ := bd hg
    refine ex_bind ev6 ?_
    obtain ⟨v7, ev7, hg⟩ := bd hg
    refine ex_bind (mx_ald hM (k := 20) (by decide) rfl ev7) ?_
    refine ex_bind (mx_ref hM 20 (by decide)) ?_
    obtain ⟨v9, ev9, hg⟩ := bd hg
    refine ex_bind ev9 ?_
    obtain ⟨Nh10, eh10, hg⟩ := bd hg
    obtain ⟨h10, qh10, hM⟩ := mx_ast hM (k := 20) (by decide) rfl eh10
    refine ex_bind qh10 ?_
    exact ex_ret hg hM
  · replace hg := it_neg cd hg
    refine ex_neg cd ?_
    exact ex_ret hg hM
def g_X6_mark (h : Mm) (x1 x2 : Int) : Option (Int × Mm) :=
  Option.bind (g_X6_isLive h x1) fun r1 =>
  if r1.1 = 0 then (
    g_X6_mark_j14 r1.2 x1 x2 1
  ) else (
    g_X6_mark_j14 r1.2 x1 x2 0
  )
theorem m_X6_mark {x0 : Int} {am : Nat → Nat} {h0 : Hp} {r : Int} {N' : Mm} {h : Hp} {N : Mm} {x1 x2 : Int} (hM : MX x0 am h0 h N) (hg : g_X6_mark N x1 x2 = some (r, N')) : ∃ h', f_X6_mark h x0 x1 x2 = some (r, h') ∧ MX x0 am h0 h' N' := by
  unfold g_X6_mark at hg
  unfold f_X6_mark
  refine ex_bind (mx_ck hM) ?_
  obtain ⟨r1, er1, hg⟩ := bd hg
  obtain ⟨hr1, qr1, hM⟩ := m_X6_isLive hM er1
  refine ex_bind qr1 ?_
  by_cases cd : r1.1 = 0
  · replace hg := it_pos cd hg
    refine ex_pos cd ?_
    exact m_X6_mark_j14 hM hg
  · replace hg := it_neg cd hg
    refine ex_neg cd ?_
    exact m_X6_mark_j14 hM hg
def g_X6_flush_s27 (k27 : Mm → Int → Int → Int → Option (Int × Mm)) (h : Mm) (x1 x2 x3 : Int) : Option (Int × Mm) :=
  Option.bind (some (h 3 0)) fun v4 =>
  if v4 ≤ x3 then (
    some (x2, h)
  ) else (
    Option.bind (g_X6_emptyHeld h (wr (2 * (wr ((wr (8 * x1)) + x3))))) fun r5 =>
    Option.bind (g_X6_emptyHeld r5.2 (wr ((wr (2 * (wr ((wr (8 * x1)) + x3)))) + 1))) fun r7 =>
    k27 r7.2 x1 (wr ((wr (x2 + r5.1)) + r7.1)) (wr (x3 + 1))
  )
def g_X6_flush_b27 : Nat → Mm → Int → Int → Int → Option (Int × Mm)
  | 0, _, _, _, _ => none
  | n + 1, h, x1, x2, x3 => g_X6_flush_s27 (g_X6_flush_b27 n) h x1 x2 x3
theorem m_X6_flush_s27 {am : Nat → Nat} {h0 : Hp} {r : Int} {N' : Mm} {x0 : Int} {kg27 : Mm → Int → Int → Int → Option (Int × Mm)} {kf27 : Hp → Int → Int → Int → Int → Option (Int × Hp)} (hk27 : ∀ {h : Hp} {N : Mm} {x1 x2 x3 : Int}, MX x0 am h0 h N → kg27 N x1 x2 x3 = some (r, N') → ∃ h', kf27 h x0 x1 x2 x3 = some (r, h') ∧ MX x0 am h0 h' N') {h : Hp} {N : Mm} {x1 x2 x3 : Int} (hM : MX x0 am h0 h N) (hg : g_X6_flush_s27 kg27 N x1 x2 x3 = some (r, N')) : ∃ h', f_X6_flush_s27 kf27 h x0 x1 x2 x3 = some (r, h') ∧ MX x0 am h0 h' N' := by
  unfold g_X6_flush_s27 at hg
  unfold f_X6_flush_s27
  obtain ⟨v4, ev4, hg⟩ := bd hg
  replace ev4 := Option.some.inj ev4
  refine ex_bind (v := v4) (by rw [← ev4]; exact mx_f3 hM) ?_
  by_cases cd : v4 ≤ x3
  · replace hg := it_pos cd hg
    refine ex_pos cd ?_
    exact ex_ret hg hM
  · replace hg := it_neg cd hg
    refine ex_neg cd ?_
    refine ex_bind (mx_ck hM) ?_
    obtain ⟨r5, er5, hg⟩ := bd hg
    obtain ⟨hr5, qr5, hM⟩ := m_X6_emptyHeld hM er5
    refine ex_bind qr5 ?_
    refine ex_bind (mx_ck hM) ?_
    obtain ⟨r7, er7, hg⟩ := bd hg
    obtain ⟨hr7, qr7, hM⟩ := m_X6_emptyHeld hM er7
    refine ex_bind qr7 ?_
    exact hk27 hM hg
theorem m_X6_flush_b27 {am : Nat → Nat} {h0 : Hp} {r : Int} {N' : Mm} {x0 : Int} {n : Nat} {h : Hp} {N : Mm} {x1 x2 x3 : Int} (hM : MX x0 am h0 h N) (hg : g_X6_flush_b27 n N x1 x2 x3 = some (r, N')) : ∃ h', f_X6_flush_b27 n h x0 x1 x2 x3 = some (r, h') ∧ MX x0 am h0 h' N' := by
  induction n generalizing h N x1 x2 x3 with
  | zero => exact absurd hg (fun q => nomatch (show (none : Option (Int × Mm)) = some (r, N') from q))
  | succ n ih => exact m_X6_flush_s27 (fun hM hg => ih hM hg) hM hg
def g_X6_flush_j15 (h : Mm) (x1 s1 : Int) : Option (Int × Mm) :=
  Option.bind (g_X6_refused h s1) fun r2 =>
  if r2.1 = 0 then (
    g_X6_flush_b27 fuel r2.2 x1 0 0
  ) else (
    some (0, r2.2)
  )
theorem m_X6_flush_j15 {am : Nat → Nat} {h0 : Hp} {r : Int} {N' : Mm} {x0 : Int} {h : Hp} {N : Mm} {x1 s1 : Int} (hM : MX x0 am h0 h N) (hg : g_X6_flush_j15 N x1 s1 = some (r, N')) : ∃ h', f_X6_flush_j15 h x0 x1 x0 s1 = some (r, h') ∧ MX x0 am h0 h' N' := by
  unfold g_X6_flush_j15 at hg
  unfold f_X6_flush_j15
  refine ex_bind (mx_ck hM) ?_
  obtain ⟨r2, er2, hg⟩ := bd hg
  obtain ⟨hr2, qr2, hM⟩ := m_X6_refused hM er2
  refine ex_bind qr2 ?_
  by_cases cd : r2.1 = 0
  · replace hg := it_pos cd hg
    refine ex_pos cd ?_
    exact m_X6_flush_b27 hM hg
  · replace hg := it_neg cd hg
    refine ex_neg cd ?_
    exact ex_ret hg hM
def g_X6_flush (h : Mm) (x1 : Int) : Option (Int × Mm) :=
  Option.bind (g_X6_isIn h x1 0 3) fun r1 =>
  if r1.1 = 0 then (
    g_X6_flush_j15 r1.2 x1 1
  ) else (
    g_X6_flush_j15 r1.2 x1 0
  )
theorem m_X6_flush {x0 : Int} {am : Nat → Nat} {h0 : Hp} {r : Int} {N' : Mm} {h : Hp} {N : Mm} {x1 : Int} (hM : MX x0 am h0 h N) (hg : g_X6_flush N x1 = some (r, N')) : ∃ h', f_X6_flush h x0 x1 = some (r, h') ∧ MX x0 am h0 h' N' := by
  unfold g_X6_flush at hg
  unfold f_X6_flush
  obtain ⟨r1, er1, hg⟩ := bd hg
  obtain ⟨hr1, qr1, hM⟩ := m_X6_isIn hM er1
  refine ex_bind qr1 ?_
  by_cases cd : r1.1 = 0
  · replace hg := it_pos cd hg
    refine ex_pos cd ?_
    exact m_X6_flush_j15 hM hg
  · replace hg := it_neg cd hg
    refine ex_neg cd ?_
    exact m_X6_flush_j15 hM hg
def g_X6_empty_j29 (h : Mm) (s0 : Int) : Option (Int × Mm) :=
  some (s0, h)
theorem m_X6_empty_j29 {am : Nat → Nat} {h0 : Hp} {r : Int} {N' : Mm} {x0 : Int} {h : Hp} {N : Mm} {s0 : Int} (hM : MX x0 am h0 h N) (hg : g_X6_empty_j29 N s0 = some (r, N')) : ∃ h', f_X6_empty_j29 h s0 = some (r, h') ∧ MX x0 am h0 h' N' := by
  unfold g_X6_empty_j29 at hg
  unfold f_X6_empty_j29
  exact ex_ret hg hM
def g_X6_empty_j14 (h : Mm) (x1 s1 : Int) : Option (Int × Mm) :=
  Option.bind (g_X6_refused h s1) fun r3 =>
  if r3.1 = 0 then (
    Option.bind (g_X6_emptyDepot r3.2 x1) fun r5 =>
    g_X6_empty_j29 r5.2 r5.1
  ) else (
    g_X6_empty_j29 r3.2 0
  )
theorem m_X6_empty_j14 {am : Nat → Nat} {h0 : Hp} {r : Int} {N' : Mm} {x0 : Int} {h : Hp} {N : Mm} {x1 s1 : Int} (hM : MX x0 am h0 h N) (hg : g_X6_empty_j14 N x1 s1 = some (r, N')) : ∃ h', f_X6_empty_j14 h x0 x1 x0 s1 = some (r, h') ∧ MX x0 am h0 h' N' := by
  unfold g_X6_empty_j14 at hg
  unfold f_X6_empty_j14
  refine ex_bind (mx_ck hM) ?_
  obtain ⟨r3, er3, hg⟩ := bd hg
  obtain ⟨hr3, qr3, hM⟩ := m_X6_refused hM er3
  refine ex_bind qr3 ?_
  by_cases cd : r3.1 = 0
  · replace hg := it_pos cd hg
    refine ex_pos cd ?_
    refine ex_bind (mx_ck hM) ?_
    obtain ⟨r5, er5, hg⟩ := bd hg
    obtain ⟨hr5, qr5, hM⟩ := m_X6_emptyDepot hM er5
    refine ex_bind qr5 ?_
    exact m_X6_empty_j29 hM hg
  · replace hg := it_neg cd hg
    refine ex_neg cd ?_
    exact m_X6_empty_j29 hM hg
def g_X6_empty (h : Mm) (x1 : Int) : Option (Int × Mm) :=
  Option.bind (g_X6_isCache h x1) fun r1 =>
  if r1.1 = 0 then (
    g_X6_empty_j14 r1.2 x1 1
  ) else (
    g_X6_empty_j14 r1.2 x1 0
  )
theorem m_X6_empty {x0 : Int} {am : Nat → Nat} {h0 : Hp} {r : Int} {N' : Mm} {h : Hp} {N : Mm} {x1 : Int} (hM : MX x0 am h0 h N) (hg : g_X6_empty N x1 = some (r, N')) : ∃ h', f_X6_empty h x0 x1 = some (r, h') ∧ MX x0 am h0 h' N' := by
  unfold g_X6_empty at hg
  unfold f_X6_empty
  refine ex_bind (mx_ck hM) ?_
  obtain ⟨r1, er1, hg⟩ := bd hg
  obtain ⟨hr1, qr1, hM⟩ := m_X6_isCache hM er1
  refine ex_bind qr1 ?_
  by_cases cd : r1.1 = 0
  · replace hg := it_pos cd hg
    refine ex_pos cd ?_
    exact m_X6_empty_j14 hM hg
  · replace hg := it_neg cd hg
    refine ex_neg cd ?_
    exact m_X6_empty_j14 hM hg
def g_X6_reap (h : Mm) : Option (Int × Mm) :=
  Option.bind (some (mup h 0 0 0)) fun h1 =>
  Option.bind (g_X6_reapAll h1) fun r2 =>
  some (r2.1, r2.2)
theorem m_X6_reap {x0 : Int} {am : Nat → Nat} {h0 : Hp} {r : Int} {N' : Mm} {h : Hp} {N : Mm} (hM : MX x0 am h0 h N) (hg : g_X6_reap N = some (r, N')) : ∃ h', f_X6_reap h x0 = some (r, h') ∧ MX x0 am h0 h' N' := by
  unfold g_X6_reap at hg
  unfold f_X6_reap
  obtain ⟨Nh1, eh1, hg⟩ := bd hg
  cases eh1
  obtain ⟨h1, qh1, hM⟩ := mx_put hM (k := 0) (by decide) 0
  refine ex_bind qh1 ?_
  refine ex_bind (mx_ck hM) ?_
  obtain ⟨r2, er2, hg⟩ := bd hg
  obtain ⟨hr2, qr2, hM⟩ := m_X6_reapAll hM er2
  refine ex_bind qr2 ?_
  exact ex_ret hg hM
def g_X6_slabAt_j24 (h : Mm) (s0 : Int) : Option (Int × Mm) :=
  some (s0, h)
theorem m_X6_slabAt_j24 {am : Nat → Nat} {h0 : Hp} {r : Int} {N' : Mm} {x0 : Int} {h : Hp} {N : Mm} {s0 : Int} (hM : MX x0 am h0 h N) (hg : g_X6_slabAt_j24 N s0 = some (r, N')) : ∃ h', f_X6_slabAt_j24 h s0 = some (r, h') ∧ MX x0 am h0 h' N' := by
  unfold g_X6_slabAt_j24 at hg
  unfold f_X6_slabAt_j24
  exact ex_ret hg hM
def g_X6_slabAt (h : Mm) (x1 : Int) : Option (Int × Mm) :=
  Option.bind (g_X6_isIn h x1 0 262143) fun r1 =>
  if r1.1 = 0 then (
    g_X6_slabAt_j24 r1.2 (-1)
  ) else (
    Option.bind (idv x1 1024) fun v3 =>
    Option.bind (mgt 2 r1.2 v3) fun v4 =>
    g_X6_slabAt_j24 r1.2 v4
  )
theorem m_X6_slabAt {x0 : Int} {am : Nat → Nat} {h0 : Hp} {r : Int} {N' : Mm} {h : Hp} {N : Mm} {x1 : Int} (hM : MX x0 am h0 h N) (hg : g_X6_slabAt N x1 = some (r, N')) : ∃ h', f_X6_slabAt h x0 x1 = some (r, h') ∧ MX x0 am h0 h' N' := by
  unfold g_X6_slabAt at hg
  unfold f_X6_slabAt
  obtain ⟨r1, er1, hg⟩ := bd hg
  obtain ⟨hr1, qr1, hM⟩ := m_X6_isIn hM er1
  refine ex_bind qr1 ?_
  by_cases cd : r1.1 = 0
  · replace hg := it_pos cd hg
    refine ex_pos cd ?_
    exact m_X6_slabAt_j24 hM hg
  · replace hg := it_neg cd hg
    refine ex_neg cd ?_
    refine ex_bind (mx_ref hM 2 (by decide)) ?_
    obtain ⟨v3, ev3, hg⟩ := bd hg
    refine ex_bind ev3 ?_
    obtain ⟨v4, ev4, hg⟩ := bd hg
    refine ex_bind (mx_ald hM (k := 2) (by decide) rfl ev4) ?_
    exact m_X6_slabAt_j24 hM hg
def g_X6_cacheOf_j25 (h : Mm) (s0 : Int) : Option (Int × Mm) :=
  some (s0, h)
theorem m_X6_cacheOf_j25 {am : Nat → Nat} {h0 : Hp} {r : Int} {N' : Mm} {x0 : Int} {h : Hp} {N : Mm} {s0 : Int} (hM : MX x0 am h0 h N) (hg : g_X6_cacheOf_j25 N s0 = some (r, N')) : ∃ h', f_X6_cacheOf_j25 h s0 = some (r, h') ∧ MX x0 am h0 h' N' := by
  unfold g_X6_cacheOf_j25 at hg
  unfold f_X6_cacheOf_j25
  exact ex_ret hg hM
def g_X6_cacheOf (h : Mm) (x1 : Int) : Option (Int × Mm) :=
  Option.bind (some (mup h 0 0 0)) fun h1 =>
  Option.bind (g_X6_slabAt h1 x1) fun r2 =>
  if 0 ≤ r2.1 then (
    Option.bind (mgt 14 r2.2 r2.1) fun v5 =>
    g_X6_cacheOf_j25 r2.2 v5
  ) else (
    g_X6_cacheOf_j25 r2.2 (-1)
  )
theorem m_X6_cacheOf {x0 : Int} {am : Nat → Nat} {h0 : Hp} {r : Int} {N' : Mm} {h : Hp} {N : Mm} {x1 : Int} (hM : MX x0 am h0 h N) (hg : g_X6_cacheOf N x1 = some (r, N')) : ∃ h', f_X6_cacheOf h x0 x1 = some (r, h') ∧ MX x0 am h0 h' N' := by
  unfold g_X6_cacheOf at hg
  unfold f_X6_cacheOf
  obtain ⟨Nh1, eh1, hg⟩ := bd hg
  cases eh1
  obtain ⟨h1, qh1, hM⟩ := mx_put hM (k := 0) (by decide) 0
  refine ex_bind qh1 ?_
  refine ex_bind (mx_ck hM) ?_
  obtain ⟨r2, er2, hg⟩ := bd hg
  obtain ⟨hr2, qr2, hM⟩ := m_X6_slabAt hM er2
  refine ex_bind qr2 ?_
  by_cases cd : 0 ≤ r2.1
  · replace hg := it_pos cd hg
    refine ex_pos cd ?_
    refine ex_bind (mx_ref hM 14 (by decide)) ?_
    obtain ⟨v5, ev5, hg⟩ := bd hg
    refine ex_bind (mx_ald hM (k := 14) (by decide) rfl ev5) ?_
    exact m_X6_cacheOf_j25 hM hg
  · replace hg := it_neg cd hg
    refine ex_neg cd ?_
    exact m_X6_cacheOf_j25 hM hg
def g_X6_objectOf_j87 (k27 : Mm → Int → Int → Int → Int → Option (Int × Mm)) (h : Mm) (x1 x2 x3 x4 : Int) : Option (Int × Mm) :=
  k27 h x1 x2 x3 (wr (x4 + 1))
theorem m_X6_objectOf_j87 {am : Nat → Nat} {h0 : Hp} {r : Int} {N' : Mm} {x0 : Int} {kg27 : Mm → Int → Int → Int → Int → Option (Int × Mm)} {kf27 : Hp → Int → Int → Int → Int → Int → Option (Int × Hp)} (hk27 : ∀ {h : Hp} {N : Mm} {x1 x2 x3 x4 : Int}, MX x0 am h0 h N → kg27 N x1 x2 x3 x4 = some (r, N') → ∃ h', kf27 h x0 x1 x2 x3 x4 = some (r, h') ∧ MX x0 am h0 h' N') {h : Hp} {N : Mm} {x1 x2 x3 x4 : Int} (hM : MX x0 am h0 h N) (hg : g_X6_objectOf_j87 kg27 N x1 x2 x3 x4 = some (r, N')) : ∃ h', f_X6_objectOf_j87 kf27 h x0 x1 x2 x3 x4 = some (r, h') ∧ MX x0 am h0 h' N' := by
  unfold g_X6_objectOf_j87 at hg
  unfold f_X6_objectOf_j87
  exact hk27 hM hg
def g_X6_objectOf_s27 (k27 : Mm → Int → Int → Int → Int → Option (Int × Mm)) (h : Mm) (x1 x2 x3 x4 : Int) : Option (Int × Mm) :=
  Option.bind (mgt 10 h x3) fun v7 =>
  if v7 ≤ x4 then (
    some ((-1), h)
  ) else (
    Option.bind (g_X6_unitOf h x2 x4) fun r8 =>
    Option.bind (idv (wr (8 * r8.1)) 8) fun v11 =>
    Option.bind (mgt 18 r8.2 v11) fun v12 =>
    if v12 ≠ 2 then (
      g_X6_objectOf_j87 k27 r8.2 x1 x2 x3 x4
    ) else (
      Option.bind (mgt 5 r8.2 x3) fun v14 =>
      Option.bind (g_X6_isIn r8.2 x1 (wr (8 * r8.1)) (wr ((wr ((wr (8 * r8.1)) + v14)) - 1))) fun r15 =>
      if r15.1 = 0 then (
        g_X6_objectOf_j87 k27 r15.2 x1 x2 x3 x4
      ) else (
        some (wr (8 * r8.1), r15.2)
      )
    )
  )
def g_X6_objectOf_b27 : Nat → Mm → Int → Int → Int → Int → Option (Int × Mm)
  | 0, _, _, _, _, _ => none
  | n + 1, h, x1, x2, x3, x4 => g_X6_objectOf_s27 (g_X6_objectOf_b27 n) h x1 x2 x3 x4
theorem m_X6_objectOf_s27 {am : Nat → Nat} {h0 : Hp} {r : Int} {N' : Mm} {x0 : Int} {kg27 : Mm → Int → Int → Int → Int → Option (Int × Mm)} {kf27 : Hp → Int → Int → Int → Int → Int → Option (Int × Hp)} (hk27 : ∀ {h : Hp} {N : Mm} {x1 x2 x3 x4 : Int}, MX x0 am h0 h N → kg27 N x1 x2 x3 x4 = some (r, N') → ∃ h', kf27 h x0 x1 x2 x3 x4 = some (r, h') ∧ MX x0 am h0 h' N') {h : Hp} {N : Mm} {x1 x2 x3 x4 : Int} (hM : MX x0 am h0 h N) (hg : g_X6_objectOf_s27 kg27 N x1 x2 x3 x4 = some (r, N')) : ∃ h', f_X6_objectOf_s27 kf27 h x0 x1 x2 x3 x4 = some (r, h') ∧ MX x0 am h0 h' N' := by
  unfold g_X6_objectOf_s27 at hg
  unfold f_X6_objectOf_s27
  refine ex_bind (mx_ref hM 10 (by decide)) ?_
  obtain ⟨v7, ev7, hg⟩ := bd hg
  refine ex_bind (mx_ald hM (k := 10) (by decide) rfl ev7) ?_
  by_cases cd : v7 ≤ x4
  · replace hg := it_pos cd hg
    refine ex_pos cd ?_
    exact ex_ret hg hM
  · replace hg := it_neg cd hg
    refine ex_neg cd ?_
    refine ex_bind (mx_ck hM) ?_
    obtain ⟨r8, er8, hg⟩ := bd hg
    obtain ⟨hr8, qr8, hM⟩ := m_X6_unitOf hM er8
    refine ex_bind qr8 ?_
    refine ex_bind (mx_ref hM 18 (by decide)) ?_
    obtain ⟨v11, ev11, hg⟩ := bd hg
    refine ex_bind ev11 ?_
    obtain ⟨v12, ev12, hg⟩ := bd hg
    refine ex_bind (mx_ald hM (k := 18) (by decide) rfl ev12) ?_
    by_cases cd : v12 ≠ 2
    · replace hg := it_pos cd hg
      refine ex_pos cd ?_
      exact m_X6_objectOf_j87 hk27 hM hg
    · replace hg := it_neg cd hg
      refine ex_neg cd ?_
      refine ex_bind (mx_ref hM 5 (by decide)) ?_
      obtain ⟨v14, ev14, hg⟩ := bd hg
      refine ex_bind (mx_ald hM (k := 5) (by decide) rfl ev14) ?_
      obtain ⟨r15, er15, hg⟩ := bd hg
      obtain ⟨hr15, qr15, hM⟩ := m_X6_isIn hM er15
      refine ex_bind qr15 ?_
      by_cases cd : r15.1 = 0
      · replace hg := it_pos cd hg
        refine ex_pos cd ?_
        exact m_X6_objectOf_j87 hk27 hM hg
      · replace hg := it_neg cd hg
        refine ex_neg cd ?_
        exact ex_ret hg hM
theorem m_X6_objectOf_b27 {am : Nat → Nat} {h0 : Hp} {r : Int} {N' : Mm} {x0 : Int} {n : Nat} {h : Hp} {N : Mm} {x1 x2 x3 x4 : Int} (hM : MX x0 am h0 h N) (hg : g_X6_objectOf_b27 n N x1 x2 x3 x4 = some (r, N')) : ∃ h', f_X6_objectOf_b27 n h x0 x1 x2 x3 x4 = some (r, h') ∧ MX x0 am h0 h' N' := by
  induction n generalizing h N x1 x2 x3 x4 with
  | zero => exact absurd hg (fun q => nomatch (show (none : Option (Int × Mm)) = some (r, N') from q))
  | succ n ih => exact m_X6_objectOf_s27 (fun hM hg => ih hM hg) hM hg
def g_X6_objectOf (h : Mm) (x1 : Int) : Option (Int × Mm) :=
  Option.bind (some (mup h 0 0 0)) fun h1 =>
  Option.bind (g_X6_slabAt h1 x1) fun r2 =>
  if 0 ≤ r2.1 then (
    Option.bind (mgt 14 r2.2 r2.1) fun v5 =>
    g_X6_objectOf_b27 fuel r2.2 x1 r2.1 v5 0
  ) else (
    some ((-1), r2.2)
  )
theorem m_X6_objectOf {x0 : Int} {am : Nat → Nat} {h0 : Hp} {r : Int} {N' : Mm} {h : Hp} {N : Mm} {x1 : Int} (hM : MX x0 am h0 h N) (hg : g_X6_objectOf N x1 = some (r, N')) : ∃ h', f_X6_objectOf h x0 x1 = some (r, h') ∧ MX x0 am h0 h' N' := by
  unfold g_X6_objectOf at hg
  unfold f_X6_objectOf
  obtain ⟨Nh1, eh1, hg⟩ := bd hg
  cases eh1
  obtain ⟨h1, qh1, hM⟩ := mx_put hM (k := 0) (by decide) 0
  refine ex_bind qh1 ?_
  refine ex_bind (mx_ck hM) ?_
  obtain ⟨r2, er2, hg⟩ := bd hg
  obtain ⟨hr2, qr2, hM⟩ := m_X6_slabAt hM er2
  refine ex_bind qr2 ?_
  by_cases cd : 0 ≤ r2.1
  · replace hg := it_pos cd hg
    refine ex_pos cd ?_
    refine ex_bind (mx_ref hM 14 (by decide)) ?_
    obtain ⟨v5, ev5, hg⟩ := bd hg
    refine ex_bind (mx_ald hM (k := 14) (by decide) rfl ev5) ?_
    exact m_X6_objectOf_b27 hM hg
  · replace hg := it_neg cd hg
    refine ex_neg cd ?_
    exact ex_ret hg hM
def g_X6_about_j88 (h : Mm) (s0 : Int) : Option (Int × Mm) :=
  some (s0, h)
theorem m_X6_about_j88 {am : Nat → Nat} {h0 : Hp} {r : Int} {N' : Mm} {x0 : Int} {h : Hp} {N : Mm} {s0 : Int} (hM : MX x0 am h0 h N) (hg : g_X6_about_j88 N s0 = some (r, N')) : ∃ h', f_X6_about_j88 h s0 = some (r, h') ∧ MX x0 am h0 h' N' := by
  unfold g_X6_about_j88 at hg
  unfold f_X6_about_j88
  exact ex_ret hg hM
def g_X6_about_j223 (h : Mm) (s0 : Int) : Option (Int × Mm) :=
  some (s0, h)
theorem m_X6_about_j223 {am : Nat → Nat} {h0 : Hp} {r : Int} {N' : Mm} {x0 : Int} {h : Hp} {N : Mm} {s0 : Int} (hM : MX x0 am h0 h N) (hg : g_X6_about_j223 N s0 = some (r, N')) : ∃ h', f_X6_about_j223 h s0 = some (r, h') ∧ MX x0 am h0 h' N' := by
  unfold g_X6_about_j223 at hg
  unfold f_X6_about_j223
  exact ex_ret hg hM
def g_X6_about_j152 (h : Mm) (x1 x2 x3 : Int) : Option (Int × Mm) :=
  Option.bind (mgt 21 h (wr (3 * x1))) fun v17 =>
  Option.bind (mgt 21 h (wr ((wr (3 * x1)) + 1))) fun v19 =>
  Option.bind (mgt 21 h (wr ((wr (3 * x1)) + 2))) fun v21 =>
  if x2 ≠ 4 then (
    if x2 ≠ 5 then (
      if x2 ≠ 6 then (
        Option.bind (mgt 13 h x1) fun v23 =>
        g_X6_about_j223 h v23
      ) else (
        g_X6_about_j223 h x3
      )
    ) else (
      Option.bind (g_X6_liveOf h x1) fun r24 =>
      g_X6_about_j223 r24.2 r24.1
    )
  ) else (
    g_X6_about_j223 h (wr ((wr (v17 + v19)) + v21))
  )
theorem m_X6_about_j152 {am : Nat → Nat} {h0 : Hp} {r : Int} {N' : Mm} {x0 : Int} {h : Hp} {N : Mm} {x1 x2 x3 : Int} (hM : MX x0 am h0 h N) (hg : g_X6_about_j152 N x1 x2 x3 = some (r, N')) : ∃ h', f_X6_about_j152 h x0 x1 x2 x3 = some (r, h') ∧ MX x0 am h0 h' N' := by
  unfold g_X6_about_j152 at hg
  unfold f_X6_about_j152
  refine ex_bind (mx_ref hM 21 (by decide)) ?_
  obtain ⟨v17, ev17, hg⟩ := bd hg
  refine ex_bind (mx_ald hM (k := 21) (by decide) rfl ev17) ?_
  refine ex_bind (mx_ref hM 21 (by decide)) ?_
  obtain ⟨v19, ev19, hg⟩ := bd hg
  refine ex_bind (mx_ald hM (k := 21) (by decide) rfl ev19) ?_
  refine ex_bind (mx_ref hM 21 (by decide)) ?_
  obtain ⟨v21, ev21, hg⟩ := bd hg
  refine ex_bind (mx_ald hM (k := 21) (by decide) rfl ev21) ?_
  by_cases cd : x2 ≠ 4
  · replace hg := it_pos cd hg
    refine ex_pos cd ?_
    by_cases cd : x2 ≠ 5
    · replace hg := it_pos cd hg
      refine ex_pos cd ?_
      by_cases cd : x2 ≠ 6
      · replace hg := it_pos cd hg
        refine ex_pos cd ?_
        refine ex_bind (mx_ref hM 13 (by decide)) ?_
        obtain ⟨v23, ev23, hg⟩ := bd hg
        refine ex_bind (mx_ald hM (k := 13) (by decide) rfl ev23) ?_
        exact m_X6_about_j223 hM hg
      · replace hg := it_neg cd hg
        refine ex_neg cd ?_
        exact m_X6_about_j223 hM hg
    · replace hg := it_neg cd hg
      refine ex_neg cd ?_
      refine ex_bind (mx_ck hM) ?_
      obtain ⟨r24, er24, hg⟩ := bd hg
      obtain ⟨hr24, qr24, hM⟩ := m_X6_liveOf hM er24
      refine ex_bind qr24 ?_
      exact m_X6_about_j223 hM hg
  · replace hg := it_neg cd hg
    refine ex_neg cd ?_
    exact m_X6_about_j223 hM hg
def g_X6_about_s109 (k109 : Mm → Int → Int → Int → Int → Option (Int × Mm)) (h : Mm) (x1 x2 x3 x4 : Int) : Option (Int × Mm) :=
  if 4 ≤ x4 then (
    g_X6_about_j152 h x1 x2 x3
  ) else (
    Option.bind (mgt 23 h (wr (2 * (wr ((wr (8 * x4)) + x1))))) fun v27 =>
    Option.bind (mgt 23 h (wr ((wr (2 * (wr ((wr (8 * x4)) + x1)))) + 1))) fun v29 =>
    k109 h x1 x2 (wr ((wr (x3 + v27)) + v29)) (wr (x4 + 1))
  )
def g_X6_about_b109 : Nat → Mm → Int → Int → Int → Int → Option (Int × Mm)
  | 0, _, _, _, _, _ => none
  | n + 1, h, x1, x2, x3, x4 => g_X6_about_s109 (g_X6_about_b109 n) h x1 x2 x3 x4
theorem m_X6_about_s109 {am : Nat → Nat} {h0 : Hp} {r : Int} {N' : Mm} {x0 : Int} {kg109 : Mm → Int → Int → Int → Int → Option (Int × Mm)} {kf109 : Hp → Int → Int → Int → Int → Int → Option (Int × Hp)} (hk109 : ∀ {h : Hp} {N : Mm} {x1 x2 x3 x4 : Int}, MX x0 am h0 h N → kg109 N x1 x2 x3 x4 = some (r, N') → ∃ h', kf109 h x0 x1 x2 x3 x4 = some (r, h') ∧ MX x0 am h0 h' N') {h : Hp} {N : Mm} {x1 x2 x3 x4 : Int} (hM : MX x0 am h0 h N) (hg : g_X6_about_s109 kg109 N x1 x2 x3 x4 = some (r, N')) : ∃ h', f_X6_about_s109 kf109 h x0 x1 x2 x3 x4 = some (r, h') ∧ MX x0 am h0 h' N' := by
  unfold g_X6_about_s109 at hg
  unfold f_X6_about_s109
  by_cases cd : 4 ≤ x4
  · replace hg := it_pos cd hg
    refine ex_pos cd ?_
    exact m_X6_about_j152 hM hg
  · replace hg := it_neg cd hg
    refine ex_neg cd ?_
    refine ex_bind (mx_ref hM 23 (by decide)) ?_
    obtain ⟨v27, ev27, hg⟩ := bd hg
    refine ex_bind (mx_ald hM (k := 23) (by decide) rfl ev27) ?_
    refine ex_bind (mx_ref hM 23 (by decide)) ?_
    obtain ⟨v29, ev29, hg⟩ := bd hg
    refine ex_bind (mx_ald hM (k := 23) (by decide) rfl ev29) ?_
    exact hk109 hM hg
theorem m_X6_about_b109 {am : Nat → Nat} {h0 : Hp} {r : Int} {N' : Mm} {x0 : Int} {n : Nat} {h : Hp} {N : Mm} {x1 x2 x3 x4 : Int} (hM : MX x0 am h0 h N) (hg : g_X6_about_b109 n N x1 x2 x3 x4 = some (r, N')) : ∃ h', f_X6_about_b109 n h x0 x1 x2 x3 x4 = some (r, h') ∧ MX x0 am h0 h' N' := by
  induction n generalizing h N x1 x2 x3 x4 with
  | zero => exact absurd hg (fun q => nomatch (show (none : Option (Int × Mm)) = some (r, N') from q))
  | succ n ih => exact m_X6_about_s109 (fun hM hg => ih hM hg) hM hg
def g_X6_about_j28 (h : Mm) (x1 x2 s1 : Int) : Option (Int × Mm) :=
  Option.bind (g_X6_refused h s1) fun r4 =>
  if r4.1 = 0 then (
    if 4 ≤ x2 then (
      if x2 ≠ 6 then (
        g_X6_about_j152 r4.2 x1 x2 0
      ) else (
        Option.bind (mgt 25 r4.2 x1) fun v7 =>
        g_X6_about_b109 fuel r4.2 x1 x2 (wr (4 * v7)) 0
      )
    ) else (
      if x2 ≠ 0 then (
        if x2 ≠ 1 then (
          if x2 ≠ 2 then (
            Option.bind (mgt 12 r4.2 x1) fun v9 =>
            g_X6_about_j88 r4.2 v9
          ) else (
            Option.bind (mgt 11 r4.2 x1) fun v11 =>
            g_X6_about_j88 r4.2 v11
          )
        ) else (
          Option.bind (mgt 10 r4.2 x1) fun v13 =>
          g_X6_about_j88 r4.2 v13
        )
      ) else (
        Option.bind (mgt 9 r4.2 x1) fun v15 =>
        g_X6_about_j88 r4.2 v15
      )
    )
  ) else (
    some (0, r4.2)
  )
theorem m_X6_about_j28 {am : Nat → Nat} {h0 : Hp} {r : Int} {N' : Mm} {x0 : Int} {h : Hp} {N : Mm} {x1 x2 s1 : Int} (hM : MX x0 am h0 h N) (hg : g_X6_about_j28 N x1 x2 s1 = some (r, N')) : ∃ h', f_X6_about_j28 h x0 x1 x2 x0 s1 = some (r, h') ∧ MX x0 am h0 h' N' := by
  unfold g_X6_about_j28 at hg
  unfold f_X6_about_j28
  refine ex_bind (mx_ck hM) ?_
  obtain ⟨r4, er4, hg⟩ := bd hg
  obtain ⟨hr4, qr4, hM⟩ := m_X6_refused hM er4
  refine ex_bind qr4 ?_
  by_cases cd : r4.1 = 0
  · replace hg := it_pos cd hg
    refine ex_pos cd ?_
    by_cases cd : 4 ≤ x2
    · replace hg := it_pos cd hg
      refine ex_pos cd ?_
      by_cases cd : x2 ≠ 6
      · replace hg := it_pos cd hg
        refine ex_pos cd ?_
        exact m_X6_about_j152 hM hg
      · replace hg := it_neg cd hg
        refine ex_neg cd ?_
        refine ex_bind (mx_ref hM 25 (by decide)) ?_
        obtain ⟨v7, ev7, hg⟩ := bd hg
        refine ex_bind (mx_ald hM (k := 25) (by decide) rfl ev7) ?_
        exact m_X6_about_b109 hM hg
    · replace hg := it_neg cd hg
      refine ex_neg cd ?_
      by_cases cd : x2 ≠ 0
      · replace hg := it_pos cd hg
        refine ex_pos cd ?_
        by_cases cd : x2 ≠ 1
        · replace hg := it_pos cd hg
          refine ex_pos cd ?_
          by_cases cd : x2 ≠ 2
          · replace hg := it_pos cd hg
            refine ex_pos cd ?_
            refine ex_bind (mx_ref hM 12 (by decide)) ?_
            obtain ⟨v9, ev9, hg⟩ := bd hg
            refine ex_bind (mx_ald hM (k := 12) (by decide) rfl ev9) ?_
            exact m_X6_about_j88 hM hg
          · replace hg := it_neg cd hg
            refine ex_neg cd ?_
            refine ex_bind (mx_ref hM 11 (by decide)) ?_
            obtain ⟨v11, ev11, hg⟩ := bd hg
            refine ex_bind (mx_ald hM (k := 11) (by decide) rfl ev11) ?_
            exact m_X6_about_j88 hM hg
        · replace hg := it_neg cd hg
          refine ex_neg cd ?_
          refine ex_bind (mx_ref hM 10 (by decide)) ?_
          obtain ⟨v13, ev13, hg⟩ := bd hg
          refine ex_bind (mx_ald hM (k := 10) (by decide) rfl ev13) ?_
          exact m_X6_about_j88 hM hg
      · replace hg := it_neg cd hg
        refine ex_neg cd ?_
        refine ex_bind (mx_ref hM 9 (by decide)) ?_
        obtain ⟨v15, ev15, hg⟩ := bd hg
        refine ex_bind (mx_ald hM (k := 9) (by decide) rfl ev15) ?_
        exact m_X6_about_j88 hM hg
  · replace hg := it_neg cd hg
    refine ex_neg cd ?_
    exact ex_ret hg hM
def g_X6_about (h : Mm) (x1 x2 : Int) : Option (Int × Mm) :=
  Option.bind (g_X6_isCache h x1) fun r1 =>
  if r1.1 ≠ 0 then (
    Option.bind (g_X6_isIn r1.2 x2 0 7) fun r3 =>
    if r3.1 ≠ 0 then (
      g_X6_about_j28 r3.2 x1 x2 0
    ) else (
      g_X6_about_j28 r3.2 x1 x2 2
    )
  ) else (
    g_X6_about_j28 r1.2 x1 x2 1
  )
theorem m_X6_about {x0 : Int} {am : Nat → Nat} {h0 : Hp} {r : Int} {N' : Mm} {h : Hp} {N : Mm} {x1 x2 : Int} (hM : MX x0 am h0 h N) (hg : g_X6_about N x1 x2 = some (r, N')) : ∃ h', f_X6_about h x0 x1 x2 = some (r, h') ∧ MX x0 am h0 h' N' := by
  unfold g_X6_about at hg
  unfold f_X6_about
  refine ex_bind (mx_ck hM) ?_
  obtain ⟨r1, er1, hg⟩ := bd hg
  obtain ⟨hr1, qr1, hM⟩ := m_X6_isCache hM er1
  refine ex_bind qr1 ?_
  by_cases cd : r1.1 ≠ 0
  · replace hg := it_pos cd hg
    refine ex_pos cd ?_
    obtain ⟨r3, er3, hg⟩ := bd hg
    obtain ⟨hr3, qr3, hM⟩ := m_X6_isIn hM er3
    refine ex_bind qr3 ?_
    by_cases cd : r3.1 ≠ 0
    · replace hg := it_pos cd hg
      refine ex_pos cd ?_
      exact m_X6_about_j28 hM hg
    · replace hg := it_neg cd hg
      refine ex_neg cd ?_
      exact m_X6_about_j28 hM hg
  · replace hg := it_neg cd hg
    refine ex_neg cd ?_
    exact m_X6_about_j28 hM hg
def g_X6_list_j80 (h : Mm) (s0 : Int) : Option (Int × Mm) :=
  some (s0, h)
theorem m_X6_list_j80 {am : Nat → Nat} {h0 : Hp} {r : Int} {N' : Mm} {x0 : Int} {h : Hp} {N : Mm} {s0 : Int} (hM : MX x0 am h0 h N) (hg : g_X6_list_j80 N s0 = some (r, N')) : ∃ h', f_X6_list_j80 h s0 = some (r, h') ∧ MX x0 am h0 h' N' := by
  unfold g_X6_list_j80 at hg
  unfold f_X6_list_j80
  exact ex_ret hg hM
def g_X6_list_j27 (h : Mm) (x1 x2 x3 s1 : Int) : Option (Int × Mm) :=
  Option.bind (g_X6_refused h s1) fun r4 =>
  if r4.1 = 0 then (
    Option.bind (mgt 21 r4.2 (wr ((wr (3 * x1)) + x2))) fun v7 =>
    Option.bind (g_X6_isIn r4.2 x3 0 (wr (v7 - 1))) fun r8 =>
    if r8.1 = 0 then (
      g_X6_list_j80 r8.2 (-1)
    ) else (
      Option.bind (mgt 22 r8.2 (wr ((wr (256 * (wr ((wr (3 * x1)) + x2)))) + x3))) fun v10 =>
      g_X6_list_j80 r8.2 (wr (1024 * v10))
    )
  ) else (
    some (0, r4.2)
  )
theorem m_X6_list_j27 {am : Nat → Nat} {h0 : Hp} {r : Int} {N' : Mm} {x0 : Int} {h : Hp} {N : Mm} {x1 x2 x3 s1 : Int} (hM : MX x0 am h0 h N) (hg : g_X6_list_j27 N x1 x2 x3 s1 = some (r, N')) : ∃ h', f_X6_list_j27 h x0 x1 x2 x3 x0 s1 = some (r, h') ∧ MX x0 am h0 h' N' := by
  unfold g_X6_list_j27 at hg
  unfold f_X6_list_j27
  refine ex_bind (mx_ck hM) ?_
  obtain ⟨r4, er4, hg⟩ := bd hg
  obtain ⟨hr4, qr4, hM⟩ := m_X6_refused hM er4
  refine ex_bind qr4 ?_
  by_cases cd : r4.1 = 0
  · replace hg := it_pos cd hg
    refine ex_pos cd ?_
    refine ex_bind (mx_ref hM 21 (by decide)) ?_
    obtain ⟨v7, ev7, hg⟩ := bd hg
    refine ex_bind (mx_ald hM (k := 21) (by decide) rfl ev7) ?_
    obtain ⟨r8, er8, hg⟩ := bd hg
    obtain ⟨hr8, qr8, hM⟩ := m_X6_isIn hM er8
    refine ex_bind qr8 ?_
    by_cases cd : r8.1 = 0
    · replace hg := it_pos cd hg
      refine ex_pos cd ?_
      exact m_X6_list_j80 hM hg
    · replace hg := it_neg cd hg
      refine ex_neg cd ?_
      refine ex_bind (mx_ref hM 22 (by decide)) ?_
      obtain ⟨v10, ev10, hg⟩ := bd hg
      refine ex_bind (mx_ald hM (k := 22) (by decide) rfl ev10) ?_
      exact m_X6_list_j80 hM hg
  · replace hg := it_neg cd hg
    refine ex_neg cd ?_
    exact ex_ret hg hM
def g_X6_list (h : Mm) (x1 x2 x3 : Int) : Option (Int × Mm) :=
  Option.bind (g_X6_isCache h x1) fun r1 =>
  if r1.1 ≠ 0 then (
    Option.bind (g_X6_isIn r1.2 x2 0 2) fun r3 =>
    if r3.1 ≠ 0 then (
      g_X6_list_j27 r3.2 x1 x2 x3 0
    ) else (
      g_X6_list_j27 r3.2 x1 x2 x3 2
    )
  ) else (
    g_X6_list_j27 r1.2 x1 x2 x3 1
  )
theorem m_X6_list {x0 : Int} {am : Nat → Nat} {h0 : Hp} {r : Int} {N' : Mm} {h : Hp} {N : Mm} {x1 x2 x3 : Int} (hM : MX x0 am h0 h N) (hg : g_X6_list N x1 x2 x3 = some (r, N')) : ∃ h', f_X6_list h x0 x1 x2 x3 = some (r, h') ∧ MX x0 am h0 h' N' := by
  unfold g_X6_list at hg
  unfold f_X6_list
  refine ex_bind (mx_ck hM) ?_
  obtain ⟨r1, er1, hg⟩ := bd hg
  obtain ⟨hr1, qr1, hM⟩ := m_X6_isCache hM er1
  refine ex_bind qr1 ?_
  by_cases cd : r1.1 ≠ 0
  · replace hg := it_pos cd hg
    refine ex_pos cd ?_
    obtain ⟨r3, er3, hg⟩ := bd hg
    obtain ⟨hr3, qr3, hM⟩ := m_X6_isIn hM er3
    refine ex_bind qr3 ?_
    by_cases cd : r3.1 ≠ 0
    · replace hg := it_pos cd hg
      refine ex_pos cd ?_
      exact m_X6_list_j27 hM hg
    · replace hg := it_neg cd hg
      refine ex_neg cd ?_
      exact m_X6_list_j27 hM hg
  · replace hg := it_neg cd hg
    refine ex_neg cd ?_
    exact m_X6_list_j27 hM hg
def g_X6_slab_j74 (h : Mm) (s0 : Int) : Option (Int × Mm) :=
  some (s0, h)
theorem m_X6_slab_j74 {am : Nat → Nat} {h0 : Hp} {r : Int} {N' : Mm} {x0 : Int} {h : Hp} {N : Mm} {s0 : Int} (hM : MX x0 am h0 h N) (hg : g_X6_slab_j74 N s0 = some (r, N')) : ∃ h', f_X6_slab_j74 h s0 = some (r, h') ∧ MX x0 am h0 h' N' := by
  unfold g_X6_slab_j74 at hg
  unfold f_X6_slab_j74
  exact ex_ret hg hM
def g_X6_slab_j138 (h : Mm) (s0 : Int) : Option (Int × Mm) :=
  some (s0, h)
theorem m_X6_slab_j138 {am : Nat → Nat} {h0 : Hp} {r : Int} {N' : Mm} {x0 : Int} {h : Hp} {N : Mm} {s0 : Int} (hM : MX x0 am h0 h N) (hg : g_X6_slab_j138 N s0 = some (r, N')) : ∃ h', f_X6_slab_j138 h s0 = some (r, h') ∧ MX x0 am h0 h' N' := by
  unfold g_X6_slab_j138 at hg
  unfold f_X6_slab_j138
  exact ex_ret hg hM
def g_X6_slab_j116 (h : Mm) (x3 x4 : Int) : Option (Int × Mm) :=
  Option.bind (mgt 14 h x3) fun v20 =>
  Option.bind (mgt 10 h v20) fun v21 =>
  if v21 ≤ x4 then (
    g_X6_slab_j138 h (-1)
  ) else (
    g_X6_slab_j138 h x4
  )
theorem m_X6_slab_j116 {am : Nat → Nat} {h0 : Hp} {r : Int} {N' : Mm} {x0 : Int} {h : Hp} {N : Mm} {x3 x4 : Int} (hM : MX x0 am h0 h N) (hg : g_X6_slab_j116 N x3 x4 = some (r, N')) : ∃ h', f_X6_slab_j116 h x0 x3 x4 = some (r, h') ∧ MX x0 am h0 h' N' := by
  unfold g_X6_slab_j116 at hg
  unfold f_X6_slab_j116
  refine ex_bind (mx_ref hM 10 (by decide)) ?_
  refine ex_bind (mx_ref hM 14 (by decide)) ?_
  obtain ⟨v20, ev20, hg⟩ := bd hg
  refine ex_bind (mx_ald hM (k := 14) (by decide) rfl ev20) ?_
  obtain ⟨v21, ev21, hg⟩ := bd hg
  refine ex_bind (mx_ald hM (k := 10) (by decide) rfl ev21) ?_
  by_cases cd : v21 ≤ x4
  · replace hg := it_pos cd hg
    refine ex_pos cd ?_
    exact m_X6_slab_j138 hM hg
  · replace hg := it_neg cd hg
    refine ex_neg cd ?_
    exact m_X6_slab_j138 hM hg
def g_X6_slab_s78 (k78 : Mm → Int → Int → Option (Int × Mm)) (h : Mm) (x3 x4 : Int) : Option (Int × Mm) :=
  Option.bind (mgt 14 h x3) fun v12 =>
  Option.bind (mgt 10 h v12) fun v13 =>
  if v13 ≤ x4 then (
    g_X6_slab_j116 h x3 x4
  ) else (
    Option.bind (g_X6_unitOf h x3 x4) fun r14 =>
    Option.bind (mgt 17 r14.2 x3) fun v17 =>
    if r14.1 = v17 then (
      g_X6_slab_j116 r14.2 x3 x4
    ) else (
      k78 r14.2 x3 (wr (x4 + 1))
    )
  )
def g_X6_slab_b78 : Nat → Mm → Int → Int → Option (Int × Mm)
  | 0, _, _, _ => none
  | n + 1, h, x3, x4 => g_X6_slab_s78 (g_X6_slab_b78 n) h x3 x4
theorem m_X6_slab_s78 {am : Nat → Nat} {h0 : Hp} {r : Int} {N' : Mm} {x0 : Int} {kg78 : Mm → Int → Int → Option (Int × Mm)} {kf78 : Hp → Int → Int → Int → Option (Int × Hp)} (hk78 : ∀ {h : Hp} {N : Mm} {x3 x4 : Int}, MX x0 am h0 h N → kg78 N x3 x4 = some (r, N') → ∃ h', kf78 h x0 x3 x4 = some (r, h') ∧ MX x0 am h0 h' N') {h : Hp} {N : Mm} {x3 x4 : Int} (hM : MX x0 am h0 h N) (hg : g_X6_slab_s78 kg78 N x3 x4 = some (r, N')) : ∃ h', f_X6_slab_s78 kf78 h x0 x3 x4 = some (r, h') ∧ MX x0 am h0 h' N' := by
  unfold g_X6_slab_s78 at hg
  unfold f_X6_slab_s78
  refine ex_bind (mx_ref hM 10 (by decide)) ?_
  refine ex_bind (mx_ref hM 14 (by decide)) ?_
  obtain ⟨v12, ev12, hg⟩ := bd hg
  refine ex_bind (mx_ald hM (k := 14) (by decide) rfl ev12) ?_
  obtain ⟨v13, ev13, hg⟩ := bd hg
  refine ex_bind (mx_ald hM (k := 10) (by decide) rfl ev13) ?_
  by_cases cd : v13 ≤ x4
  · replace hg := it_pos cd hg
    refine ex_pos cd ?_
    exact m_X6_slab_j116 hM hg
  · replace hg := it_neg cd hg
    refine ex_neg cd ?_
    refine ex_bind (mx_ck hM) ?_
    obtain ⟨r14, er14, hg⟩ := bd hg
    obtain ⟨hr14, qr14, hM⟩ := m_X6_unitOf hM er14
    refine ex_bind qr14 ?_
    refine ex_bind (mx_ref hM 17 (by decide)) ?_
    obtain ⟨v17, ev17, hg⟩ := bd hg
    refine ex_bind (mx_ald hM (k := 17) (by decide) rfl ev17) ?_
    by_cases cd : r14.1 = v17
    · replace hg := it_pos cd hg
      refine ex_pos cd ?_
      exact m_X6_slab_j116 hM hg
    · replace hg := it_neg cd hg
      refine ex_neg cd ?_
      exact hk78 hM hg
theorem m_X6_slab_b78 {am : Nat → Nat} {h0 : Hp} {r : Int} {N' : Mm} {x0 : Int} {n : Nat} {h : Hp} {N : Mm} {x3 x4 : Int} (hM : MX x0 am h0 h N) (hg : g_X6_slab_b78 n N x3 x4 = some (r, N')) : ∃ h', f_X6_slab_b78 n h x0 x3 x4 = some (r, h') ∧ MX x0 am h0 h' N' := by
  induction n generalizing h N x3 x4 with
  | zero => exact absurd hg (fun q => nomatch (show (none : Option (Int × Mm)) = some (r, N') from q))
  | succ n ih => exact m_X6_slab_s78 (fun hM hg => ih hM hg) hM hg
def g_X6_slab_j29 (h : Mm) (x2 x3 s1 : Int) : Option (Int × Mm) :=
  Option.bind (g_X6_refused h s1) fun r4 =>
  if r4.1 = 0 then (
    if 3 ≤ x2 then (
      g_X6_slab_b78 fuel r4.2 x3 0
    ) else (
      if x2 ≠ 0 then (
        if x2 ≠ 1 then (
          Option.bind (mgt 16 r4.2 x3) fun v7 =>
          g_X6_slab_j74 r4.2 v7
        ) else (
          Option.bind (mgt 15 r4.2 x3) fun v9 =>
          g_X6_slab_j74 r4.2 v9
        )
      ) else (
        g_X6_slab_j74 r4.2 (wr (1024 * x3))
      )
    )
  ) else (
    some (0, r4.2)
  )
theorem m_X6_slab_j29 {am : Nat → Nat} {h0 : Hp} {r : Int} {N' : Mm} {x0 : Int} {h : Hp} {N : Mm} {x2 x3 s1 : Int} (hM : MX x0 am h0 h N) (hg : g_X6_slab_j29 N x2 x3 s1 = some (r, N')) : ∃ h', f_X6_slab_j29 h x0 x2 x3 x0 s1 = some (r, h') ∧ MX x0 am h0 h' N' := by
  unfold g_X6_slab_j29 at hg
  unfold f_X6_slab_j29
  refine ex_bind (mx_ck hM) ?_
  obtain ⟨r4, er4, hg⟩ := bd hg
  obtain ⟨hr4, qr4, hM⟩ := m_X6_refused hM er4
  refine ex_bind qr4 ?_
  by_cases cd : r4.1 = 0
  · replace hg := it_pos cd hg
    refine ex_pos cd ?_
    by_cases cd : 3 ≤ x2
    · replace hg := it_pos cd hg
      refine ex_pos cd ?_
      exact m_X6_slab_b78 hM hg
    · replace hg := it_neg cd hg
      refine ex_neg cd ?_
      by_cases cd : x2 ≠ 0
      · replace hg := it_pos cd hg
        refine ex_pos cd ?_
        by_cases cd : x2 ≠ 1
        · replace hg := it_pos cd hg
          refine ex_pos cd ?_
          refine ex_bind (mx_ref hM 16 (by decide)) ?_
          obtain ⟨v7, ev7, hg⟩ := bd hg
          refine ex_bind (mx_ald hM (k := 16) (by decide) rfl ev7) ?_
          exact m_X6_slab_j74 hM hg
        · replace hg := it_neg cd hg
          refine ex_neg cd ?_
          refine ex_bind (mx_ref hM 15 (by decide)) ?_
          obtain ⟨v9, ev9, hg⟩ := bd hg
          refine ex_bind (mx_ald hM (k := 15) (by decide) rfl ev9) ?_
          exact m_X6_slab_j74 hM hg
      · replace hg := it_neg cd hg
        refine ex_neg cd ?_
        exact m_X6_slab_j74 hM hg
  · replace hg := it_neg cd hg
    refine ex_neg cd ?_
    exact ex_ret hg hM
def g_X6_slab (h : Mm) (x1 x2 : Int) : Option (Int × Mm) :=
  Option.bind (g_X6_slabAt h x1) fun r1 =>
  if 0 ≤ r1.1 then (
    Option.bind (g_X6_isIn r1.2 x2 0 3) fun r3 =>
    if r3.1 ≠ 0 then (
      g_X6_slab_j29 r3.2 x2 r1.1 0
    ) else (
      g_X6_slab_j29 r3.2 x2 r1.1 2
    )
  ) else (
    g_X6_slab_j29 r1.2 x2 r1.1 1
  )
theorem m_X6_slab {x0 : Int} {am : Nat → Nat} {h0 : Hp} {r : Int} {N' : Mm} {h : Hp} {N : Mm} {x1 x2 : Int} (hM : MX x0 am h0 h N) (hg : g_X6_slab N x1 x2 = some (r, N')) : ∃ h', f_X6_slab h x0 x1 x2 = some (r, h') ∧ MX x0 am h0 h' N' := by
  unfold g_X6_slab at hg
  unfold f_X6_slab
  refine ex_bind (mx_ck hM) ?_
  obtain ⟨r1, er1, hg⟩ := bd hg
  obtain ⟨hr1, qr1, hM⟩ := m_X6_slabAt hM er1
  refine ex_bind qr1 ?_
  by_cases cd : 0 ≤ r1.1
  · replace hg := it_pos cd hg
    refine ex_pos cd ?_
    obtain ⟨r3, er3, hg⟩ := bd hg
    obtain ⟨hr3, qr3, hM⟩ := m_X6_isIn hM er3
    refine ex_bind qr3 ?_
    by_cases cd : r3.1 ≠ 0
    · replace hg := it_pos cd hg
      refine ex_pos cd ?_
      exact m_X6_slab_j29 hM hg
    · replace hg := it_neg cd hg
      refine ex_neg cd ?_
      exact m_X6_slab_j29 hM hg
  · replace hg := it_neg cd hg
    refine ex_neg cd ?_
    exact m_X6_slab_j29 hM hg
def g_X6_magazine_j73 (h : Mm) (s0 : Int) : Option (Int × Mm) :=
  some (s0, h)
theorem m_X6_magazine_j73 {am : Nat → Nat} {h0 : Hp} {r : Int} {N' : Mm} {x0 : Int} {h : Hp} {N : Mm} {s0 : Int} (hM : MX x0 am h0 h N) (hg : g_X6_magazine_j73 N s0 = some (r, N')) : ∃ h', f_X6_magazine_j73 h s0 = some (r, h') ∧ MX x0 am h0 h' N' := by
  unfold g_X6_magazine_j73 at hg
  unfold f_X6_magazine_j73
  exact ex_ret hg hM
def g_X6_magazine_j36 (h : Mm) (x1 x2 x3 s1 : Int) : Option (Int × Mm) :=
  Option.bind (g_X6_refused h s1) fun r5 =>
  if r5.1 = 0 then (
    if x3 ≠ 2 then (
      Option.bind (mgt 23 r5.2 (wr ((wr (2 * (wr ((wr (8 * x2)) + x1)))) + x3))) fun v8 =>
      g_X6_magazine_j73 r5.2 v8
    ) else (
      Option.bind (mgt 25 r5.2 x1) fun v10 =>
      g_X6_magazine_j73 r5.2 v10
    )
  ) else (
    some (0, r5.2)
  )
theorem m_X6_magazine_j36 {am : Nat → Nat} {h0 : Hp} {r : Int} {N' : Mm} {x0 : Int} {h : Hp} {N : Mm} {x1 x2 x3 s1 : Int} (hM : MX x0 am h0 h N) (hg : g_X6_magazine_j36 N x1 x2 x3 s1 = some (r, N')) : ∃ h', f_X6_magazine_j36 h x0 x1 x2 x3 x0 s1 = some (r, h') ∧ MX x0 am h0 h' N' := by
  unfold g_X6_magazine_j36 at hg
  unfold f_X6_magazine_j36
  refine ex_bind (mx_ck hM) ?_
  obtain ⟨r5, er5, hg⟩ := bd hg
  obtain ⟨hr5, qr5, hM⟩ := m_X6_refused hM er5
  refine ex_bind qr5 ?_
  by_cases cd : r5.1 = 0
  · replace hg := it_pos cd hg
    refine ex_pos cd ?_
    by_cases cd : x3 ≠ 2
    · replace hg := it_pos cd hg
      refine ex_pos cd ?_
      refine ex_bind (mx_ref hM 23 (by decide)) ?_
      obtain ⟨v8, ev8, hg⟩ := bd hg
      refine ex_bind (mx_ald hM (k := 23) (by decide) rfl ev8) ?_
      exact m_X6_magazine_j73 hM hg
    · replace hg := it_neg cd hg
      refine ex_neg cd ?_
      refine ex_bind (mx_ref hM 25 (by decide)) ?_
      obtain ⟨v10, ev10, hg⟩ := bd hg
      refine ex_bind (mx_ald hM (k := 25) (by decide) rfl ev10) ?_
      exact m_X6_magazine_j73 hM hg
  · replace hg := it_neg cd hg
    refine ex_neg cd ?_
    exact ex_ret hg hM
def g_X6_magazine_j31 (h : Mm) (x1 x2 x3 : Int) : Option (Int × Mm) :=
  g_X6_magazine_j36 h x1 x2 x3 2
theorem m_X6_magazine_j31 {am : Nat → Nat} {h0 : Hp} {r : Int} {N' : Mm} {x0 : Int} {h : Hp} {N : Mm} {x1 x2 x3 : Int} (hM : MX x0 am h0 h N) (hg : g_X6_magazine_j31 N x1 x2 x3 = some (r, N')) : ∃ h', f_X6_magazine_j31 h x0 x1 x2 x3 x0 = some (r, h') ∧ MX x0 am h0 h' N' := by
  unfold g_X6_magazine_j31 at hg
  unfold f_X6_magazine_j31
  exact m_X6_magazine_j36 hM hg
def g_X6_magazine (h : Mm) (x1 x2 x3 : Int) : Option (Int × Mm) :=
  Option.bind (g_X6_isCache h x1) fun r1 =>
  if r1.1 ≠ 0 then (
    Option.bind (g_X6_isIn r1.2 x2 0 3) fun r3 =>
    if r3.1 = 0 then (
      g_X6_magazine_j31 r3.2 x1 x2 x3
    ) else (
      Option.bind (g_X6_isIn r3.2 x3 0 2) fun r4 =>
      if r4.1 ≠ 0 then (
        g_X6_magazine_j36 r4.2 x1 x2 x3 0
      ) else (
        g_X6_magazine_j31 r4.2 x1 x2 x3
      )
    )
  ) else (
    g_X6_magazine_j36 r1.2 x1 x2 x3 1
  )
theorem m_X6_magazine {x0 : Int} {am : Nat → Nat} {h0 : Hp} {r : Int} {N' : Mm} {h : Hp} {N : Mm} {x1 x2 x3 : Int} (hM : MX x0 am h0 h N) (hg : g_X6_magazine N x1 x2 x3 = some (r, N')) : ∃ h', f_X6_magazine h x0 x1 x2 x3 = some (r, h') ∧ MX x0 am h0 h' N' := by
  unfold g_X6_magazine at hg
  unfold f_X6_magazine
  refine ex_bind (mx_ck hM) ?_
  obtain ⟨r1, er1, hg⟩ := bd hg
  obtain ⟨hr1, qr1, hM⟩ := m_X6_isCache hM er1
  refine ex_bind qr1 ?_
  by_cases cd : r1.1 ≠ 0
  · replace hg := it_pos cd hg
    refine ex_pos cd ?_
    obtain ⟨r3, er3, hg⟩ := bd hg
    obtain ⟨hr3, qr3, hM⟩ := m_X6_isIn hM er3
    refine ex_bind qr3 ?_
    by_cases cd : r3.1 = 0
    · replace hg := it_pos cd hg
      refine ex_pos cd ?_
      exact m_X6_magazine_j31 hM hg
    · replace hg := it_neg cd hg
      refine ex_neg cd ?_
      obtain ⟨r4, er4, hg⟩ := bd hg
      obtain ⟨hr4, qr4, hM⟩ := m_X6_isIn hM er4
      refine ex_bind qr4 ?_
      by_cases cd : r4.1 ≠ 0
      · replace hg := it_pos cd hg
        refine ex_pos cd ?_
        exact m_X6_magazine_j36 hM hg
      · replace hg := it_neg cd hg
        refine ex_neg cd ?_
        exact m_X6_magazine_j31 hM hg
  · replace hg := it_neg cd hg
    refine ex_neg cd ?_
    exact m_X6_magazine_j36 hM hg
def g_X6_block_j59 (k29 : Mm → Int → Int → Int → Int → Option (Int × Mm)) (h : Mm) (x1 x2 x3 x4 : Int) : Option (Int × Mm) :=
  k29 h x1 x2 x3 (wr (x4 + 1))
theorem m_X6_block_j59 {am : Nat → Nat} {h0 : Hp} {r : Int} {N' : Mm} {x0 : Int} {kg29 : Mm → Int → Int → Int → Int → Option (Int × Mm)} {kf29 : Hp → Int → Int → Int → Int → Int → Option (Int × Hp)} (hk29 : ∀ {h : Hp} {N : Mm} {x1 x2 x3 x4 : Int}, MX x0 am h0 h N → kg29 N x1 x2 x3 x4 = some (r, N') → ∃ h', kf29 h x0 x1 x2 x3 x4 = some (r, h') ∧ MX x0 am h0 h' N') {h : Hp} {N : Mm} {x1 x2 x3 x4 : Int} (hM : MX x0 am h0 h N) (hg : g_X6_block_j59 kg29 N x1 x2 x3 x4 = some (r, N')) : ∃ h', f_X6_block_j59 kf29 h x0 x1 x2 x3 x4 = some (r, h') ∧ MX x0 am h0 h' N' := by
  unfold g_X6_block_j59 at hg
  unfold f_X6_block_j59
  exact hk29 hM hg
def g_X6_block_s29 (k29 : Mm → Int → Int → Int → Int → Option (Int × Mm)) (h : Mm) (x1 x2 x3 x4 : Int) : Option (Int × Mm) :=
  if 256 ≤ x4 then (
    some ((-1), h)
  ) else (
    Option.bind (mgt 1 h x4) fun v5 =>
    if v5 ≠ x1 then (
      g_X6_block_j59 k29 h x1 x2 x3 x4
    ) else (
      if x3 ≠ x2 then (
        g_X6_block_j59 k29 h x1 x2 (wr (x3 + 1)) x4
      ) else (
        some (x4, h)
      )
    )
  )
def g_X6_block_b29 : Nat → Mm → Int → Int → Int → Int → Option (Int × Mm)
  | 0, _, _, _, _, _ => none
  | n + 1, h, x1, x2, x3, x4 => g_X6_block_s29 (g_X6_block_b29 n) h x1 x2 x3 x4
theorem m_X6_block_s29 {am : Nat → Nat} {h0 : Hp} {r : Int} {N' : Mm} {x0 : Int} {kg29 : Mm → Int → Int → Int → Int → Option (Int × Mm)} {kf29 : Hp → Int → Int → Int → Int → Int → Option (Int × Hp)} (hk29 : ∀ {h : Hp} {N : Mm} {x1 x2 x3 x4 : Int}, MX x0 am h0 h N → kg29 N x1 x2 x3 x4 = some (r, N') → ∃ h', kf29 h x0 x1 x2 x3 x4 = some (r, h') ∧ MX x0 am h0 h' N') {h : Hp} {N : Mm} {x1 x2 x3 x4 : Int} (hM : MX x0 am h0 h N) (hg : g_X6_block_s29 kg29 N x1 x2 x3 x4 = some (r, N')) : ∃ h', f_X6_block_s29 kf29 h x0 x1 x2 x3 x4 = some (r, h') ∧ MX x0 am h0 h' N' := by
  unfold g_X6_block_s29 at hg
  unfold f_X6_block_s29
  by_cases cd : 256 ≤ x4
  · replace hg := it_pos cd hg
    refine ex_pos cd ?_
    exact ex_ret hg hM
  · replace hg := it_neg cd hg
    refine ex_neg cd ?_
    refine ex_bind (mx_ref hM 1 (by decide)) ?_
    obtain ⟨v5, ev5, hg⟩ := bd hg
    refine ex_bind (mx_ald hM (k := 1) (by decide) rfl ev5) ?_
    by_cases cd : v5 ≠ x1
    · replace hg := it_pos cd hg
      refine ex_pos cd ?_
      exact m_X6_block_j59 hk29 hM hg
    · replace hg := it_neg cd hg
      refine ex_neg cd ?_
      by_cases cd : x3 ≠ x2
      · replace hg := it_pos cd hg
        refine ex_pos cd ?_
        exact m_X6_block_j59 hk29 hM hg
      · replace hg := it_neg cd hg
        refine ex_neg cd ?_
        exact ex_ret hg hM
theorem m_X6_block_b29 {am : Nat → Nat} {h0 : Hp} {r : Int} {N' : Mm} {x0 : Int} {n : Nat} {h : Hp} {N : Mm} {x1 x2 x3 x4 : Int} (hM : MX x0 am h0 h N) (hg : g_X6_block_b29 n N x1 x2 x3 x4 = some (r, N')) : ∃ h', f_X6_block_b29 n h x0 x1 x2 x3 x4 = some (r, h') ∧ MX x0 am h0 h' N' := by
  induction n generalizing h N x1 x2 x3 x4 with
  | zero => exact absurd hg (fun q => nomatch (show (none : Option (Int × Mm)) = some (r, N') from q))
  | succ n ih => exact m_X6_block_s29 (fun hM hg => ih hM hg) hM hg
def g_X6_block_j16 (h : Mm) (x1 x2 s1 : Int) : Option (Int × Mm) :=
  Option.bind (g_X6_refused h s1) fun r2 =>
  if r2.1 = 0 then (
    g_X6_block_b29 fuel r2.2 x1 x2 0 0
  ) else (
    some (0, r2.2)
  )
theorem m_X6_block_j16 {am : Nat → Nat} {h0 : Hp} {r : Int} {N' : Mm} {x0 : Int} {h : Hp} {N : Mm} {x1 x2 s1 : Int} (hM : MX x0 am h0 h N) (hg : g_X6_block_j16 N x1 x2 s1 = some (r, N')) : ∃ h', f_X6_block_j16 h x0 x1 x2 x0 s1 = some (r, h') ∧ MX x0 am h0 h' N' := by
  unfold g_X6_block_j16 at hg
  unfold f_X6_block_j16
  refine ex_bind (mx_ck hM) ?_
  obtain ⟨r2, er2, hg⟩ := bd hg
  obtain ⟨hr2, qr2, hM⟩ := m_X6_refused hM er2
  refine ex_bind qr2 ?_
  by_cases cd : r2.1 = 0
  · replace hg := it_pos cd hg
    refine ex_pos cd ?_
    exact m_X6_block_b29 hM hg
  · replace hg := it_neg cd hg
    refine ex_neg cd ?_
    exact ex_ret hg hM
def g_X6_block (h : Mm) (x1 x2 : Int) : Option (Int × Mm) :=
  Option.bind (g_X6_isIn h x1 0 6) fun r1 =>
  if r1.1 = 0 then (
    g_X6_block_j16 r1.2 x1 x2 1
  ) else (
    g_X6_block_j16 r1.2 x1 x2 0
  )
theorem m_X6_block {x0 : Int} {am : Nat → Nat} {h0 : Hp} {r : Int} {N' : Mm} {h : Hp} {N : Mm} {x1 x2 : Int} (hM : MX x0 am h0 h N) (hg : g_X6_block N x1 x2 = some (r, N')) : ∃ h', f_X6_block h x0 x1 x2 = some (r, h') ∧ MX x0 am h0 h' N' := by
  unfold g_X6_block at hg
  unfold f_X6_block
  obtain ⟨r1, er1, hg⟩ := bd hg
  obtain ⟨hr1, qr1, hM⟩ := m_X6_isIn hM er1
  refine ex_bind qr1 ?_
  by_cases cd : r1.1 = 0
  · replace hg := it_pos cd hg
    refine ex_pos cd ?_
    exact m_X6_block_j16 hM hg
  · replace hg := it_neg cd hg
    refine ex_neg cd ?_
    exact m_X6_block_j16 hM hg
def g_X6_pages_j32 (k9 : Mm → Int → Int → Int → Option (Int × Mm)) (h : Mm) (x1 x3 s0 : Int) : Option (Int × Mm) :=
  k9 h x1 s0 (wr (x3 + 1))
theorem m_X6_pages_j32 {am : Nat → Nat} {h0 : Hp} {r : Int} {N' : Mm} {x0 : Int} {kg9 : Mm → Int → Int → Int → Option (Int × Mm)} {kf9 : Hp → Int → Int → Int → Int → Option (Int × Hp)} (hk9 : ∀ {h : Hp} {N : Mm} {x1 x2 x3 : Int}, MX x0 am h0 h N → kg9 N x1 x2 x3 = some (r, N') → ∃ h', kf9 h x0 x1 x2 x3 = some (r, h') ∧ MX x0 am h0 h' N') {h : Hp} {N : Mm} {x1 x3 s0 : Int} (hM : MX x0 am h0 h N) (hg : g_X6_pages_j32 kg9 N x1 x3 s0 = some (r, N')) : ∃ h', f_X6_pages_j32 kf9 h x0 x1 x3 s0 = some (r, h') ∧ MX x0 am h0 h' N' := by
  unfold g_X6_pages_j32 at hg
  unfold f_X6_pages_j32
  exact hk9 hM hg
def g_X6_pages_j61 (h : Mm) (s0 : Int) : Option (Int × Mm) :=
  some (s0, h)
theorem m_X6_pages_j61 {am : Nat → Nat} {h0 : Hp} {r : Int} {N' : Mm} {x0 : Int} {h : Hp} {N : Mm} {s0 : Int} (hM : MX x0 am h0 h N) (hg : g_X6_pages_j61 N s0 = some (r, N')) : ∃ h', f_X6_pages_j61 h s0 = some (r, h') ∧ MX x0 am h0 h' N' := by
  unfold g_X6_pages_j61 at hg
  unfold f_X6_pages_j61
  exact ex_ret hg hM
def g_X6_pages_s9 (k9 : Mm → Int → Int → Int → Option (Int × Mm)) (h : Mm) (x1 x2 x3 : Int) : Option (Int × Mm) :=
  if 256 ≤ x3 then (
    if x1 ≠ 0 then (
      if x1 ≠ 1 then (
        g_X6_pages_j61 h (-1)
      ) else (
        g_X6_pages_j61 h x2
      )
    ) else (
      g_X6_pages_j61 h (wr (256 - x2))
    )
  ) else (
    Option.bind (mgt 2 h x3) fun v3 =>
    if v3 < 0 then (
      g_X6_pages_j32 k9 h x1 x3 x2
    ) else (
      g_X6_pages_j32 k9 h x1 x3 (wr (x2 + 1))
    )
  )
def g_X6_pages_b9 : Nat → Mm → Int → Int → Int → Option (Int × Mm)
  | 0, _, _, _, _ => none
  | n + 1, h, x1, x2, x3 => g_X6_pages_s9 (g_X6_pages_b9 n) h x1 x2 x3
theorem m_X6_pages_s9 {am : Nat → Nat} {h0 : Hp} {r : Int} {N' : Mm} {x0 : Int} {kg9 : Mm → Int → Int → Int → Option (Int × Mm)} {kf9 : Hp → Int → Int → Int → Int → Option (Int × Hp)} (hk9 : ∀ {h : Hp} {N : Mm} {x1 x2 x3 : Int}, MX x0 am h0 h N → kg9 N x1 x2 x3 = some (r, N') → ∃ h', kf9 h x0 x1 x2 x3 = some (r, h') ∧ MX x0 am h0 h' N') {h : Hp} {N : Mm} {x1 x2 x3 : Int} (hM : MX x0 am h0 h N) (hg : g_X6_pages_s9 kg9 N x1 x2 x3 = some (r, N')) : ∃ h', f_X6_pages_s9 kf9 h x0 x1 x2 x3 = some (r, h') ∧ MX x0 am h0 h' N' := by
  unfold g_X6_pages_s9 at hg
  unfold f_X6_pages_s9
  by_cases cd : 256 ≤ x3
  · replace hg := it_pos cd hg
    refine ex_pos cd ?_
    by_cases cd : x1 ≠ 0
    · replace hg := it_pos cd hg
      refine ex_pos cd ?_
      by_cases cd : x1 ≠ 1
      · replace hg := it_pos cd hg
        refine ex_pos cd ?_
        exact m_X6_pages_j61 hM hg
      · replace hg := it_neg cd hg
        refine ex_neg cd ?_
        exact m_X6_pages_j61 hM hg
    · replace hg := it_neg cd hg
      refine ex_neg cd ?_
      exact m_X6_pages_j61 hM hg
  · replace hg := it_neg cd hg
    refine ex_neg cd ?_
    refine ex_bind (mx_ref hM 2 (by decide)) ?_
    obtain ⟨v3, ev3, hg⟩ := bd hg
    refine ex_bind (mx_ald hM (k := 2) (by decide) rfl ev3) ?_
    by_cases cd : v3 < 0
    · replace hg := it_pos cd hg
      refine ex_pos cd ?_
      exact m_X6_pages_j32 hk9 hM hg
    · replace hg := it_neg cd hg
      refine ex_neg cd ?_
      exact m_X6_pages_j32 hk9 hM hg
theorem m_X6_pages_b9 {am : Nat → Nat} {h0 : Hp} {r : Int} {N' : Mm} {x0 : Int} {n : Nat} {h : Hp} {N : Mm} {x1 x2 x3 : Int} (hM : MX x0 am h0 h N) (hg : g_X6_pages_b9 n N x1 x2 x3 = some (r, N')) : ∃ h', f_X6_pages_b9 n h x0 x1 x2 x3 = some (r, h') ∧ MX x0 am h0 h' N' := by
  induction n generalizing h N x1 x2 x3 with
  | zero => exact absurd hg (fun q => nomatch (show (none : Option (Int × Mm)) = some (r, N') from q))
  | succ n ih => exact m_X6_pages_s9 (fun hM hg => ih hM hg) hM hg
def g_X6_pages (h : Mm) (x1 : Int) : Option (Int × Mm) :=
  Option.bind (some (mup h 0 0 0)) fun h1 =>
  g_X6_pages_b9 fuel h1 x1 0 0
theorem m_X6_pages {x0 : Int} {am : Nat → Nat} {h0 : Hp} {r : Int} {N' : Mm} {h : Hp} {N : Mm} {x1 : Int} (hM : MX x0 am h0 h N) (hg : g_X6_pages N x1 = some (r, N')) : ∃ h', f_X6_pages h x0 x1 = some (r, h') ∧ MX x0 am h0 h' N' := by
  unfold g_X6_pages at hg
  unfold f_X6_pages
  obtain ⟨Nh1, eh1, hg⟩ := bd hg
  cases eh1
  obtain ⟨h1, qh1, hM⟩ := mx_put hM (k := 0) (by decide) 0
  refine ex_bind qh1 ?_
  exact m_X6_pages_b9 hM hg
