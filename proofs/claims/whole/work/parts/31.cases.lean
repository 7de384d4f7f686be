theorem rm_c : 100000 ≤ room_1.cells := by decide
theorem rm_s : 2000000 ≤ room_1.slots := by decide
/-! THE CLAIM OUT OF ONE WALK OF THE LAW'S BODY. Your part is whole_start (and what it stands on); all else here is the same for every law, but numbers. -/
def R_law : String := "SlabHouseLaw"
def lw_P (b : Addr) (xs : List Int32) (args : Array Value) (s : State) : Prop := args = #[.ref b] ∧ s.IntsAt b xs ∧ xs.length ≤ 2560 ∧ (Jvm.Cond.and given_1 narrow_1).before args s = true
def lw_Q (_ : Array Value) (s : State) (o : Outcome) (t : State) : Prop := o = .returned (some (.int 1)) ∧ Framed s o t [] room_1.cells room_1.slots
def lw_Z (below : List Frame) (a : Array Value) (s : State) : State → Prop := fun t => ∃ o, t.status = .running ∧ Ended t below o ∧ lw_Q a s o t
/-- the law's own end, with 1 on the stack, nothing written that was there before, its room as the claim has it -/
theorem lw_ret {p : Program} {l : Launch} {e : Env} {s : State} {m : MethodId} {below : List Frame} {meth : Method} {c : Code} {b : Nat} (hx : p.tables.exec = Jvm.exec) (hb : c.code = code) (hr : meth.sig.returnType = ret) (hlocks : meth.locks = false) {pc : Nat} {H : Heap} {ls : Array Slot} (hdg : decode code pc = .ok (.ireturn, 1)) : W p l e room_1 s m #[Value.ref b] below meth c H [] room_1.cells room_1.slots (lw_Z below #[Value.ref b] s) (F0 m pc ls [.int 1]) := by
  intro T hT X
  obtain ⟨fs, hret, hrun, hended, hW, hframe⟩ := X.leave (v := some (.int 1)) (hlocks := hlocks) (fun h => by rw [hr] at h; cases h)
  have hmeth' : T.vm.method? m = some meth := X.method'
  refine ⟨T.setFrames fs, ?_, .returned (some (.int 1)), hrun, hended, rfl, ⟨_, rfl⟩, hW, hframe⟩
  jvm_step X.here [X.here.top, hx, hb, hdg, hmeth', hr, ret, narrow_b1]
  (try refine ⟨rfl, ?_⟩); (try refine ⟨rfl, ?_⟩)
  first | (intro acts; rw [hret _ acts rfl rfl rfl]) | rw [hret _ _ rfl rfl rfl]
  exact Steps.refl _
/-- what holds at the law's entry: the machine, the code, the tables' words (any of lw_tbl by 'hts w (by decide +kernel)'), the script of L ints xs at the cell b, what the Statement gives of the start (any of its parts by flat_of_before) -/
def lw_At (p : Program) (s : State) (m : MethodId) (meth : Method) (c : Code) (b L : Nat) (xs : Nat → Int32) : Prop :=
  p.tables.exec = Jvm.exec ∧ c.code = code ∧ meth.sig.returnType = ret ∧ c.maxLocals = 7 ∧ s.vm.findClass R_law = some m.cls ∧ (∀ w ∈ lw_tbl, w.before #[Value.ref b] s = true) ∧ va_X b L xs s s.heap ∧ b < s.heap.size ∧ meth.locks = false ∧ (Jvm.Cond.and given_1 narrow_1).before #[Value.ref b] s = true
def Op_cache (J : Hp → Prop) (xa ma oa : Int) : Prop := ∀ (h : Hp) (p0 p1 p2 p3 : Int), inr p0 → inr p1 → inr p2 → inr p3 → J h → ∃ (code : Nat) (rv : Int) (h1 h2 : Hp), f_X5_cache h xa p0 p1 p2 p3 = some (code, rv, h1) ∧ (code = 0 ∨ code = 2) ∧ (code = 0 → ast h1 10 oa 0 rv = some h2) ∧ (code ≠ 0 → h2 = h1) ∧ ∀ k, hN h2 ≤ k → ckd (hsN h2 k) 6 ma = some () ∧ ∃ (b : Int) (h3 : Hp), f_X6_cache (hsN h2 k) ma p0 p1 p2 p3 = some (b, h3) ∧ f_X6_thrown h3 ma = some (kL_cache code, h3) ∧ (code = 0 → ald h3 10 oa 0 = some b) ∧ J h3
def Op_drop (J : Hp → Prop) (xa ma oa : Int) : Prop := ∀ (h : Hp) (p0 : Int), inr p0 → J h → ∃ (code : Nat) (rv : Int) (h1 h2 : Hp), f_X5_drop h xa p0 = some (code, rv, h1) ∧ (code = 0 ∨ code = 1 ∨ code = 3) ∧ (code = 0 → ast h1 10 oa 0 rv = some h2) ∧ (code ≠ 0 → h2 = h1) ∧ ∀ k, hN h2 ≤ k → ckd (hsN h2 k) 6 ma = some () ∧ ∃ (b : Int) (h3 : Hp), f_X6_drop (hsN h2 k) ma p0 = some (b, h3) ∧ f_X6_thrown h3 ma = some (kL_drop code, h3) ∧ (code = 0 → ald h3 10 oa 0 = some b) ∧ J h3
def Op_allocate (J : Hp → Prop) (xa ma oa : Int) : Prop := ∀ (h : Hp) (p0 p1 : Int), inr p0 → inr p1 → J h → ∃ (code : Nat) (rv : Int) (h1 h2 : Hp), f_X5_allocate h xa p0 p1 = some (code, rv, h1) ∧ (code = 0 ∨ code = 1 ∨ code = 2) ∧ (code = 0 → ast h1 10 oa 0 rv = some h2) ∧ (code ≠ 0 → h2 = h1) ∧ ∀ k, hN h2 ≤ k → ckd (hsN h2 k) 6 ma = some () ∧ ∃ (b : Int) (h3 : Hp), f_X6_allocate (hsN h2 k) ma p0 p1 = some (b, h3) ∧ f_X6_thrown h3 ma = some (kL_allocate code, h3) ∧ (code = 0 → ald h3 10 oa 0 = some b) ∧ J h3
def Op_free (J : Hp → Prop) (xa ma oa : Int) : Prop := ∀ (h : Hp) (p0 p1 : Int), inr p0 → inr p1 → J h → ∃ (code : Nat) (rv : Int) (h1 h2 : Hp), f_X5_free h xa p0 p1 = some (code, rv, h1) ∧ (code = 0 ∨ code = 1 ∨ code = 2 ∨ code = 3) ∧ (code = 0 → ast h1 10 oa 0 rv = some h2) ∧ (code ≠ 0 → h2 = h1) ∧ ∀ k, hN h2 ≤ k → ckd (hsN h2 k) 6 ma = some () ∧ ∃ (b : Int) (h3 : Hp), f_X6_free (hsN h2 k) ma p0 p1 = some (b, h3) ∧ f_X6_thrown h3 ma = some (kL_free code, h3) ∧ (code = 0 → ald h3 10 oa 0 = some b) ∧ J h3
def Op_mark (J : Hp → Prop) (xa ma oa : Int) : Prop := ∀ (h : Hp) (p0 p1 : Int), inr p0 → inr p1 → J h → ∃ (code : Nat) (rv : Int) (h1 h2 : Hp), f_X5_mark h xa p0 p1 = some (code, rv, h1) ∧ (code = 0 ∨ code = 1) ∧ (code = 0 → ast h1 10 oa 0 rv = some h2) ∧ (code ≠ 0 → h2 = h1) ∧ ∀ k, hN h2 ≤ k → ckd (hsN h2 k) 6 ma = some () ∧ ∃ (b : Int) (h3 : Hp), f_X6_mark (hsN h2 k) ma p0 p1 = some (b, h3) ∧ f_X6_thrown h3 ma = some (kL_mark code, h3) ∧ (code = 0 → ald h3 10 oa 0 = some b) ∧ J h3
def Op_flush (J : Hp → Prop) (xa ma oa : Int) : Prop := ∀ (h : Hp) (p0 : Int), inr p0 → J h → ∃ (code : Nat) (rv : Int) (h1 h2 : Hp), f_X5_flush h xa p0 = some (code, rv, h1) ∧ (code = 0 ∨ code = 2) ∧ (code = 0 → ast h1 10 oa 0 rv = some h2) ∧ (code ≠ 0 → h2 = h1) ∧ ∀ k, hN h2 ≤ k → ckd (hsN h2 k) 6 ma = some () ∧ ∃ (b : Int) (h3 : Hp), f_X6_flush (hsN h2 k) ma p0 = some (b, h3) ∧ f_X6_thrown h3 ma = some (kL_flush code, h3) ∧ (code = 0 → ald h3 10 oa 0 = some b) ∧ J h3
def Op_empty (J : Hp → Prop) (xa ma oa : Int) : Prop := ∀ (h : Hp) (p0 : Int), inr p0 → J h → ∃ (code : Nat) (rv : Int) (h1 h2 : Hp), f_X5_empty h xa p0 = some (code, rv, h1) ∧ (code = 0 ∨ code = 1) ∧ (code = 0 → ast h1 10 oa 0 rv = some h2) ∧ (code ≠ 0 → h2 = h1) ∧ ∀ k, hN h2 ≤ k → ckd (hsN h2 k) 6 ma = some () ∧ ∃ (b : Int) (h3 : Hp), f_X6_empty (hsN h2 k) ma p0 = some (b, h3) ∧ f_X6_thrown h3 ma = some (kL_empty code, h3) ∧ (code = 0 → ald h3 10 oa 0 = some b) ∧ J h3
def Op_reap (J : Hp → Prop) (xa ma oa : Int) : Prop := ∀ (h : Hp), J h → ∃ (r : Int) (h1 h2 : Hp), f_X5_reap h xa = some (r, h1) ∧ ckd h1 6 ma = some () ∧ f_X6_reap h1 ma = some (r, h2) ∧ J h2
def Op_cacheOf (J : Hp → Prop) (xa ma oa : Int) : Prop := ∀ (h : Hp) (p0 : Int), inr p0 → J h → ∃ (r : Int) (h1 h2 : Hp), f_X5_cacheOf h xa p0 = some (r, h1) ∧ ckd h1 6 ma = some () ∧ f_X6_cacheOf h1 ma p0 = some (r, h2) ∧ J h2
def Op_objectOf (J : Hp → Prop) (xa ma oa : Int) : Prop := ∀ (h : Hp) (p0 : Int), inr p0 → J h → ∃ (r : Int) (h1 h2 : Hp), f_X5_objectOf h xa p0 = some (r, h1) ∧ ckd h1 6 ma = some () ∧ f_X6_objectOf h1 ma p0 = some (r, h2) ∧ J h2
def Op_about (J : Hp → Prop) (xa ma oa : Int) : Prop := ∀ (h : Hp) (p0 p1 : Int), inr p0 → inr p1 → J h → ∃ (code : Nat) (rv : Int) (h1 h2 : Hp), f_X5_about h xa p0 p1 = some (code, rv, h1) ∧ (code = 0 ∨ code = 1 ∨ code = 2) ∧ (code = 0 → ast h1 10 oa 0 rv = some h2) ∧ (code ≠ 0 → h2 = h1) ∧ ∀ k, hN h2 ≤ k → ckd (hsN h2 k) 6 ma = some () ∧ ∃ (b : Int) (h3 : Hp), f_X6_about (hsN h2 k) ma p0 p1 = some (b, h3) ∧ f_X6_thrown h3 ma = some (kL_about code, h3) ∧ (code = 0 → ald h3 10 oa 0 = some b) ∧ J h3
def Op_list (J : Hp → Prop) (xa ma oa : Int) : Prop := ∀ (h : Hp) (p0 p1 p2 : Int), inr p0 → inr p1 → inr p2 → J h → ∃ (code : Nat) (rv : Int) (h1 h2 : Hp), f_X5_list h xa p0 p1 p2 = some (code, rv, h1) ∧ (code = 0 ∨ code = 1 ∨ code = 2) ∧ (code = 0 → ast h1 10 oa 0 rv = some h2) ∧ (code ≠ 0 → h2 = h1) ∧ ∀ k, hN h2 ≤ k → ckd (hsN h2 k) 6 ma = some () ∧ ∃ (b : Int) (h3 : Hp), f_X6_list (hsN h2 k) ma p0 p1 p2 = some (b, h3) ∧ f_X6_thrown h3 ma = some (kL_list code, h3) ∧ (code = 0 → ald h3 10 oa 0 = some b) ∧ J h3
def Op_slab (J : Hp → Prop) (xa ma oa : Int) : Prop := ∀ (h : Hp) (p0 p1 : Int), inr p0 → inr p1 → J h → ∃ (code : Nat) (rv : Int) (h1 h2 : Hp), f_X5_slab h xa p0 p1 = some (code, rv, h1) ∧ (code = 0 ∨ code = 1 ∨ code = 2) ∧ (code = 0 → ast h1 10 oa 0 rv = some h2) ∧ (code ≠ 0 → h2 = h1) ∧ ∀ k, hN h2 ≤ k → ckd (hsN h2 k) 6 ma = some () ∧ ∃ (b : Int) (h3 : Hp), f_X6_slab (hsN h2 k) ma p0 p1 = some (b, h3) ∧ f_X6_thrown h3 ma = some (kL_slab code, h3) ∧ (code = 0 → ald h3 10 oa 0 = some b) ∧ J h3
def Op_magazine (J : Hp → Prop) (xa ma oa : Int) : Prop := ∀ (h : Hp) (p0 p1 p2 : Int), inr p0 → inr p1 → inr p2 → J h → ∃ (code : Nat) (rv : Int) (h1 h2 : Hp), f_X5_magazine h xa p0 p1 p2 = some (code, rv, h1) ∧ (code = 0 ∨ code = 1 ∨ code = 2) ∧ (code = 0 → ast h1 10 oa 0 rv = some h2) ∧ (code ≠ 0 → h2 = h1) ∧ ∀ k, hN h2 ≤ k → ckd (hsN h2 k) 6 ma = some () ∧ ∃ (b : Int) (h3 : Hp), f_X6_magazine (hsN h2 k) ma p0 p1 p2 = some (b, h3) ∧ f_X6_thrown h3 ma = some (kL_magazine code, h3) ∧ (code = 0 → ald h3 10 oa 0 = some b) ∧ J h3
def Op_block (J : Hp → Prop) (xa ma oa : Int) : Prop := ∀ (h : Hp) (p0 p1 : Int), inr p0 → inr p1 → J h → ∃ (code : Nat) (rv : Int) (h1 h2 : Hp), f_X5_block h xa p0 p1 = some (code, rv, h1) ∧ (code = 0 ∨ code = 2) ∧ (code = 0 → ast h1 10 oa 0 rv = some h2) ∧ (code ≠ 0 → h2 = h1) ∧ ∀ k, hN h2 ≤ k → ckd (hsN h2 k) 6 ma = some () ∧ ∃ (b : Int) (h3 : Hp), f_X6_block (hsN h2 k) ma p0 p1 = some (b, h3) ∧ f_X6_thrown h3 ma = some (kL_block code, h3) ∧ (code = 0 → ald h3 10 oa 0 = some b) ∧ J h3
def Op_pages (J : Hp → Prop) (xa ma oa : Int) : Prop := ∀ (h : Hp) (p0 : Int), inr p0 → J h → ∃ (r : Int) (h1 h2 : Hp), f_X5_pages h xa p0 = some (r, h1) ∧ ckd h1 6 ma = some () ∧ f_X6_pages h1 ma p0 = some (r, h2) ∧ J h2
set_option maxHeartbeats 4000000 in
set_option maxRecDepth 100000 in
theorem law_cache {p : Program} {l : Launch} {e : Env} {s : State} {m : MethodId} {below : List Frame} {meth : Method} {c : Code} {b L : Nat} {xs : Nat → Int32} {D : va_G} {G : Nat → ClassId} {J : Hp → Prop} {xa ma oa : Int} {Q : State → Prop} (C0 : lw_At p s m meth c b L xs) (hL : L ≤ 2560) (hE : EV l D G s.heap.size s) (hJ5 : ∀ h, J h → ckd h 5 xa = some ()) (hJ6 : ∀ h, J h → ckd h 6 ma = some ()) (hop : Op_cache J xa ma oa) {h : Hp} {H : Heap} {locs : List Loc} {ls : Array Slot} {t : Nat} (ht : t + 5 ≤ L) (hM : SM D G s.heap.size h H) (hS : va_S (Ab s.heap.size) s.heap H locs) (hJ : J h) (hl : lvh ls 7 [(0, vr (b : Int)), (1, vr xa), (2, vr ma), (3, vr oa), (4, vi (t : Int))]) {cells slots : Nat} (hc : cells + 40 ≤ 100000) (hs : slots + 3000 ≤ 2000000) (cont : ∀ (h : Hp) (H : Heap) (locs : List Loc) (ls : Array Slot), J h → SM D G s.heap.size h H → va_S (Ab s.heap.size) s.heap H locs → lvh ls 7 [(0, vr (b : Int)), (1, vr xa), (2, vr ma), (3, vr oa), (4, vi (t : Int))] → W p l e room_1 s m #[Value.ref b] below meth c H locs (cells + 40) (slots + 3000) Q (F0 m 1032 ls [])) : W p l e room_1 s m #[Value.ref b] below meth c H locs cells slots Q (F0 m 116 ls []) := by
  obtain ⟨hx, hb, hr, hml, hown, hts0, hX, hbl, hlocks, hgv⟩ := id C0
  have hts : ∀ w ∈ BW, w.before #[Value.ref b] s = true := fun w hw => hts0 w (bw_tbl hw)
  have hbA : ¬ (Ab s.heap.size) b := Nat.not_le.mpr hbl
  replace hown : s.vm.findClass RL = some m.cls := hown
  obtain ⟨code, rv, h1, h2, g, hcd, g0, g1, hm⟩ := hop h (xs (t + 1)).toInt (xs (t + 2)).toInt (xs (t + 3)).toInt (xs (t + 4)).toInt (inr_ti _) (inr_ti _) (inr_ti _) (inr_ti _) hJ
  refine s_aload_n hx hb dL_law_116 rfl (la hl 1 rfl) ?_
  refine s_aload_n hx hb dL_law_117 rfl (la hl 0 rfl) ?_
  refine lv_iload hx hb dL_law_118 (la hl 4 rfl) ?_
  refine lv_iconst (v := Int32.ofInt 1) hx hb dL_law_120 rfl ?_
  refine s_iadd hx hb dL_law_121 ?_
  refine s_sld (t := t + 1) hx hb hX hbl hbA hS (by rw [wr_eq ⟨by omega, by omega⟩]; omega) (by omega) hL dL_law_122 ?_
  refine s_aload_n hx hb dL_law_123 rfl (la hl 0 rfl) ?_
  refine lv_iload hx hb dL_law_124 (la hl 4 rfl) ?_
  refine lv_iconst (v := Int32.ofInt 2) hx hb dL_law_126 rfl ?_
  refine s_iadd hx hb dL_law_127 ?_
  refine s_sld (t := t + 2) hx hb hX hbl hbA hS (by rw [wr_eq ⟨by omega, by omega⟩]; omega) (by omega) hL dL_law_128 ?_
  refine s_aload_n hx hb dL_law_129 rfl (la hl 0 rfl) ?_
  refine lv_iload hx hb dL_law_130 (la hl 4 rfl) ?_
  refine lv_iconst (v := Int32.ofInt 3) hx hb dL_law_132 rfl ?_
  refine s_iadd hx hb dL_law_133 ?_
  refine s_sld (t := t + 3) hx hb hX hbl hbA hS (by rw [wr_eq ⟨by omega, by omega⟩]; omega) (by omega) hL dL_law_134 ?_
  refine s_aload_n hx hb dL_law_135 rfl (la hl 0 rfl) ?_
  refine lv_iload hx hb dL_law_136 (la hl 4 rfl) ?_
  refine lv_iconst (v := Int32.ofInt 4) hx hb dL_law_138 rfl ?_
  refine s_iadd hx hb dL_law_139 ?_
  refine s_sld (t := t + 4) hx hb hX hbl hbA hS (by rw [wr_eq ⟨by omega, by omega⟩]; omega) (by omega) hL dL_law_140 ?_
  refine s_aload_n hx hb dL_law_141 rfl (la hl 3 rfl) ?_
  refine s_callL (n := 6) (rest := []) [vr xa, vi (xs (t + 1)).toInt, vi (xs (t + 2)).toInt, vi (xs (t + 3)).toInt, vi (xs (t + 4)).toInt, vr oa] hx hb hml hown hts hE hM hS (c_L_cache l D G s.heap.size h h1 h2 xa (xs (t + 1)).toInt (xs (t + 2)).toInt (xs (t + 3)).toInt (xs (t + 4)).toInt oa code rv () (inr_ti _) (inr_ti _) (inr_ti _) (inr_ti _) (hJ5 h hJ) g hcd g0 g1) kw_172 kw_170 kw_36 kw_171 (by decide +kernel) ⟨Nat.le_of_ble_eq_true rfl, Nat.le_of_ble_eq_true rfl⟩ rfl hl.1.1 rfl (c8 c_0 (Nat.le_of_ble_eq_true rfl)) dL_law_142 ⟨Nat.le_trans (by show cells + 24 ≤ 100000; omega) rm_c, Nat.le_trans (by show slots + 82 ≤ 2000000; omega) rm_s⟩ (fun H locs k9 hk9 hM hS => ?_)
  obtain ⟨u6, bv, h3, g3, g4, g5, hJ3⟩ := hm k9 hk9
  have hkz : kL_cache code = 0 → code = 0 := by rcases hcd with rfl | rfl <;> decide
  have ikL : inr (kL_cache code) := by rcases hcd with rfl | rfl <;> decide
  refine t_istore (lv' := [(5, vi (kL_cache code)), (0, vr (b : Int)), (1, vr xa), (2, vr ma), (3, vr oa), (4, vi (t : Int))]) hx hb dL_law_145 hl (by decide) rfl (fun ls hl => ?_)
  refine s_aload_n hx hb dL_law_147 rfl (la hl 3 rfl) ?_
  refine s_aload_n hx hb dL_law_148 rfl (la hl 1 rfl) ?_
  refine lv_iload hx hb dL_law_149 (la hl 5 rfl) ?_
  refine lv_iconst (v := Int32.ofInt 1) hx hb dL_law_151 rfl ?_
  refine s_iadd hx hb dL_law_152 ?_
  refine s_sld (t := t + 1) hx hb hX hbl hbA hS (by rw [wr_eq ⟨by omega, by omega⟩]; omega) (by omega) hL dL_law_153 ?_
  refine s_aload_n hx hb dL_law_154 rfl (la hl 1 rfl) ?_
  refine lv_iload hx hb dL_law_155 (la hl 5 rfl) ?_
  refine lv_iconst (v := Int32.ofInt 2) hx hb dL_law_157 rfl ?_
  refine s_iadd hx hb dL_law_158 ?_
  refine s_sld (t := t + 2) hx hb hX hbl hbA hS (by rw [wr_eq ⟨by omega, by omega⟩]; omega) (by omega) hL dL_law_159 ?_
  refine s_aload_n hx hb dL_law_160 rfl (la hl 1 rfl) ?_
  refine lv_iload hx hb dL_law_161 (la hl 5 rfl) ?_
  refine lv_iconst (v := Int32.ofInt 3) hx hb dL_law_163 rfl ?_
  refine s_iadd hx hb dL_law_164 ?_
  refine s_sld (t := t + 3) hx hb hX hbl hbA hS (by rw [wr_eq ⟨by omega, by omega⟩]; omega) (by omega) hL dL_law_165 ?_
  refine s_aload_n hx hb dL_law_166 rfl (la hl 1 rfl) ?_
  refine lv_iload hx hb dL_law_167 (la hl 5 rfl) ?_
  refine lv_iconst (v := Int32.ofInt 4) hx hb dL_law_169 rfl ?_
  refine s_iadd hx hb dL_law_170 ?_
  refine s_sld (t := t + 4) hx hb hX hbl hbA hS (by rw [wr_eq ⟨by omega, by omega⟩]; omega) (by omega) hL dL_law_171 ?_
  refine s_callV (n := 4) (rest := []) [vi (xs (t + 1)).toInt, vi (xs (t + 2)).toInt, vi (xs (t + 3)).toInt, vi (xs (t + 4)).toInt] hx hb hml hown hts hE hM hS (c_X6_cache l D G s.heap.size (hsN h2 k9) h3 ma (xs (t + 1)).toInt (xs (t + 2)).toInt (xs (t + 3)).toInt (xs (t + 4)).toInt bv (inr_ti _) (inr_ti _) (inr_ti _) (inr_ti _) g3) kw_758 kw_755 kw_40 kw_756 kw_757 (by decide +kernel) ⟨Nat.le_of_ble_eq_true rfl, Nat.le_of_ble_eq_true rfl⟩ rfl rfl (by decide) u6 rfl hl.1.1 rfl (c8 c_0 (Nat.le_of_ble_eq_true rfl)) dL_law_172 ⟨Nat.le_trans (by show cells + 24 + 0 ≤ 100000; omega) rm_c, Nat.le_trans (by show slots + 82 + 0 ≤ 2000000; omega) rm_s⟩ (fun H locs i_b hM hS => ?_)
  refine W.eq (g2 := F0 m 175 ls [vi bv]) rfl ?_
  refine t_istore (lv' := [(6, vi bv), (5, vi (kL_cache code)), (0, vr (b : Int)), (1, vr xa), (2, vr ma), (3, vr oa), (4, vi (t : Int))]) hx hb dL_law_175 hl (by decide) rfl (fun ls hl => ?_)
  refine s_aload_n hx hb dL_law_177 rfl (la hl 4 rfl) ?_
  refine s_callV (n := 0) (rest := []) [] hx hb hml hown hts hE hM hS (c_X6_thrown l D G s.heap.size h3 h3 ma (kL_cache code) g4) kw_754 kw_751 kw_40 kw_752 kw_753 (by decide +kernel) ⟨Nat.le_of_ble_eq_true rfl, Nat.le_of_ble_eq_true rfl⟩ rfl rfl (by decide) (hJ6 h3 hJ3) rfl hl.1.1 rfl (c8 c_0 (Nat.le_of_ble_eq_true rfl)) dL_law_178 ⟨Nat.le_trans (by show cells + 24 + 0 + 0 ≤ 100000; omega) rm_c, Nat.le_trans (by show slots + 82 + 0 + 0 ≤ 2000000; omega) rm_s⟩ (fun H locs i_k hM hS => ?_)
  refine W.eq (g2 := F0 m 181 ls [vi (kL_cache code)]) rfl ?_
  refine W.widen (k := cells + 40) (n := slots + 3000) (by show cells + 24 + 0 + 0 ≤ _; omega) (by show slots + 82 + 0 + 0 ≤ _; omega) ?_
  refine lv_iload hx hb dL_law_181 (la hl 1 rfl) ?_
  refine s_icmp_eq (tgt := 188) hx hb dL_law_183 (by decide) ikL ikL (fun _ => ?_) (fun cd => absurd rfl cd)
  refine lv_iload hx hb dL_law_188 (la hl 1 rfl) ?_
  refine s_if_ne (tgt := 205) hx hb dL_law_190 (by decide) ikL (fun cd => ?_) (fun cd => ?_)
  · refine lv_goto (tgt := 1032) hx hb dL_law_205 (by decide) ?_
    exact cont h3 H locs ls hJ3 hM hS (lsub hl [2, 3, 4, 5, 6] rfl)
  · have hc0 := hkz (Classical.byContradiction cd)
    refine s_aload_n hx hb dL_law_193 rfl (la hl 5 rfl) ?_
    refine lv_iconst (v := Int32.ofInt 0) hx hb dL_law_194 rfl ?_
    refine s_lald hx hb hE.1 hM (by decide) (g5 hc0) dL_law_195 ?_
    refine lv_iload hx hb dL_law_196 (la hl 0 rfl) ?_
    refine s_i2l hx hb i_b dL_law_198 ?_
    refine s_lcmp hx hb i_b i_b dL_law_199 ?_
    refine s_if_eq (tgt := 205) hx hb dL_law_200 (by decide) (inr_cm _ _) (fun _ => ?_) (fun cd2 => absurd (by unfold lcm; rw [if_neg (by omega), if_pos rfl]) cd2)
    refine lv_goto (tgt := 1032) hx hb dL_law_205 (by decide) ?_
    exact cont h3 H locs ls hJ3 hM hS (lsub hl [2, 3, 4, 5, 6] rfl)
set_option maxHeartbeats 4000000 in
set_option maxRecDepth 100000 in
theorem law_drop {p : Program} {l : Launch} {e : Env} {s : State} {m : MethodId} {below : List Frame} {meth : Method} {c : Code} {b L : Nat} {xs : Nat → Int32} {D : va_G} {G : Nat → ClassId} {J : Hp → Prop} {xa ma oa : Int} {Q : State → Prop} (C0 : lw_At p s m meth c b L xs) (hL : L ≤ 2560) (hE : EV l D G s.heap.size s) (hJ5 : ∀ h, J h → ckd h 5 xa = some ()) (hJ6 : ∀ h, J h → ckd h 6 ma = some ()) (hop : Op_drop J xa ma oa) {h : Hp} {H : Heap} {locs : List Loc} {ls : Array Slot} {t : Nat} (ht : t + 5 ≤ L) (hM : SM D G s.heap.size h H) (hS : va_S (Ab s.heap.size) s.heap H locs) (hJ : J h) (hl : lvh ls 7 [(0, vr (b : Int)), (1, vr xa), (2, vr ma), (3, vr oa), (4, vi (t : Int))]) {cells slots : Nat} (hc : cells + 40 ≤ 100000) (hs : slots + 3000 ≤ 2000000) (cont : ∀ (h : Hp) (H : Heap) (locs : List Loc) (ls : Array Slot), J h → SM D G s.heap.size h H → va_S (Ab s.heap.size) s.heap H locs → lvh ls 7 [(0, vr (b : Int)), (1, vr xa), (2, vr ma), (3, vr oa), (4, vi (t : Int))] → W p l e room_1 s m #[Value.ref b] below meth c H locs (cells + 40) (slots + 3000) Q (F0 m 1032 ls [])) : W p l e room_1 s m #[Value.ref b] below meth c H locs cells slots Q (F0 m 208 ls []) := by
  obtain ⟨hx, hb, hr, hml, hown, hts0, hX, hbl, hlocks, hgv⟩ := id C0
  have hts : ∀ w ∈ BW, w.before #[Value.ref b] s = true := fun w hw => hts0 w (bw_tbl hw)
  have hbA : ¬ (Ab s.heap.size) b := Nat.not_le.mpr hbl
  replace hown : s.vm.findClass RL = some m.cls := hown
  obtain ⟨code, rv, h1, h2, g, hcd, g0, g1, hm⟩ := hop h (xs (t + 1)).toInt (inr_ti _) hJ
  refine s_aload_n hx hb dL_law_208 rfl (la hl 1 rfl) ?_
  refine s_aload_n hx hb dL_law_209 rfl (la hl 0 rfl) ?_
  refine lv_iload hx hb dL_law_210 (la hl 4 rfl) ?_
  refine lv_iconst (v := Int32.ofInt 1) hx hb dL_law_212 rfl ?_
  refine s_iadd hx hb dL_law_213 ?_
  refine s_sld (t := t + 1) hx hb hX hbl hbA hS (by rw [wr_eq ⟨by omega, by omega⟩]; omega) (by omega) hL dL_law_214 ?_
  refine s_aload_n hx hb dL_law_215 rfl (la hl 3 rfl) ?_
  refine s_callL (n := 3) (rest := []) [vr xa, vi (xs (t + 1)).toInt, vr oa] hx hb hml hown hts hE hM hS (c_L_drop l D G s.heap.size h h1 h2 xa (xs (t + 1)).toInt oa code rv () (inr_ti _) (hJ5 h hJ) g hcd g0 g1) kw_355 kw_353 kw_36 kw_354 (by decide +kernel) ⟨Nat.le_of_ble_eq_true rfl, Nat.le_of_ble_eq_true rfl⟩ rfl hl.1.1 rfl (c8 c_0 (Nat.le_of_ble_eq_true rfl)) dL_law_216 ⟨Nat.le_trans (by show cells + 2 ≤ 100000; omega) rm_c, Nat.le_trans (by show slots + 12 ≤ 2000000; omega) rm_s⟩ (fun H locs k9 hk9 hM hS => ?_)
  obtain ⟨u6, bv, h3, g3, g4, g5, hJ3⟩ := hm k9 hk9
  have hkz : kL_drop code = 0 → code = 0 := by rcases hcd with rfl | rfl | rfl <;> decide
  have ikL : inr (kL_drop code) := by rcases hcd with rfl | rfl | rfl <;> decide
  refine t_istore (lv' := [(5, vi (kL_drop code)), (0, vr (b : Int)), (1, vr xa), (2, vr ma), (3, vr oa), (4, vi (t : Int))]) hx hb dL_law_219 hl (by decide) rfl (fun ls hl => ?_)
  refine s_aload_n hx hb dL_law_221 rfl (la hl 3 rfl) ?_
  refine s_aload_n hx hb dL_law_222 rfl (la hl 1 rfl) ?_
  refine lv_iload hx hb dL_law_223 (la hl 5 rfl) ?_
  refine lv_iconst (v := Int32.ofInt 1) hx hb dL_law_225 rfl ?_
  refine s_iadd hx hb dL_law_226 ?_
  refine s_sld (t := t + 1) hx hb hX hbl hbA hS (by rw [wr_eq ⟨by omega, by omega⟩]; omega) (by omega) hL dL_law_227 ?_
  refine s_callV (n := 1) (rest := []) [vi (xs (t + 1)).toInt] hx hb hml hown hts hE hM hS (c_X6_drop l D G s.heap.size (hsN h2 k9) h3 ma (xs (t + 1)).toInt bv (inr_ti _) g3) kw_769 kw_766 kw_40 kw_767 kw_768 (by decide +kernel) ⟨Nat.le_of_ble_eq_true rfl, Nat.le_of_ble_eq_true rfl⟩ rfl rfl (by decide) u6 rfl hl.1.1 rfl (c8 c_0 (Nat.le_of_ble_eq_true rfl)) dL_law_228 ⟨Nat.le_trans (by show cells + 2 + 0 ≤ 100000; omega) rm_c, Nat.le_trans (by show slots + 12 + 0 ≤ 2000000; omega) rm_s⟩ (fun H locs i_b hM hS => ?_)
  refine W.eq (g2 := F0 m 231 ls [vi bv]) rfl ?_
  refine t_istore (lv' := [(6, vi bv), (5, vi (kL_drop code)), (0, vr (b : Int)), (1, vr xa), (2, vr ma), (3, vr oa), (4, vi (t : Int))]) hx hb dL_law_231 hl (by decide) rfl (fun ls hl => ?_)
  refine s_aload_n hx hb dL_law_233 rfl (la hl 4 rfl) ?_
  refine s_callV (n := 0) (rest := []) [] hx hb hml hown hts hE hM hS (c_X6_thrown l D G s.heap.size h3 h3 ma (kL_drop code) g4) kw_754 kw_751 kw_40 kw_752 kw_753 (by decide +kernel) ⟨Nat.le_of_ble_eq_true rfl, Nat.le_of_ble_eq_true rfl⟩ rfl rfl (by decide) (hJ6 h3 hJ3) rfl hl.1.1 rfl (c8 c_0 (Nat.le_of_ble_eq_true rfl)) dL_law_234 ⟨Nat.le_trans (by show cells + 2 + 0 + 0 ≤ 100000; omega) rm_c, Nat.le_trans (by show slots + 12 + 0 + 0 ≤ 2000000; omega) rm_s⟩ (fun H locs i_k hM hS => ?_)
  refine W.eq (g2 := F0 m 237 ls [vi (kL_drop code)]) rfl ?_
  refine W.widen (k := cells + 40) (n := slots + 3000) (by show cells + 2 + 0 + 0 ≤ _; omega) (by show slots + 12 + 0 + 0 ≤ _; omega) ?_
  refine lv_iload hx hb dL_law_237 (la hl 1 rfl) ?_
  refine s_icmp_eq (tgt := 244) hx hb dL_law_239 (by decide) ikL ikL (fun _ => ?_) (fun cd => absurd rfl cd)
  refine lv_iload hx hb dL_law_244 (la hl 1 rfl) ?_
  refine s_if_ne (tgt := 261) hx hb dL_law_246 (by decide) ikL (fun cd => ?_) (fun cd => ?_)
  · refine lv_goto (tgt := 1032) hx hb dL_law_261 (by decide) ?_
    exact cont h3 H locs ls hJ3 hM hS (lsub hl [2, 3, 4, 5, 6] rfl)
  · have hc0 := hkz (Classical.byContradiction cd)
    refine s_aload_n hx hb dL_law_249 rfl (la hl 5 rfl) ?_
    refine lv_iconst (v := Int32.ofInt 0) hx hb dL_law_250 rfl ?_
    refine s_lald hx hb hE.1 hM (by decide) (g5 hc0) dL_law_251 ?_
    refine lv_iload hx hb dL_law_252 (la hl 0 rfl) ?_
    refine s_i2l hx hb i_b dL_law_254 ?_
    refine s_lcmp hx hb i_b i_b dL_law_255 ?_
    refine s_if_eq (tgt := 261) hx hb dL_law_256 (by decide) (inr_cm _ _) (fun _ => ?_) (fun cd2 => absurd (by unfold lcm; rw [if_neg (by omega), if_pos rfl]) cd2)
    refine lv_goto (tgt := 1032) hx hb dL_law_261 (by decide) ?_
    exact cont h3 H locs ls hJ3 hM hS (lsub hl [2, 3, 4, 5, 6] rfl)
set_option maxHeartbeats 4000000 in
set_option maxRecDepth 100000 in
theorem law_allocate {p : Program} {l : Launch} {e : Env} {s : State} {m : MethodId} {below : List Frame} {meth : Method} {c : Code} {b L : Nat} {xs : Nat → Int32} {D : va_G} {G : Nat → ClassId} {J : Hp → Prop} {xa ma oa : Int} {Q : State → Prop} (C0 : lw_At p s m meth c b L xs) (hL : L ≤ 2560) (hE : EV l D G s.heap.size s) (hJ5 : ∀ h, J h → ckd h 5 xa = some ()) (hJ6 : ∀ h, J h → ckd h 6 ma = some ()) (hop : Op_allocate J xa ma oa) {h : Hp} {H : Heap} {locs : List Loc} {ls : Array Slot} {t : Nat} (ht : t + 5 ≤ L) (hM : SM D G s.heap.size h H) (hS : va_S (Ab s.heap.size) s.heap H locs) (hJ : J h) (hl : lvh ls 7 [(0, vr (b : Int)), (1, vr xa), (2, vr ma), (3, vr oa), (4, vi (t : Int))]) {cells slots : Nat} (hc : cells + 40 ≤ 100000) (hs : slots + 3000 ≤ 2000000) (cont : ∀ (h : Hp) (H : Heap) (locs : List Loc) (ls : Array Slot), J h → SM D G s.heap.size h H → va_S (Ab s.heap.size) s.heap H locs → lvh ls 7 [(0, vr (b : Int)), (1, vr xa), (2, vr ma), (3, vr oa), (4, vi (t : Int))] → W p l e room_1 s m #[Value.ref b] below meth c H locs (cells + 40) (slots + 3000) Q (F0 m 1032 ls [])) : W p l e room_1 s m #[Value.ref b] below meth c H locs cells slots Q (F0 m 264 ls []) := by
  obtain ⟨hx, hb, hr, hml, hown, hts0, hX, hbl, hlocks, hgv⟩ := id C0
  have hts : ∀ w ∈ BW, w.before #[Value.ref b] s = true := fun w hw => hts0 w (bw_tbl hw)
  have hbA : ¬ (Ab s.heap.size) b := Nat.not_le.mpr hbl
  replace hown : s.vm.findClass RL = some m.cls := hown
  obtain ⟨code, rv, h1, h2, g, hcd, g0, g1, hm⟩ := hop h (xs (t + 1)).toInt (xs (t + 2)).toInt (inr_ti _) (inr_ti _) hJ
  refine s_aload_n hx hb dL_law_264 rfl (la hl 1 rfl) ?_
  refine s_aload_n hx hb dL_law_265 rfl (la hl 0 rfl) ?_
  refine lv_iload hx hb dL_law_266 (la hl 4 rfl) ?_
  refine lv_iconst (v := Int32.ofInt 1) hx hb dL_law_268 rfl ?_
  refine s_iadd hx hb dL_law_269 ?_
  refine s_sld (t := t + 1) hx hb hX hbl hbA hS (by rw [wr_eq ⟨by omega, by omega⟩]; omega) (by omega) hL dL_law_270 ?_
  refine s_aload_n hx hb dL_law_271 rfl (la hl 0 rfl) ?_
  refine lv_iload hx hb dL_law_272 (la hl 4 rfl) ?_
  refine lv_iconst (v := Int32.ofInt 2) hx hb dL_law_274 rfl ?_
  refine s_iadd hx hb dL_law_275 ?_
  refine s_sld (t := t + 2) hx hb hX hbl hbA hS (by rw [wr_eq ⟨by omega, by omega⟩]; omega) (by omega) hL dL_law_276 ?_
  refine s_aload_n hx hb dL_law_277 rfl (la hl 3 rfl) ?_
  refine s_callL (n := 4) (rest := []) [vr xa, vi (xs (t + 1)).toInt, vi (xs (t + 2)).toInt, vr oa] hx hb hml hown hts hE hM hS (c_L_allocate l D G s.heap.size h h1 h2 xa (xs (t + 1)).toInt (xs (t + 2)).toInt oa code rv () (inr_ti _) (inr_ti _) (hJ5 h hJ) g hcd g0 g1) kw_400 kw_398 kw_36 kw_399 (by decide +kernel) ⟨Nat.le_of_ble_eq_true rfl, Nat.le_of_ble_eq_true rfl⟩ rfl hl.1.1 rfl (c8 c_0 (Nat.le_of_ble_eq_true rfl)) dL_law_278 ⟨Nat.le_trans (by show cells + 7 ≤ 100000; omega) rm_c, Nat.le_trans (by show slots + 2079 ≤ 2000000; omega) rm_s⟩ (fun H locs k9 hk9 hM hS => ?_)
  obtain ⟨u6, bv, h3, g3, g4, g5, hJ3⟩ := hm k9 hk9
  have hkz : kL_allocate code = 0 → code = 0 := by rcases hcd with rfl | rfl | rfl <;> decide
  have ikL : inr (kL_allocate code) := by rcases hcd with rfl | rfl | rfl <;> decide
  refine t_istore (lv' := [(5, vi (kL_allocate code)), (0, vr (b : Int)), (1, vr xa), (2, vr ma), (3, vr oa), (4, vi (t : Int))]) hx hb dL_law_281 hl (by decide) rfl (fun ls hl => ?_)
  refine s_aload_n hx hb dL_law_283 rfl (la hl 3 rfl) ?_
  refine s_aload_n hx hb dL_law_284 rfl (la hl 1 rfl) ?_
  refine lv_iload hx hb dL_law_285 (la hl 5 rfl) ?_
  refine lv_iconst (v := Int32.ofInt 1) hx hb dL_law_287 rfl ?_
  refine s_iadd hx hb dL_law_288 ?_
  refine s_sld (t := t + 1) hx hb hX hbl hbA hS (by rw [wr_eq ⟨by omega, by omega⟩]; omega) (by omega) hL dL_law_289 ?_
  refine s_aload_n hx hb dL_law_290 rfl (la hl 1 rfl) ?_
  refine lv_iload hx hb dL_law_291 (la hl 5 rfl) ?_
  refine lv_iconst (v := Int32.ofInt 2) hx hb dL_law_293 rfl ?_
  refine s_iadd hx hb dL_law_294 ?_
  refine s_sld (t := t + 2) hx hb hX hbl hbA hS (by rw [wr_eq ⟨by omega, by omega⟩]; omega) (by omega) hL dL_law_295 ?_
  refine s_callV (n := 2) (rest := []) [vi (xs (t + 1)).toInt, vi (xs (t + 2)).toInt] hx hb hml hown hts hE hM hS (c_X6_allocate l D G s.heap.size (hsN h2 k9) h3 ma (xs (t + 1)).toInt (xs (t + 2)).toInt bv (inr_ti _) (inr_ti _) g3) kw_821 kw_818 kw_40 kw_819 kw_820 (by decide +kernel) ⟨Nat.le_of_ble_eq_true rfl, Nat.le_of_ble_eq_true rfl⟩ rfl rfl (by decide) u6 rfl hl.1.1 rfl (c8 c_0 (Nat.le_of_ble_eq_true rfl)) dL_law_296 ⟨Nat.le_trans (by show cells + 7 + 0 ≤ 100000; omega) rm_c, Nat.le_trans (by show slots + 2079 + 0 ≤ 2000000; omega) rm_s⟩ (fun H locs i_b hM hS => ?_)
  refine W.eq (g2 := F0 m 299 ls [vi bv]) rfl ?_
  refine t_istore (lv' := [(6, vi bv), (5, vi (kL_allocate code)), (0, vr (b : Int)), (1, vr xa), (2, vr ma), (3, vr oa), (4, vi (t : Int))]) hx hb dL_law_299 hl (by decide) rfl (fun ls hl => ?_)
  refine s_aload_n hx hb dL_law_301 rfl (la hl 4 rfl) ?_
  refine s_callV (n := 0) (rest := []) [] hx hb hml hown hts hE hM hS (c_X6_thrown l D G s.heap.size h3 h3 ma (kL_allocate code) g4) kw_754 kw_751 kw_40 kw_752 kw_753 (by decide +kernel) ⟨Nat.le_of_ble_eq_true rfl, Nat.le_of_ble_eq_true rfl⟩ rfl rfl (by decide) (hJ6 h3 hJ3) rfl hl.1.1 rfl (c8 c_0 (Nat.le_of_ble_eq_true rfl)) dL_law_302 ⟨Nat.le_trans (by show cells + 7 + 0 + 0 ≤ 100000; omega) rm_c, Nat.le_trans (by show slots + 2079 + 0 + 0 ≤ 2000000; omega) rm_s⟩ (fun H locs i_k hM hS => ?_)
  refine W.eq (g2 := F0 m 305 ls [vi (kL_allocate code)]) rfl ?_
  refine W.widen (k := cells + 40) (n := slots + 3000) (by show cells + 7 + 0 + 0 ≤ _; omega) (by show slots + 2079 + 0 + 0 ≤ _; omega) ?_
  refine lv_iload hx hb dL_law_305 (la hl 1 rfl) ?_
  refine s_icmp_eq (tgt := 312) hx hb dL_law_307 (by decide) ikL ikL (fun _ => ?_) (fun cd => absurd rfl cd)
  refine lv_iload hx hb dL_law_312 (la hl 1 rfl) ?_
  refine s_if_ne (tgt := 329) hx hb dL_law_314 (by decide) ikL (fun cd => ?_) (fun cd => ?_)
  · refine lv_goto (tgt := 1032) hx hb dL_law_329 (by decide) ?_
    exact cont h3 H locs ls hJ3 hM hS (lsub hl [2, 3, 4, 5, 6] rfl)
  · have hc0 := hkz (Classical.byContradiction cd)
    refine s_aload_n hx hb dL_law_317 rfl (la hl 5 rfl) ?_
    refine lv_iconst (v := Int32.ofInt 0) hx hb dL_law_318 rfl ?_
    refine s_lald hx hb hE.1 hM (by decide) (g5 hc0) dL_law_319 ?_
    refine lv_iload hx hb dL_law_320 (la hl 0 rfl) ?_
    refine s_i2l hx hb i_b dL_law_322 ?_
    refine s_lcmp hx hb i_b i_b dL_law_323 ?_
    refine s_if_eq (tgt := 329) hx hb dL_law_324 (by decide) (inr_cm _ _) (fun _ => ?_) (fun cd2 => absurd (by unfold lcm; rw [if_neg (by omega), if_pos rfl]) cd2)
    refine lv_goto (tgt := 1032) hx hb dL_law_329 (by decide) ?_
    exact cont h3 H locs ls hJ3 hM hS (lsub hl [2, 3, 4, 5, 6] rfl)
set_option maxHeartbeats 4000000 in
set_option maxRecDepth 100000 in
theorem law_free {p : Program} {l : Launch} {e : Env} {s : State} {m : MethodId} {below : List Frame} {meth : Method} {c : Code} {b L : Nat} {xs : Nat → Int32} {D : va_G} {G : Nat → ClassId} {J : Hp → Prop} {xa ma oa : Int} {Q : State → Prop} (C0 : lw_At p s m meth c b L xs) (hL : L ≤ 2560) (hE : EV l D G s.heap.size s) (hJ5 : ∀ h, J h → ckd h 5 xa = some ()) (hJ6 : ∀ h, J h → ckd h 6 ma = some ()) (hop : Op_free J xa ma oa) {h : Hp} {H : Heap} {locs : List Loc} {ls : Array Slot} {t : Nat} (ht : t + 5 ≤ L) (hM : SM D G s.heap.size h H) (hS : va_S (Ab s.heap.size) s.heap H locs) (hJ : J h) (hl : lvh ls 7 [(0, vr (b : Int)), (1, vr xa), (2, vr ma), (3, vr oa), (4, vi (t : Int))]) {cells slots : Nat} (hc : cells + 40 ≤ 100000) (hs : slots + 3000 ≤ 2000000) (cont : ∀ (h : Hp) (H : Heap) (locs : List Loc) (ls : Array Slot), J h → SM D G s.heap.size h H → va_S (Ab s.heap.size) s.heap H locs → lvh ls 7 [(0, vr (b : Int)), (1, vr xa), (2, vr ma), (3, vr oa), (4, vi (t : Int))] → W p l e room_1 s m #[Value.ref b] below meth c H locs (cells + 40) (slots + 3000) Q (F0 m 1032 ls [])) : W p l e room_1 s m #[Value.ref b] below meth c H locs cells slots Q (F0 m 332 ls []) := by
  obtain ⟨hx, hb, hr, hml, hown, hts0, hX, hbl, hlocks, hgv⟩ := id C0
  have hts : ∀ w ∈ BW, w.before #[Value.ref b] s = true := fun w hw => hts0 w (bw_tbl hw)
  have hbA : ¬ (Ab s.heap.size) b := Nat.not_le.mpr hbl
  replace hown : s.vm.findClass RL = some m.cls := hown
  obtain ⟨code, rv, h1, h2, g, hcd, g0, g1, hm⟩ := hop h (xs (t + 1)).toInt (xs (t + 2)).toInt (inr_ti _) (inr_ti _) hJ
  refine s_aload_n hx hb dL_law_332 rfl (la hl 1 rfl) ?_
  refine s_aload_n hx hb dL_law_333 rfl (la hl 0 rfl) ?_
  refine lv_iload hx hb dL_law_334 (la hl 4 rfl) ?_
  refine lv_iconst (v := Int32.ofInt 1) hx hb dL_law_336 rfl ?_
  refine s_iadd hx hb dL_law_337 ?_
  refine s_sld (t := t + 1) hx hb hX hbl hbA hS (by rw [wr_eq ⟨by omega, by omega⟩]; omega) (by omega) hL dL_law_338 ?_
  refine s_aload_n hx hb dL_law_339 rfl (la hl 0 rfl) ?_
  refine lv_iload hx hb dL_law_340 (la hl 4 rfl) ?_
  refine lv_iconst (v := Int32.ofInt 2) hx hb dL_law_342 rfl ?_
  refine s_iadd hx hb dL_law_343 ?_
  refine s_sld (t := t + 2) hx hb hX hbl hbA hS (by rw [wr_eq ⟨by omega, by omega⟩]; omega) (by omega) hL dL_law_344 ?_
  refine s_aload_n hx hb dL_law_345 rfl (la hl 3 rfl) ?_
  refine s_callL (n := 4) (rest := []) [vr xa, vi (xs (t + 1)).toInt, vi (xs (t + 2)).toInt, vr oa] hx hb hml hown hts hE hM hS (c_L_free l D G s.heap.size h h1 h2 xa (xs (t + 1)).toInt (xs (t + 2)).toInt oa code rv () (inr_ti _) (inr_ti _) (hJ5 h hJ) g hcd g0 g1) kw_539 kw_537 kw_36 kw_538 (by decide +kernel) ⟨Nat.le_of_ble_eq_true rfl, Nat.le_of_ble_eq_true rfl⟩ rfl hl.1.1 rfl (c8 c_0 (Nat.le_of_ble_eq_true rfl)) dL_law_346 ⟨Nat.le_trans (by show cells + 3 ≤ 100000; omega) rm_c, Nat.le_trans (by show slots + 12 ≤ 2000000; omega) rm_s⟩ (fun H locs k9 hk9 hM hS => ?_)
  obtain ⟨u6, bv, h3, g3, g4, g5, hJ3⟩ := hm k9 hk9
  have hkz : kL_free code = 0 → code = 0 := by rcases hcd with rfl | rfl | rfl | rfl <;> decide
  have ikL : inr (kL_free code) := by rcases hcd with rfl | rfl | rfl | rfl <;> decide
  refine t_istore (lv' := [(5, vi (kL_free code)), (0, vr (b : Int)), (1, vr xa), (2, vr ma), (3, vr oa), (4, vi (t : Int))]) hx hb dL_law_349 hl (by decide) rfl (fun ls hl => ?_)
  refine s_aload_n hx hb dL_law_351 rfl (la hl 3 rfl) ?_
  refine s_aload_n hx hb dL_law_352 rfl (la hl 1 rfl) ?_
  refine lv_iload hx hb dL_law_353 (la hl 5 rfl) ?_
  refine lv_iconst (v := Int32.ofInt 1) hx hb dL_law_355 rfl ?_
  refine s_iadd hx hb dL_law_356 ?_
  refine s_sld (t := t + 1) hx hb hX hbl hbA hS (by rw [wr_eq ⟨by omega, by omega⟩]; omega) (by omega) hL dL_law_357 ?_
  refine s_aload_n hx hb dL_law_358 rfl (la hl 1 rfl) ?_
  refine lv_iload hx hb dL_law_359 (la hl 5 rfl) ?_
  refine lv_iconst (v := Int32.ofInt 2) hx hb dL_law_361 rfl ?_
  refine s_iadd hx hb dL_law_362 ?_
  refine s_sld (t := t + 2) hx hb hX hbl hbA hS (by rw [wr_eq ⟨by omega, by omega⟩]; omega) (by omega) hL dL_law_363 ?_
  refine s_callV (n := 2) (rest := []) [vi (xs (t + 1)).toInt, vi (xs (t + 2)).toInt] hx hb hml hown hts hE hM hS (c_X6_free l D G s.heap.size (hsN h2 k9) h3 ma (xs (t + 1)).toInt (xs (t + 2)).toInt bv (inr_ti _) (inr_ti _) g3) kw_845 kw_842 kw_40 kw_843 kw_844 (by decide +kernel) ⟨Nat.le_of_ble_eq_true rfl, Nat.le_of_ble_eq_true rfl⟩ rfl rfl (by decide) u6 rfl hl.1.1 rfl (c8 c_0 (Nat.le_of_ble_eq_true rfl)) dL_law_364 ⟨Nat.le_trans (by show cells + 3 + 0 ≤ 100000; omega) rm_c, Nat.le_trans (by show slots + 12 + 0 ≤ 2000000; omega) rm_s⟩ (fun H locs i_b hM hS => ?_)
  refine W.eq (g2 := F0 m 367 ls [vi bv]) rfl ?_
  refine t_istore (lv' := [(6, vi bv), (5, vi (kL_free code)), (0, vr (b : Int)), (1, vr xa), (2, vr ma), (3, vr oa), (4, vi (t : Int))]) hx hb dL_law_367 hl (by decide) rfl (fun ls hl => ?_)
  refine s_aload_n hx hb dL_law_369 rfl (la hl 4 rfl) ?_
  refine s_callV (n := 0) (rest := []) [] hx hb hml hown hts hE hM hS (c_X6_thrown l D G s.heap.size h3 h3 ma (kL_free code) g4) kw_754 kw_751 kw_40 kw_752 kw_753 (by decide +kernel) ⟨Nat.le_of_ble_eq_true rfl, Nat.le_of_ble_eq_true rfl⟩ rfl rfl (by decide) (hJ6 h3 hJ3) rfl hl.1.1 rfl (c8 c_0 (Nat.le_of_ble_eq_true rfl)) dL_law_370 ⟨Nat.le_trans (by show cells + 3 + 0 + 0 ≤ 100000; omega) rm_c, Nat.le_trans (by show slots + 12 + 0 + 0 ≤ 2000000; omega) rm_s⟩ (fun H locs i_k hM hS => ?_)
  refine W.eq (g2 := F0 m 373 ls [vi (kL_free code)]) rfl ?_
  refine W.widen (k := cells + 40) (n := slots + 3000) (by show cells + 3 + 0 + 0 ≤ _; omega) (by show slots + 12 + 0 + 0 ≤ _; omega) ?_
  refine lv_iload hx hb dL_law_373 (la hl 1 rfl) ?_
  refine s_icmp_eq (tgt := 380) hx hb dL_law_375 (by decide) ikL ikL (fun _ => ?_) (fun cd => absurd rfl cd)
  refine lv_iload hx hb dL_law_380 (la hl 1 rfl) ?_
  refine s_if_ne (tgt := 397) hx hb dL_law_382 (by decide) ikL (fun cd => ?_) (fun cd => ?_)
  · refine lv_goto (tgt := 1032) hx hb dL_law_397 (by decide) ?_
    exact cont h3 H locs ls hJ3 hM hS (lsub hl [2, 3, 4, 5, 6] rfl)
  · have hc0 := hkz (Classical.byContradiction cd)
    refine s_aload_n hx hb dL_law_385 rfl (la hl 5 rfl) ?_
    refine lv_iconst (v := Int32.ofInt 0) hx hb dL_law_386 rfl ?_
    refine s_lald hx hb hE.1 hM (by decide) (g5 hc0) dL_law_387 ?_
    refine lv_iload hx hb dL_law_388 (la hl 0 rfl) ?_
    refine s_i2l hx hb i_b dL_law_390 ?_
    refine s_lcmp hx hb i_b i_b dL_law_391 ?_
    refine s_if_eq (tgt := 397) hx hb dL_law_392 (by decide) (inr_cm _ _) (fun _ => ?_) (fun cd2 => absurd (by unfold lcm; rw [if_neg (by omega), if_pos rfl]) cd2)
    refine lv_goto (tgt := 1032) hx hb dL_law_397 (by decide) ?_
    exact cont h3 H locs ls hJ3 hM hS (lsub hl [2, 3, 4, 5, 6] rfl)
set_option maxHeartbeats 4000000 in
set_option maxRecDepth 100000 in
theorem law_mark {p : Program} {l : Launch} {e : Env} {s : State} {m : MethodId} {below : List Frame} {meth : Method} {c : Code} {b L : Nat} {xs : Nat → Int32} {D : va_G} {G : Nat → ClassId} {J : Hp → Prop} {xa ma oa : Int} {Q : State → Prop} (C0 : lw_At p s m meth c b L xs) (hL : L ≤ 2560) (hE : EV l D G s.heap.size s) (hJ5 : ∀ h, J h → ckd h 5 xa = some ()) (hJ6 : ∀ h, J h → ckd h 6 ma = some ()) (hop : Op_mark J xa ma oa) {h : Hp} {H : Heap} {locs : List Loc} {ls : Array Slot} {t : Nat} (ht : t + 5 ≤ L) (hM : SM D G s.heap.size h H) (hS : va_S (Ab s.heap.size) s.heap H locs) (hJ : J h) (hl : lvh ls 7 [(0, vr (b : Int)), (1, vr xa), (2, vr ma), (3, vr oa), (4, vi (t : Int))]) {cells slots : Nat} (hc : cells + 40 ≤ 100000) (hs : slots + 3000 ≤ 2000000) (cont : ∀ (h : Hp) (H : Heap) (locs : List Loc) (ls : Array Slot), J h → SM D G s.heap.size h H → va_S (Ab s.heap.size) s.heap H locs → lvh ls 7 [(0, vr (b : Int)), (1, vr xa), (2, vr ma), (3, vr oa), (4, vi (t : Int))] → W p l e room_1 s m #[Value.ref b] below meth c H locs (cells + 40) (slots + 3000) Q (F0 m 1032 ls [])) : W p l e room_1 s m #[Value.ref b] below meth c H locs cells slots Q (F0 m 400 ls []) := by
  obtain ⟨hx, hb, hr, hml, hown, hts0, hX, hbl, hlocks, hgv⟩ := id C0
  have hts : ∀ w ∈ BW, w.before #[Value.ref b] s = true := fun w hw => hts0 w (bw_tbl hw)
  have hbA : ¬ (Ab s.heap.size) b := Nat.not_le.mpr hbl
  replace hown : s.vm.findClass RL = some m.cls := hown
  obtain ⟨code, rv, h1, h2, g, hcd, g0, g1, hm⟩ := hop h (xs (t + 1)).toInt (xs (t + 2)).toInt (inr_ti _) (inr_ti _) hJ
  refine s_aload_n hx hb dL_law_400 rfl (la hl 1 rfl) ?_
  refine s_aload_n hx hb dL_law_401 rfl (la hl 0 rfl) ?_
  refine lv_iload hx hb dL_law_402 (la hl 4 rfl) ?_
  refine lv_iconst (v := Int32.ofInt 1) hx hb dL_law_404 rfl ?_
  refine s_iadd hx hb dL_law_405 ?_
  refine s_sld (t := t + 1) hx hb hX hbl hbA hS (by rw [wr_eq ⟨by omega, by omega⟩]; omega) (by omega) hL dL_law_406 ?_
  refine s_aload_n hx hb dL_law_407 rfl (la hl 0 rfl) ?_
  refine lv_iload hx hb dL_law_408 (la hl 4 rfl) ?_
  refine lv_iconst (v := Int32.ofInt 2) hx hb dL_law_410 rfl ?_
  refine s_iadd hx hb dL_law_411 ?_
  refine s_sld (t := t + 2) hx hb hX hbl hbA hS (by rw [wr_eq ⟨by omega, by omega⟩]; omega) (by omega) hL dL_law_412 ?_
  refine s_aload_n hx hb dL_law_413 rfl (la hl 3 rfl) ?_
  refine s_callL (n := 4) (rest := []) [vr xa, vi (xs (t + 1)).toInt, vi (xs (t + 2)).toInt, vr oa] hx hb hml hown hts hE hM hS (c_L_mark l D G s.heap.size h h1 h2 xa (xs (t + 1)).toInt (xs (t + 2)).toInt oa code rv () (inr_ti _) (inr_ti _) (hJ5 h hJ) g hcd g0 g1) kw_579 kw_577 kw_36 kw_578 (by decide +kernel) ⟨Nat.le_of_ble_eq_true rfl, Nat.le_of_ble_eq_true rfl⟩ rfl hl.1.1 rfl (c8 c_0 (Nat.le_of_ble_eq_true rfl)) dL_law_414 ⟨Nat.le_trans (by show cells + 1 ≤ 100000; omega) rm_c, Nat.le_trans (by show slots + 6 ≤ 2000000; omega) rm_s⟩ (fun H locs k9 hk9 hM hS => ?_)
  obtain ⟨u6, bv, h3, g3, g4, g5, hJ3⟩ := hm k9 hk9
  have hkz : kL_mark code = 0 → code = 0 := by rcases hcd with rfl | rfl <;> decide
  have ikL : inr (kL_mark code) := by rcases hcd with rfl | rfl <;> decide
  refine t_istore (lv' := [(5, vi (kL_mark code)), (0, vr (b : Int)), (1, vr xa), (2, vr ma), (3, vr oa), (4, vi (t : Int))]) hx hb dL_law_417 hl (by decide) rfl (fun ls hl => ?_)
  refine s_aload_n hx hb dL_law_419 rfl (la hl 3 rfl) ?_
  refine s_aload_n hx hb dL_law_420 rfl (la hl 1 rfl) ?_
  refine lv_iload hx hb dL_law_421 (la hl 5 rfl) ?_
  refine lv_iconst (v := Int32.ofInt 1) hx hb dL_law_423 rfl ?_
  refine s_iadd hx hb dL_law_424 ?_
  refine s_sld (t := t + 1) hx hb hX hbl hbA hS (by rw [wr_eq ⟨by omega, by omega⟩]; omega) (by omega) hL dL_law_425 ?_
  refine s_aload_n hx hb dL_law_426 rfl (la hl 1 rfl) ?_
  refine lv_iload hx hb dL_law_427 (la hl 5 rfl) ?_
  refine lv_iconst (v := Int32.ofInt 2) hx hb dL_law_429 rfl ?_
  refine s_iadd hx hb dL_law_430 ?_
  refine s_sld (t := t + 2) hx hb hX hbl hbA hS (by rw [wr_eq ⟨by omega, by omega⟩]; omega) (by omega) hL dL_law_431 ?_
  refine s_callV (n := 2) (rest := []) [vi (xs (t + 1)).toInt, vi (xs (t + 2)).toInt] hx hb hml hown hts hE hM hS (c_X6_mark l D G s.heap.size (hsN h2 k9) h3 ma (xs (t + 1)).toInt (xs (t + 2)).toInt bv (inr_ti _) (inr_ti _) g3) kw_858 kw_855 kw_40 kw_856 kw_857 (by decide +kernel) ⟨Nat.le_of_ble_eq_true rfl, Nat.le_of_ble_eq_true rfl⟩ rfl rfl (by decide) u6 rfl hl.1.1 rfl (c8 c_0 (Nat.le_of_ble_eq_true rfl)) dL_law_432 ⟨Nat.le_trans (by show cells + 1 + 0 ≤ 100000; omega) rm_c, Nat.le_trans (by show slots + 6 + 0 ≤ 2000000; omega) rm_s⟩ (fun H locs i_b hM hS => ?_)
  refine W.eq (g2 := F0 m 435 ls [vi bv]) rfl ?_
  refine t_istore (lv' := [(6, vi bv), (5, vi (kL_mark code)), (0, vr (b : Int)), (1, vr xa), (2, vr ma), (3, vr oa), (4, vi (t : Int))]) hx hb dL_law_435 hl (by decide) rfl (fun ls hl => ?_)
  refine s_aload_n hx hb dL_law_437 rfl (la hl 4 rfl) ?_
  refine s_callV (n := 0) (rest := []) [] hx hb hml hown hts hE hM hS (c_X6_thrown l D G s.heap.size h3 h3 ma (kL_mark code) g4) kw_754 kw_751 kw_40 kw_752 kw_753 (by decide +kernel) ⟨Nat.le_of_ble_eq_true rfl, Nat.le_of_ble_eq_true rfl⟩ rfl rfl (by decide) (hJ6 h3 hJ3) rfl hl.1.1 rfl (c8 c_0 (Nat.le_of_ble_eq_true rfl)) dL_law_438 ⟨Nat.le_trans (by show cells + 1 + 0 + 0 ≤ 100000; omega) rm_c, Nat.le_trans (by show slots + 6 + 0 + 0 ≤ 2000000; omega) rm_s⟩ (fun H locs i_k hM hS => ?_)
  refine W.eq (g2 := F0 m 441 ls [vi (kL_mark code)]) rfl ?_
  refine W.widen (k := cells + 40) (n := slots + 3000) (by show cells + 1 + 0 + 0 ≤ _; omega) (by show slots + 6 + 0 + 0 ≤ _; omega) ?_
  refine lv_iload hx hb dL_law_441 (la hl 1 rfl) ?_
  refine s_icmp_eq (tgt := 448) hx hb dL_law_443 (by decide) ikL ikL (fun _ => ?_) (fun cd => absurd rfl cd)
  refine lv_iload hx hb dL_law_448 (la hl 1 rfl) ?_
  refine s_if_ne (tgt := 465) hx hb dL_law_450 (by decide) ikL (fun cd => ?_) (fun cd => ?_)
  · refine lv_goto (tgt := 1032) hx hb dL_law_465 (by decide) ?_
    exact cont h3 H locs ls hJ3 hM hS (lsub hl [2, 3, 4, 5, 6] rfl)
  · have hc0 := hkz (Classical.byContradiction cd)
    refine s_aload_n hx hb dL_law_453 rfl (la hl 5 rfl) ?_
    refine lv_iconst (v := Int32.ofInt 0) hx hb dL_law_454 rfl ?_
    refine s_lald hx hb hE.1 hM (by decide) (g5 hc0) dL_law_455 ?_
    refine lv_iload hx hb dL_law_456 (la hl 0 rfl) ?_
    refine s_i2l hx hb i_b dL_law_458 ?_
    refine s_lcmp hx hb i_b i_b dL_law_459 ?_
    refine s_if_eq (tgt := 465) hx hb dL_law_460 (by decide) (inr_cm _ _) (fun _ => ?_) (fun cd2 => absurd (by unfold lcm; rw [if_neg (by omega), if_pos rfl]) cd2)
    refine lv_goto (tgt := 1032) hx hb dL_law_465 (by decide) ?_
    exact cont h3 H locs ls hJ3 hM hS (lsub hl [2, 3, 4, 5, 6] rfl)
set_option maxHeartbeats 4000000 in
set_option maxRecDepth 100000 in
theorem law_flush {p : Program} {l : Launch} {e : Env} {s : State} {m : MethodId} {below : List Frame} {meth : Method} {c : Code} {b L : Nat} {xs : Nat → Int32} {D : va_G} {G : Nat → ClassId} {J : Hp → Prop} {xa ma oa : Int} {Q : State → Prop} (C0 : lw_At p s m meth c b L xs) (hL : L ≤ 2560) (hE : EV l D G s.heap.size s) (hJ5 : ∀ h, J h → ckd h 5 xa = some ()) (hJ6 : ∀ h, J h → ckd h 6 ma = some ()) (hop : Op_flush J xa ma oa) {h : Hp} {H : Heap} {locs : List Loc} {ls : Array Slot} {t : Nat} (ht : t + 5 ≤ L) (hM : SM D G s.heap.size h H) (hS : va_S (Ab s.heap.size) s.heap H locs) (hJ : J h) (hl : lvh ls 7 [(0, vr (b : Int)), (1, vr xa), (2, vr ma), (3, vr oa), (4, vi (t : Int))]) {cells slots : Nat} (hc : cells + 40 ≤ 100000) (hs : slots + 3000 ≤ 2000000) (cont : ∀ (h : Hp) (H : Heap) (locs : List Loc) (ls : Array Slot), J h → SM D G s.heap.size h H → va_S (Ab s.heap.size) s.heap H locs → lvh ls 7 [(0, vr (b : Int)), (1, vr xa), (2, vr ma), (3, vr oa), (4, vi (t : Int))] → W p l e room_1 s m #[Value.ref b] below meth c H locs (cells + 40) (slots + 3000) Q (F0 m 1032 ls [])) : W p l e room_1 s m #[Value.ref b] below meth c H locs cells slots Q (F0 m 468 ls []) := by
  obtain ⟨hx, hb, hr, hml, hown, hts0, hX, hbl, hlocks, hgv⟩ := id C0
  have hts : ∀ w ∈ BW, w.before #[Value.ref b] s = true := fun w hw => hts0 w (bw_tbl hw)
  have hbA : ¬ (Ab s.heap.size) b := Nat.not_le.mpr hbl
  replace hown : s.vm.findClass RL = some m.cls := hown
  obtain ⟨code, rv, h1, h2, g, hcd, g0, g1, hm⟩ := hop h (xs (t + 1)).toInt (inr_ti _) hJ
  refine s_aload_n hx hb dL_law_468 rfl (la hl 1 rfl) ?_
  refine s_aload_n hx hb dL_law_469 rfl (la hl 0 rfl) ?_
  refine lv_iload hx hb dL_law_470 (la hl 4 rfl) ?_
  refine lv_iconst (v := Int32.ofInt 1) hx hb dL_law_472 rfl ?_
  refine s_iadd hx hb dL_law_473 ?_
  refine s_sld (t := t + 1) hx hb hX hbl hbA hS (by rw [wr_eq ⟨by omega, by omega⟩]; omega) (by omega) hL dL_law_474 ?_
  refine s_aload_n hx hb dL_law_475 rfl (la hl 3 rfl) ?_
  refine s_callL (n := 3) (rest := []) [vr xa, vi (xs (t + 1)).toInt, vr oa] hx hb hml hown hts hE hM hS (c_L_flush l D G s.heap.size h h1 h2 xa (xs (t + 1)).toInt oa code rv () (inr_ti _) (hJ5 h hJ) g hcd g0 g1) kw_591 kw_589 kw_36 kw_590 (by decide +kernel) ⟨Nat.le_of_ble_eq_true rfl, Nat.le_of_ble_eq_true rfl⟩ rfl hl.1.1 rfl (c8 c_0 (Nat.le_of_ble_eq_true rfl)) dL_law_476 ⟨Nat.le_trans (by show cells + 1 ≤ 100000; omega) rm_c, Nat.le_trans (by show slots + 6 ≤ 2000000; omega) rm_s⟩ (fun H locs k9 hk9 hM hS => ?_)
  obtain ⟨u6, bv, h3, g3, g4, g5, hJ3⟩ := hm k9 hk9
  have hkz : kL_flush code = 0 → code = 0 := by rcases hcd with rfl | rfl <;> decide
  have ikL : inr (kL_flush code) := by rcases hcd with rfl | rfl <;> decide
  refine t_istore (lv' := [(5, vi (kL_flush code)), (0, vr (b : Int)), (1, vr xa), (2, vr ma), (3, vr oa), (4, vi (t : Int))]) hx hb dL_law_479 hl (by decide) rfl (fun ls hl => ?_)
  refine s_aload_n hx hb dL_law_481 rfl (la hl 3 rfl) ?_
  refine s_aload_n hx hb dL_law_482 rfl (la hl 1 rfl) ?_
  refine lv_iload hx hb dL_law_483 (la hl 5 rfl) ?_
  refine lv_iconst (v := Int32.ofInt 1) hx hb dL_law_485 rfl ?_
  refine s_iadd hx hb dL_law_486 ?_
  refine s_sld (t := t + 1) hx hb hX hbl hbA hS (by rw [wr_eq ⟨by omega, by omega⟩]; omega) (by omega) hL dL_law_487 ?_
  refine s_callV (n := 1) (rest := []) [vi (xs (t + 1)).toInt] hx hb hml hown hts hE hM hS (c_X6_flush l D G s.heap.size (hsN h2 k9) h3 ma (xs (t + 1)).toInt bv (inr_ti _) g3) kw_862 kw_859 kw_40 kw_860 kw_861 (by decide +kernel) ⟨Nat.le_of_ble_eq_true rfl, Nat.le_of_ble_eq_true rfl⟩ rfl rfl (by decide) u6 rfl hl.1.1 rfl (c8 c_0 (Nat.le_of_ble_eq_true rfl)) dL_law_488 ⟨Nat.le_trans (by show cells + 1 + 0 ≤ 100000; omega) rm_c, Nat.le_trans (by show slots + 6 + 0 ≤ 2000000; omega) rm_s⟩ (fun H locs i_b hM hS => ?_)
  refine W.eq (g2 := F0 m 491 ls [vi bv]) rfl ?_
  refine t_istore (lv' := [(6, vi bv), (5, vi (kL_flush code)), (0, vr (b : Int)), (1, vr xa), (2, vr ma), (3, vr oa), (4, vi (t : Int))]) hx hb dL_law_491 hl (by decide) rfl (fun ls hl => ?_)
  refine s_aload_n hx hb dL_law_493 rfl (la hl 4 rfl) ?_
  refine s_callV (n := 0) (rest := []) [] hx hb hml hown hts hE hM hS (c_X6_thrown l D G s.heap.size h3 h3 ma (kL_flush code) g4) kw_754 kw_751 kw_40 kw_752 kw_753 (by decide +kernel) ⟨Nat.le_of_ble_eq_true rfl, Nat.le_of_ble_eq_true rfl⟩ rfl rfl (by decide) (hJ6 h3 hJ3) rfl hl.1.1 rfl (c8 c_0 (Nat.le_of_ble_eq_true rfl)) dL_law_494 ⟨Nat.le_trans (by show cells + 1 + 0 + 0 ≤ 100000; omega) rm_c, Nat.le_trans (by show slots + 6 + 0 + 0 ≤ 2000000; omega) rm_s⟩ (fun H locs i_k hM hS => ?_)
  refine W.eq (g2 := F0 m 497 ls [vi (kL_flush code)]) rfl ?_
  refine W.widen (k := cells + 40) (n := slots + 3000) (by show cells + 1 + 0 + 0 ≤ _; omega) (by show slots + 6 + 0 + 0 ≤ _; omega) ?_
  refine lv_iload hx hb dL_law_497 (la hl 1 rfl) ?_
  refine s_icmp_eq (tgt := 504) hx hb dL_law_499 (by decide) ikL ikL (fun _ => ?_) (fun cd => absurd rfl cd)
  refine lv_iload hx hb dL_law_504 (la hl 1 rfl) ?_
  refine s_if_ne (tgt := 521) hx hb dL_law_506 (by decide) ikL (fun cd => ?_) (fun cd => ?_)
  · refine lv_goto (tgt := 1032) hx hb dL_law_521 (by decide) ?_
    exact cont h3 H locs ls hJ3 hM hS (lsub hl [2, 3, 4, 5, 6] rfl)
  · have hc0 := hkz (Classical.byContradiction cd)
    refine s_aload_n hx hb dL_law_509 rfl (la hl 5 rfl) ?_
    refine lv_iconst (v := Int32.ofInt 0) hx hb dL_law_510 rfl ?_
    refine s_lald hx hb hE.1 hM (by decide) (g5 hc0) dL_law_511 ?_
    refine lv_iload hx hb dL_law_512 (la hl 0 rfl) ?_
    refine s_i2l hx hb i_b dL_law_514 ?_
    refine s_lcmp hx hb i_b i_b dL_law_515 ?_
    refine s_if_eq (tgt := 521) hx hb dL_law_516 (by decide) (inr_cm _ _) (fun _ => ?_) (fun cd2 => absurd (by unfold lcm; rw [if_neg (by omega), if_pos rfl]) cd2)
    refine lv_goto (tgt := 1032) hx hb dL_law_521 (by decide) ?_
    exact cont h3 H locs ls hJ3 hM hS (lsub hl [2, 3, 4, 5, 6] rfl)
set_option maxHeartbeats 4000000 in
set_option maxRecDepth 100000 in
theorem law_empty {p : Program} {l : Launch} {e : Env} {s : State} {m : MethodId} {below : List Frame} {meth : Method} {c : Code} {b L : Nat} {xs : Nat → Int32} {D : va_G} {G : Nat → ClassId} {J : Hp → Prop} {xa ma oa : Int} {Q : State → Prop} (C0 : lw_At p s m meth c b L xs) (hL : L ≤ 2560) (hE : EV l D G s.heap.size s) (hJ5 : ∀ h, J h → ckd h 5 xa = some ()) (hJ6 : ∀ h, J h → ckd h 6 ma = some ()) (hop : Op_empty J xa ma oa) {h : Hp} {H : Heap} {locs : List Loc} {ls : Array Slot} {t : Nat} (ht : t + 5 ≤ L) (hM : SM D G s.heap.size h H) (hS : va_S (Ab s.heap.size) s.heap H locs) (hJ : J h) (hl : lvh ls 7 [(0, vr (b : Int)), (1, vr xa), (2, vr ma), (3, vr oa), (4, vi (t : Int))]) {cells slots : Nat} (hc : cells + 40 ≤ 100000) (hs : slots + 3000 ≤ 2000000) (cont : ∀ (h : Hp) (H : Heap) (locs : List Loc) (ls : Array Slot), J h → SM D G s.heap.size h H → va_S (Ab s.heap.size) s.heap H locs → lvh ls 7 [(0, vr (b : Int)), (1, vr xa), (2, vr ma), (3, vr oa), (4, vi (t : Int))] → W p l e room_1 s m #[Value.ref b] below meth c H locs (cells + 40) (slots + 3000) Q (F0 m 1032 ls [])) : W p l e room_1 s m #[Value.ref b] below meth c H locs cells slots Q (F0 m 524 ls []) := by
  obtain ⟨hx, hb, hr, hml, hown, hts0, hX, hbl, hlocks, hgv⟩ := id C0
  have hts : ∀ w ∈ BW, w.before #[Value.ref b] s = true := fun w hw => hts0 w (bw_tbl hw)
  have hbA : ¬ (Ab s.heap.size) b := Nat.not_le.mpr hbl
  replace hown : s.vm.findClass RL = some m.cls := hown
  obtain ⟨code, rv, h1, h2, g, hcd, g0, g1, hm⟩ := hop h (xs (t + 1)).toInt (inr_ti _) hJ
  refine s_aload_n hx hb dL_law_524 rfl (la hl 1 rfl) ?_
  refine s_aload_n hx hb dL_law_525 rfl (la hl 0 rfl) ?_
  refine lv_iload hx hb dL_law_526 (la hl 4 rfl) ?_
  refine lv_iconst (v := Int32.ofInt 1) hx hb dL_law_528 rfl ?_
  refine s_iadd hx hb dL_law_529 ?_
  refine s_sld (t := t + 1) hx hb hX hbl hbA hS (by rw [wr_eq ⟨by omega, by omega⟩]; omega) (by omega) hL dL_law_530 ?_
  refine s_aload_n hx hb dL_law_531 rfl (la hl 3 rfl) ?_
  refine s_callL (n := 3) (rest := []) [vr xa, vi (xs (t + 1)).toInt, vr oa] hx hb hml hown hts hE hM hS (c_L_empty l D G s.heap.size h h1 h2 xa (xs (t + 1)).toInt oa code rv () (inr_ti _) (hJ5 h hJ) g hcd g0 g1) kw_603 kw_601 kw_36 kw_602 (by decide +kernel) ⟨Nat.le_of_ble_eq_true rfl, Nat.le_of_ble_eq_true rfl⟩ rfl hl.1.1 rfl (c8 c_0 (Nat.le_of_ble_eq_true rfl)) dL_law_532 ⟨Nat.le_trans (by show cells + 1 ≤ 100000; omega) rm_c, Nat.le_trans (by show slots + 6 ≤ 2000000; omega) rm_s⟩ (fun H locs k9 hk9 hM hS => ?_)
  obtain ⟨u6, bv, h3, g3, g4, g5, hJ3⟩ := hm k9 hk9
  have hkz : kL_empty code = 0 → code = 0 := by rcases hcd with rfl | rfl <;> decide
  have ikL : inr (kL_empty code) := by rcases hcd with rfl | rfl <;> decide
  refine t_istore (lv' := [(5, vi (kL_empty code)), (0, vr (b : Int)), (1, vr xa), (2, vr ma), (3, vr oa), (4, vi (t : Int))]) hx hb dL_law_535 hl (by decide) rfl (fun ls hl => ?_)
  refine s_aload_n hx hb dL_law_537 rfl (la hl 3 rfl) ?_
  refine s_aload_n hx hb dL_law_538 rfl (la hl 1 rfl) ?_
  refine lv_iload hx hb dL_law_539 (la hl 5 rfl) ?_
  refine lv_iconst (v := Int32.ofInt 1) hx hb dL_law_541 rfl ?_
  refine s_iadd hx hb dL_law_542 ?_
  refine s_sld (t := t + 1) hx hb hX hbl hbA hS (by rw [wr_eq ⟨by omega, by omega⟩]; omega) (by omega) hL dL_law_543 ?_
  refine s_callV (n := 1) (rest := []) [vi (xs (t + 1)).toInt] hx hb hml hown hts hE hM hS (c_X6_empty l D G s.heap.size (hsN h2 k9) h3 ma (xs (t + 1)).toInt bv (inr_ti _) g3) kw_866 kw_863 kw_40 kw_864 kw_865 (by decide +kernel) ⟨Nat.le_of_ble_eq_true rfl, Nat.le_of_ble_eq_true rfl⟩ rfl rfl (by decide) u6 rfl hl.1.1 rfl (c8 c_0 (Nat.le_of_ble_eq_true rfl)) dL_law_544 ⟨Nat.le_trans (by show cells + 1 + 0 ≤ 100000; omega) rm_c, Nat.le_trans (by show slots + 6 + 0 ≤ 2000000; omega) rm_s⟩ (fun H locs i_b hM hS => ?_)
  refine W.eq (g2 := F0 m 547 ls [vi bv]) rfl ?_
  refine t_istore (lv' := [(6, vi bv), (5, vi (kL_empty code)), (0, vr (b : Int)), (1, vr xa), (2, vr ma), (3, vr oa), (4, vi (t : Int))]) hx hb dL_law_547 hl (by decide) rfl (fun ls hl => ?_)
  refine s_aload_n hx hb dL_law_549 rfl (la hl 4 rfl) ?_
  refine s_callV (n := 0) (rest := []) [] hx hb hml hown hts hE hM hS (c_X6_thrown l D G s.heap.size h3 h3 ma (kL_empty code) g4) kw_754 kw_751 kw_40 kw_752 kw_753 (by decide +kernel) ⟨Nat.le_of_ble_eq_true rfl, Nat.le_of_ble_eq_true rfl⟩ rfl rfl (by decide) (hJ6 h3 hJ3) rfl hl.1.1 rfl (c8 c_0 (Nat.le_of_ble_eq_true rfl)) dL_law_550 ⟨Nat.le_trans (by show cells + 1 + 0 + 0 ≤ 100000; omega) rm_c, Nat.le_trans (by show slots + 6 + 0 + 0 ≤ 2000000; omega) rm_s⟩ (fun H locs i_k hM hS => ?_)
  refine W.eq (g2 := F0 m 553 ls [vi (kL_empty code)]) rfl ?_
  refine W.widen (k := cells + 40) (n := slots + 3000) (by show cells + 1 + 0 + 0 ≤ _; omega) (by show slots + 6 + 0 + 0 ≤ _; omega) ?_
  refine lv_iload hx hb dL_law_553 (la hl 1 rfl) ?_
  refine s_icmp_eq (tgt := 560) hx hb dL_law_555 (by decide) ikL ikL (fun _ => ?_) (fun cd => absurd rfl cd)
  refine lv_iload hx hb dL_law_560 (la hl 1 rfl) ?_
  refine s_if_ne (tgt := 577) hx hb dL_law_562 (by decide) ikL (fun cd => ?_) (fun cd => ?_)
  · refine lv_goto (tgt := 1032) hx hb dL_law_577 (by decide) ?_
    exact cont h3 H locs ls hJ3 hM hS (lsub hl [2, 3, 4, 5, 6] rfl)
  · have hc0 := hkz (Classical.byContradiction cd)
    refine s_aload_n hx hb dL_law_565 rfl (la hl 5 rfl) ?_
    refine lv_iconst (v := Int32.ofInt 0) hx hb dL_law_566 rfl ?_
    refine s_lald hx hb hE.1 hM (by decide) (g5 hc0) dL_law_567 ?_
    refine lv_iload hx hb dL_law_568 (la hl 0 rfl) ?_
    refine s_i2l hx hb i_b dL_law_570 ?_
    refine s_lcmp hx hb i_b i_b dL_law_571 ?_
    refine s_if_eq (tgt := 577) hx hb dL_law_572 (by decide) (inr_cm _ _) (fun _ => ?_) (fun cd2 => absurd (by unfold lcm; rw [if_neg (by omega), if_pos rfl]) cd2)
    refine lv_goto (tgt := 1032) hx hb dL_law_577 (by decide) ?_
    exact cont h3 H locs ls hJ3 hM hS (lsub hl [2, 3, 4, 5, 6] rfl)
set_option maxHeartbeats 4000000 in
set_option maxRecDepth 100000 in
theorem law_reap {p : Program} {l : Launch} {e : Env} {s : State} {m : MethodId} {below : List Frame} {meth : Method} {c : Code} {b L : Nat} {xs : Nat → Int32} {D : va_G} {G : Nat → ClassId} {J : Hp → Prop} {xa ma oa : Int} {Q : State → Prop} (C0 : lw_At p s m meth c b L xs) (hL : L ≤ 2560) (hE : EV l D G s.heap.size s) (hJ5 : ∀ h, J h → ckd h 5 xa = some ()) (hJ6 : ∀ h, J h → ckd h 6 ma = some ()) (hop : Op_reap J xa ma oa) {h : Hp} {H : Heap} {locs : List Loc} {ls : Array Slot} {t : Nat} (ht : t + 5 ≤ L) (hM : SM D G s.heap.size h H) (hS : va_S (Ab s.heap.size) s.heap H locs) (hJ : J h) (hl : lvh ls 7 [(0, vr (b : Int)), (1, vr xa), (2, vr ma), (3, vr oa), (4, vi (t : Int))]) {cells slots : Nat} (hc : cells + 40 ≤ 100000) (hs : slots + 3000 ≤ 2000000) (cont : ∀ (h : Hp) (H : Heap) (locs : List Loc) (ls : Array Slot), J h → SM D G s.heap.size h H → va_S (Ab s.heap.size) s.heap H locs → lvh ls 7 [(0, vr (b : Int)), (1, vr xa), (2, vr ma), (3, vr oa), (4, vi (t : Int))] → W p l e room_1 s m #[Value.ref b] below meth c H locs (cells + 40) (slots + 3000) Q (F0 m 1032 ls [])) : W p l e room_1 s m #[Value.ref b] below meth c H locs cells slots Q (F0 m 580 ls []) := by
  obtain ⟨hx, hb, hr, hml, hown, hts0, hX, hbl, hlocks, hgv⟩ := id C0
  have hts : ∀ w ∈ BW, w.before #[Value.ref b] s = true := fun w hw => hts0 w (bw_tbl hw)
  have hbA : ¬ (Ab s.heap.size) b := Nat.not_le.mpr hbl
  replace hown : s.vm.findClass RL = some m.cls := hown
  obtain ⟨rv, h1, h2, g, u6, g3, hJ3⟩ := hop h   hJ
  refine s_aload_n hx hb dL_law_580 rfl (la hl 1 rfl) ?_
  refine s_callV (n := 0) (rest := []) [] hx hb hml hown hts hE hM hS (c_X5_reap l D G s.heap.size h h1 xa  rv  g) kw_99 kw_96 kw_37 kw_97 kw_98 (by decide +kernel) ⟨Nat.le_of_ble_eq_true rfl, Nat.le_of_ble_eq_true rfl⟩ rfl rfl (by decide) (hJ5 h hJ) rfl hl.1.1 rfl (c8 c_0 (Nat.le_of_ble_eq_true rfl)) dL_law_581 ⟨Nat.le_trans (by show cells + 0 ≤ 100000; omega) rm_c, Nat.le_trans (by show slots + 0 ≤ 2000000; omega) rm_s⟩ (fun H locs i_b hM hS => ?_)
  refine W.eq (g2 := F0 m 584 ls [vi rv]) rfl ?_
  refine s_aload_n hx hb dL_law_584 rfl (la hl 2 rfl) ?_
  refine s_callV (n := 0) (rest := [vi rv]) [] hx hb hml hown hts hE hM hS (c_X6_reap l D G s.heap.size h1 h2 ma  rv  g3) kw_870 kw_867 kw_40 kw_868 kw_869 (by decide +kernel) ⟨Nat.le_of_ble_eq_true rfl, Nat.le_of_ble_eq_true rfl⟩ rfl rfl (by decide) u6 rfl hl.1.1 rfl (c8 (c_i c_0) (Nat.le_of_ble_eq_true rfl)) dL_law_585 ⟨Nat.le_trans (by show cells + 0 + 0 ≤ 100000; omega) rm_c, Nat.le_trans (by show slots + 0 + 0 ≤ 2000000; omega) rm_s⟩ (fun H locs _ hM hS => ?_)
  refine W.eq (g2 := F0 m 588 ls [vi rv, vi rv]) rfl ?_
  refine W.widen (k := cells + 40) (n := slots + 3000) (by show cells + 0 + 0 ≤ _; omega) (by show slots + 0 + 0 ≤ _; omega) ?_
  refine s_icmp_eq (tgt := 1032) hx hb dL_law_588 (by decide) i_b i_b (fun _ => ?_) (fun cd => absurd rfl cd)
  exact cont h2 H locs ls hJ3 hM hS hl
set_option maxHeartbeats 4000000 in
set_option maxRecDepth 100000 in
theorem law_cacheOf {p : Program} {l : Launch} {e : Env} {s : State} {m : MethodId} {below : List Frame} {meth : Method} {c : Code} {b L : Nat} {xs : Nat → Int32} {D : va_G} {G : Nat → ClassId} {J : Hp → Prop} {xa ma oa : Int} {Q : State → Prop} (C0 : lw_At p s m meth c b L xs) (hL : L ≤ 2560) (hE : EV l D G s.heap.size s) (hJ5 : ∀ h, J h → ckd h 5 xa = some ()) (hJ6 : ∀ h, J h → ckd h 6 ma = some ()) (hop : Op_cacheOf J xa ma oa) {h : Hp} {H : Heap} {locs : List Loc} {ls : Array Slot} {t : Nat} (ht : t + 5 ≤ L) (hM : SM D G s.heap.size h H) (hS : va_S (Ab s.heap.size) s.heap H locs) (hJ : J h) (hl : lvh ls 7 [(0, vr (b : Int)), (1, vr xa), (2, vr ma), (3, vr oa), (4, vi (t : Int))]) {cells slots : Nat} (hc : cells + 40 ≤ 100000) (hs : slots + 3000 ≤ 2000000) (cont : ∀ (h : Hp) (H : Heap) (locs : List Loc) (ls : Array Slot), J h → SM D G s.heap.size h H → va_S (Ab s.heap.size) s.heap H locs → lvh ls 7 [(0, vr (b : Int)), (1, vr xa), (2, vr ma), (3, vr oa), (4, vi (t : Int))] → W p l e room_1 s m #[Value.ref b] below meth c H locs (cells + 40) (slots + 3000) Q (F0 m 1032 ls [])) : W p l e room_1 s m #[Value.ref b] below meth c H locs cells slots Q (F0 m 593 ls []) := by
  obtain ⟨hx, hb, hr, hml, hown, hts0, hX, hbl, hlocks, hgv⟩ := id C0
  have hts : ∀ w ∈ BW, w.before #[Value.ref b] s = true := fun w hw => hts0 w (bw_tbl hw)
  have hbA : ¬ (Ab s.heap.size) b := Nat.not_le.mpr hbl
  replace hown : s.vm.findClass RL = some m.cls := hown
  obtain ⟨rv, h1, h2, g, u6, g3, hJ3⟩ := hop h (xs (t + 1)).toInt (inr_ti _) hJ
  refine s_aload_n hx hb dL_law_593 rfl (la hl 1 rfl) ?_
  refine s_aload_n hx hb dL_law_594 rfl (la hl 0 rfl) ?_
  refine lv_iload hx hb dL_law_595 (la hl 4 rfl) ?_
  refine lv_iconst (v := Int32.ofInt 1) hx hb dL_law_597 rfl ?_
  refine s_iadd hx hb dL_law_598 ?_
  refine s_sld (t := t + 1) hx hb hX hbl hbA hS (by rw [wr_eq ⟨by omega, by omega⟩]; omega) (by omega) hL dL_law_599 ?_
  refine s_callV (n := 1) (rest := []) [vi (xs (t + 1)).toInt] hx hb hml hown hts hE hM hS (c_X5_cacheOf l D G s.heap.size h h1 xa (xs (t + 1)).toInt rv (inr_ti _) g) kw_134 kw_131 kw_37 kw_132 kw_133 (by decide +kernel) ⟨Nat.le_of_ble_eq_true rfl, Nat.le_of_ble_eq_true rfl⟩ rfl rfl (by decide) (hJ5 h hJ) rfl hl.1.1 rfl (c8 c_0 (Nat.le_of_ble_eq_true rfl)) dL_law_600 ⟨Nat.le_trans (by show cells + 0 ≤ 100000; omega) rm_c, Nat.le_trans (by show slots + 0 ≤ 2000000; omega) rm_s⟩ (fun H locs i_b hM hS => ?_)
  refine W.eq (g2 := F0 m 603 ls [vi rv]) rfl ?_
  refine s_aload_n hx hb dL_law_603 rfl (la hl 2 rfl) ?_
  refine s_aload_n hx hb dL_law_604 rfl (la hl 0 rfl) ?_
  refine lv_iload hx hb dL_law_605 (la hl 4 rfl) ?_
  refine lv_iconst (v := Int32.ofInt 1) hx hb dL_law_607 rfl ?_
  refine s_iadd hx hb dL_law_608 ?_
  refine s_sld (t := t + 1) hx hb hX hbl hbA hS (by rw [wr_eq ⟨by omega, by omega⟩]; omega) (by omega) hL dL_law_609 ?_
  refine s_callV (n := 1) (rest := [vi rv]) [vi (xs (t + 1)).toInt] hx hb hml hown hts hE hM hS (c_X6_cacheOf l D G s.heap.size h1 h2 ma (xs (t + 1)).toInt rv (inr_ti _) g3) kw_874 kw_871 kw_40 kw_872 kw_873 (by decide +kernel) ⟨Nat.le_of_ble_eq_true rfl, Nat.le_of_ble_eq_true rfl⟩ rfl rfl (by decide) u6 rfl hl.1.1 rfl (c8 (c_i c_0) (Nat.le_of_ble_eq_true rfl)) dL_law_610 ⟨Nat.le_trans (by show cells + 0 + 0 ≤ 100000; omega) rm_c, Nat.le_trans (by show slots + 0 + 0 ≤ 2000000; omega) rm_s⟩ (fun H locs _ hM hS => ?_)
  refine W.eq (g2 := F0 m 613 ls [vi rv, vi rv]) rfl ?_
  refine W.widen (k := cells + 40) (n := slots + 3000) (by show cells + 0 + 0 ≤ _; omega) (by show slots + 0 + 0 ≤ _; omega) ?_
  refine s_icmp_eq (tgt := 1032) hx hb dL_law_613 (by decide) i_b i_b (fun _ => ?_) (fun cd => absurd rfl cd)
  exact cont h2 H locs ls hJ3 hM hS hl
set_option maxHeartbeats 4000000 in
set_option maxRecDepth 100000 in
theorem law_objectOf {p : Program} {l : Launch} {e : Env} {s : State} {m : MethodId} {below : List Frame} {meth : Method} {c : Code} {b L : Nat} {xs : Nat → Int32} {D : va_G} {G : Nat → ClassId} {J : Hp → Prop} {xa ma oa : Int} {Q : State → Prop} (C0 : lw_At p s m meth c b L xs) (hL : L ≤ 2560) (hE : EV l D G s.heap.size s) (hJ5 : ∀ h, J h → ckd h 5 xa = some ()) (hJ6 : ∀ h, J h → ckd h 6 ma = some ()) (hop : Op_objectOf J xa ma oa) {h : Hp} {H : Heap} {locs : List Loc} {ls : Array Slot} {t : Nat} (ht : t + 5 ≤ L) (hM : SM D G s.heap.size h H) (hS : va_S (Ab s.heap.size) s.heap H locs) (hJ : J h) (hl : lvh ls 7 [(0, vr (b : Int)), (1, vr xa), (2, vr ma), (3, vr oa), (4, vi (t : Int))]) {cells slots : Nat} (hc : cells + 40 ≤ 100000) (hs : slots + 3000 ≤ 2000000) (cont : ∀ (h : Hp) (H : Heap) (locs : List Loc) (ls : Array Slot), J h → SM D G s.heap.size h H → va_S (Ab s.heap.size) s.heap H locs → lvh ls 7 [(0, vr (b : Int)), (1, vr xa), (2, vr ma), (3, vr oa), (4, vi (t : Int))] → W p l e room_1 s m #[Value.ref b] below meth c H locs (cells + 40) (slots + 3000) Q (F0 m 1032 ls [])) : W p l e room_1 s m #[Value.ref b] below meth c H locs cells slots Q (F0 m 618 ls []) := by
  obtain ⟨hx, hb, hr, hml, hown, hts0, hX, hbl, hlocks, hgv⟩ := id C0
  have hts : ∀ w ∈ BW, w.before #[Value.ref b] s = true := fun w hw => hts0 w (bw_tbl hw)
  have hbA : ¬ (Ab s.heap.size) b := Nat.not_le.mpr hbl
  replace hown : s.vm.findClass RL = some m.cls := hown
  obtain ⟨rv, h1, h2, g, u6, g3, hJ3⟩ := hop h (xs (t + 1)).toInt (inr_ti _) hJ
  refine s_aload_n hx hb dL_law_618 rfl (la hl 1 rfl) ?_
  refine s_aload_n hx hb dL_law_619 rfl (la hl 0 rfl) ?_
  refine lv_iload hx hb dL_law_620 (la hl 4 rfl) ?_
  refine lv_iconst (v := Int32.ofInt 1) hx hb dL_law_622 rfl ?_
  refine s_iadd hx hb dL_law_623 ?_
  refine s_sld (t := t + 1) hx hb hX hbl hbA hS (by rw [wr_eq ⟨by omega, by omega⟩]; omega) (by omega) hL dL_law_624 ?_
  refine s_callV (n := 1) (rest := []) [vi (xs (t + 1)).toInt] hx hb hml hown hts hE hM hS (c_X5_objectOf l D G s.heap.size h h1 xa (xs (t + 1)).toInt rv (inr_ti _) g) kw_143 kw_140 kw_37 kw_141 kw_142 (by decide +kernel) ⟨Nat.le_of_ble_eq_true rfl, Nat.le_of_ble_eq_true rfl⟩ rfl rfl (by decide) (hJ5 h hJ) rfl hl.1.1 rfl (c8 c_0 (Nat.le_of_ble_eq_true rfl)) dL_law_625 ⟨Nat.le_trans (by show cells + 0 ≤ 100000; omega) rm_c, Nat.le_trans (by show slots + 0 ≤ 2000000; omega) rm_s⟩ (fun H locs i_b hM hS => ?_)
  refine W.eq (g2 := F0 m 628 ls [vi rv]) rfl ?_
  refine s_aload_n hx hb dL_law_628 rfl (la hl 2 rfl) ?_
  refine s_aload_n hx hb dL_law_629 rfl (la hl 0 rfl) ?_
  refine lv_iload hx hb dL_law_630 (la hl 4 rfl) ?_
  refine lv_iconst (v := Int32.ofInt 1) hx hb dL_law_632 rfl ?_
  refine s_iadd hx hb dL_law_633 ?_
  refine s_sld (t := t + 1) hx hb hX hbl hbA hS (by rw [wr_eq ⟨by omega, by omega⟩]; omega) (by omega) hL dL_law_634 ?_
  refine s_callV (n := 1) (rest := [vi rv]) [vi (xs (t + 1)).toInt] hx hb hml hown hts hE hM hS (c_X6_objectOf l D G s.heap.size h1 h2 ma (xs (t + 1)).toInt rv (inr_ti _) g3) kw_882 kw_879 kw_40 kw_880 kw_881 (by decide +kernel) ⟨Nat.le_of_ble_eq_true rfl, Nat.le_of_ble_eq_true rfl⟩ rfl rfl (by decide) u6 rfl hl.1.1 rfl (c8 (c_i c_0) (Nat.le_of_ble_eq_true rfl)) dL_law_635 ⟨Nat.le_trans (by show cells + 0 + 0 ≤ 100000; omega) rm_c, Nat.le_trans (by show slots + 0 + 0 ≤ 2000000; omega) rm_s⟩ (fun H locs _ hM hS => ?_)
  refine W.eq (g2 := F0 m 638 ls [vi rv, vi rv]) rfl ?_
  refine W.widen (k := cells + 40) (n := slots + 3000) (by show cells + 0 + 0 ≤ _; omega) (by show slots + 0 + 0 ≤ _; omega) ?_
  refine s_icmp_eq (tgt := 1032) hx hb dL_law_638 (by decide) i_b i_b (fun _ => ?_) (fun cd => absurd rfl cd)
  exact cont h2 H locs ls hJ3 hM hS hl
set_option maxHeartbeats 4000000 in
set_option maxRecDepth 100000 in
theorem law_about {p : Program} {l : Launch} {e : Env} {s : State} {m : MethodId} {below : List Frame} {meth : Method} {c : Code} {b L : Nat} {xs : Nat → Int32} {D : va_G} {G : Nat → ClassId} {J : Hp → Prop} {xa ma oa : Int} {Q : State → Prop} (C0 : lw_At p s m meth c b L xs) (hL : L ≤ 2560) (hE : EV l D G s.heap.size s) (hJ5 : ∀ h, J h → ckd h 5 xa = some ()) (hJ6 : ∀ h, J h → ckd h 6 ma = some ()) (hop : Op_about J xa ma oa) {h : Hp} {H : Heap} {locs : List Loc} {ls : Array Slot} {t : Nat} (ht : t + 5 ≤ L) (hM : SM D G s.heap.size h H) (hS : va_S (Ab s.heap.size) s.heap H locs) (hJ : J h) (hl : lvh ls 7 [(0, vr (b : Int)), (1, vr xa), (2, vr ma), (3, vr oa), (4, vi (t : Int))]) {cells slots : Nat} (hc : cells + 40 ≤ 100000) (hs : slots + 3000 ≤ 2000000) (cont : ∀ (h : Hp) (H : Heap) (locs : List Loc) (ls : Array Slot), J h → SM D G s.heap.size h H → va_S (Ab s.heap.size) s.heap H locs → lvh ls 7 [(0, vr (b : Int)), (1, vr xa), (2, vr ma), (3, vr oa), (4, vi (t : Int))] → W p l e room_1 s m #[Value.ref b] below meth c H locs (cells + 40) (slots + 3000) Q (F0 m 1032 ls [])) : W p l e room_1 s m #[Value.ref b] below meth c H locs cells slots Q (F0 m 643 ls []) := by
  obtain ⟨hx, hb, hr, hml, hown, hts0, hX, hbl, hlocks, hgv⟩ := id C0
  have hts : ∀ w ∈ BW, w.before #[Value.ref b] s = true := fun w hw => hts0 w (bw_tbl hw)
  have hbA : ¬ (Ab s.heap.size) b := Nat.not_le.mpr hbl
  replace hown : s.vm.findClass RL = some m.cls := hown
  obtain ⟨code, rv, h1, h2, g, hcd, g0, g1, hm⟩ := hop h (xs (t + 1)).toInt (xs (t + 2)).toInt (inr_ti _) (inr_ti _) hJ
  refine s_aload_n hx hb dL_law_643 rfl (la hl 1 rfl) ?_
  refine s_aload_n hx hb dL_law_644 rfl (la hl 0 rfl) ?_
  refine lv_iload hx hb dL_law_645 (la hl 4 rfl) ?_
  refine lv_iconst (v := Int32.ofInt 1) hx hb dL_law_647 rfl ?_
  refine s_iadd hx hb dL_law_648 ?_
  refine s_sld (t := t + 1) hx hb hX hbl hbA hS (by rw [wr_eq ⟨by omega, by omega⟩]; omega) (by omega) hL dL_law_649 ?_
  refine s_aload_n hx hb dL_law_650 rfl (la hl 0 rfl) ?_
  refine lv_iload hx hb dL_law_651 (la hl 4 rfl) ?_
  refine lv_iconst (v := Int32.ofInt 2) hx hb dL_law_653 rfl ?_
  refine s_iadd hx hb dL_law_654 ?_
  refine s_sld (t := t + 2) hx hb hX hbl hbA hS (by rw [wr_eq ⟨by omega, by omega⟩]; omega) (by omega) hL dL_law_655 ?_
  refine s_aload_n hx hb dL_law_656 rfl (la hl 3 rfl) ?_
  refine s_callL (n := 4) (rest := []) [vr xa, vi (xs (t + 1)).toInt, vi (xs (t + 2)).toInt, vr oa] hx hb hml hown hts hE hM hS (c_L_about l D G s.heap.size h h1 h2 xa (xs (t + 1)).toInt (xs (t + 2)).toInt oa code rv () (inr_ti _) (inr_ti _) (hJ5 h hJ) g hcd g0 g1) kw_611 kw_609 kw_36 kw_610 (by decide +kernel) ⟨Nat.le_of_ble_eq_true rfl, Nat.le_of_ble_eq_true rfl⟩ rfl hl.1.1 rfl (c8 c_0 (Nat.le_of_ble_eq_true rfl)) dL_law_657 ⟨Nat.le_trans (by show cells + 2 ≤ 100000; omega) rm_c, Nat.le_trans (by show slots + 12 ≤ 2000000; omega) rm_s⟩ (fun H locs k9 hk9 hM hS => ?_)
  obtain ⟨u6, bv, h3, g3, g4, g5, hJ3⟩ := hm k9 hk9
  have hkz : kL_about code = 0 → code = 0 := by rcases hcd with rfl | rfl | rfl <;> decide
  have ikL : inr (kL_about code) := by rcases hcd with rfl | rfl | rfl <;> decide
  refine t_istore (lv' := [(5, vi (kL_about code)), (0, vr (b : Int)), (1, vr xa), (2, vr ma), (3, vr oa), (4, vi (t : Int))]) hx hb dL_law_660 hl (by decide) rfl (fun ls hl => ?_)
  refine s_aload_n hx hb dL_law_662 rfl (la hl 3 rfl) ?_
  refine s_aload_n hx hb dL_law_663 rfl (la hl 1 rfl) ?_
  refine lv_iload hx hb dL_law_664 (la hl 5 rfl) ?_
  refine lv_iconst (v := Int32.ofInt 1) hx hb dL_law_666 rfl ?_
  refine s_iadd hx hb dL_law_667 ?_
  refine s_sld (t := t + 1) hx hb hX hbl hbA hS (by rw [wr_eq ⟨by omega, by omega⟩]; omega) (by omega) hL dL_law_668 ?_
  refine s_aload_n hx hb dL_law_669 rfl (la hl 1 rfl) ?_
  refine lv_iload hx hb dL_law_670 (la hl 5 rfl) ?_
  refine lv_iconst (v := Int32.ofInt 2) hx hb dL_law_672 rfl ?_
  refine s_iadd hx hb dL_law_673 ?_
  refine s_sld (t := t + 2) hx hb hX hbl hbA hS (by rw [wr_eq ⟨by omega, by omega⟩]; omega) (by omega) hL dL_law_674 ?_
  refine s_callV (n := 2) (rest := []) [vi (xs (t + 1)).toInt, vi (xs (t + 2)).toInt] hx hb hml hown hts hE hM hS (c_X6_about l D G s.heap.size (hsN h2 k9) h3 ma (xs (t + 1)).toInt (xs (t + 2)).toInt bv (inr_ti _) (inr_ti _) g3) kw_886 kw_883 kw_40 kw_884 kw_885 (by decide +kernel) ⟨Nat.le_of_ble_eq_true rfl, Nat.le_of_ble_eq_true rfl⟩ rfl rfl (by decide) u6 rfl hl.1.1 rfl (c8 c_0 (Nat.le_of_ble_eq_true rfl)) dL_law_675 ⟨Nat.le_trans (by show cells + 2 + 0 ≤ 100000; omega) rm_c, Nat.le_trans (by show slots + 12 + 0 ≤ 2000000; omega) rm_s⟩ (fun H locs i_b hM hS => ?_)
  refine W.eq (g2 := F0 m 678 ls [vi bv]) rfl ?_
  refine t_istore (lv' := [(6, vi bv), (5, vi (kL_about code)), (0, vr (b : Int)), (1, vr xa), (2, vr ma), (3, vr oa), (4, vi (t : Int))]) hx hb dL_law_678 hl (by decide) rfl (fun ls hl => ?_)
  refine s_aload_n hx hb dL_law_680 rfl (la hl 4 rfl) ?_
  refine s_callV (n := 0) (rest := []) [] hx hb hml hown hts hE hM hS (c_X6_thrown l D G s.heap.size h3 h3 ma (kL_about code) g4) kw_754 kw_751 kw_40 kw_752 kw_753 (by decide +kernel) ⟨Nat.le_of_ble_eq_true rfl, Nat.le_of_ble_eq_true rfl⟩ rfl rfl (by decide) (hJ6 h3 hJ3) rfl hl.1.1 rfl (c8 c_0 (Nat.le_of_ble_eq_true rfl)) dL_law_681 ⟨Nat.le_trans (by show cells + 2 + 0 + 0 ≤ 100000; omega) rm_c, Nat.le_trans (by show slots + 12 + 0 + 0 ≤ 2000000; omega) rm_s⟩ (fun H locs i_k hM hS => ?_)
  refine W.eq (g2 := F0 m 684 ls [vi (kL_about code)]) rfl ?_
  refine W.widen (k := cells + 40) (n := slots + 3000) (by show cells + 2 + 0 + 0 ≤ _; omega) (by show slots + 12 + 0 + 0 ≤ _; omega) ?_
  refine lv_iload hx hb dL_law_684 (la hl 1 rfl) ?_
  refine s_icmp_eq (tgt := 691) hx hb dL_law_686 (by decide) ikL ikL (fun _ => ?_) (fun cd => absurd rfl cd)
  refine lv_iload hx hb dL_law_691 (la hl 1 rfl) ?_
  refine s_if_ne (tgt := 708) hx hb dL_law_693 (by decide) ikL (fun cd => ?_) (fun cd => ?_)
  · refine lv_goto (tgt := 1032) hx hb dL_law_708 (by decide) ?_
    exact cont h3 H locs ls hJ3 hM hS (lsub hl [2, 3, 4, 5, 6] rfl)
  · have hc0 := hkz (Classical.byContradiction cd)
    refine s_aload_n hx hb dL_law_696 rfl (la hl 5 rfl) ?_
    refine lv_iconst (v := Int32.ofInt 0) hx hb dL_law_697 rfl ?_
    refine s_lald hx hb hE.1 hM (by decide) (g5 hc0) dL_law_698 ?_
    refine lv_iload hx hb dL_law_699 (la hl 0 rfl) ?_
    refine s_i2l hx hb i_b dL_law_701 ?_
    refine s_lcmp hx hb i_b i_b dL_law_702 ?_
    refine s_if_eq (tgt := 708) hx hb dL_law_703 (by decide) (inr_cm _ _) (fun _ => ?_) (fun cd2 => absurd (by unfold lcm; rw [if_neg (by omega), if_pos rfl]) cd2)
    refine lv_goto (tgt := 1032) hx hb dL_law_708 (by decide) ?_
    exact cont h3 H locs ls hJ3 hM hS (lsub hl [2, 3, 4, 5, 6] rfl)
set_option maxHeartbeats 4000000 in
set_option maxRecDepth 100000 in
theorem law_list {p : Program} {l : Launch} {e : Env} {s : State} {m : MethodId} {below : List Frame} {meth : Method} {c : Code} {b L : Nat} {xs : Nat → Int32} {D : va_G} {G : Nat → ClassId} {J : Hp → Prop} {xa ma oa : Int} {Q : State → Prop} (C0 : lw_At p s m meth c b L xs) (hL : L ≤ 2560) (hE : EV l D G s.heap.size s) (hJ5 : ∀ h, J h → ckd h 5 xa = some ()) (hJ6 : ∀ h, J h → ckd h 6 ma = some ()) (hop : Op_list J xa ma oa) {h : Hp} {H : Heap} {locs : List Loc} {ls : Array Slot} {t : Nat} (ht : t + 5 ≤ L) (hM : SM D G s.heap.size h H) (hS : va_S (Ab s.heap.size) s.heap H locs) (hJ : J h) (hl : lvh ls 7 [(0, vr (b : Int)), (1, vr xa), (2, vr ma), (3, vr oa), (4, vi (t : Int))]) {cells slots : Nat} (hc : cells + 40 ≤ 100000) (hs : slots + 3000 ≤ 2000000) (cont : ∀ (h : Hp) (H : Heap) (locs : List Loc) (ls : Array Slot), J h → SM D G s.heap.size h H → va_S (Ab s.heap.size) s.heap H locs → lvh ls 7 [(0, vr (b : Int)), (1, vr xa), (2, vr ma), (3, vr oa), (4, vi (t : Int))] → W p l e room_1 s m #[Value.ref b] below meth c H locs (cells + 40) (slots + 3000) Q (F0 m 1032 ls [])) : W p l e room_1 s m #[Value.ref b] below meth c H locs cells slots Q (F0 m 711 ls []) := by
  obtain ⟨hx, hb, hr, hml, hown, hts0, hX, hbl, hlocks, hgv⟩ := id C0
  have hts : ∀ w ∈ BW, w.before #[Value.ref b] s = true := fun w hw => hts0 w (bw_tbl hw)
  have hbA : ¬ (Ab s.heap.size) b := Nat.not_le.mpr hbl
  replace hown : s.vm.findClass RL = some m.cls := hown
  obtain ⟨code, rv, h1, h2, g, hcd, g0, g1, hm⟩ := hop h (xs (t + 1)).toInt (xs (t + 2)).toInt (xs (t + 3)).toInt (inr_ti _) (inr_ti _) (inr_ti _) hJ
  refine s_aload_n hx hb dL_law_711 rfl (la hl 1 rfl) ?_
  refine s_aload_n hx hb dL_law_712 rfl (la hl 0 rfl) ?_
  refine lv_iload hx hb dL_law_713 (la hl 4 rfl) ?_
  refine lv_iconst (v := Int32.ofInt 1) hx hb dL_law_715 rfl ?_
  refine s_iadd hx hb dL_law_716 ?_
  refine s_sld (t := t + 1) hx hb hX hbl hbA hS (by rw [wr_eq ⟨by omega, by omega⟩]; omega) (by omega) hL dL_law_717 ?_
  refine s_aload_n hx hb dL_law_718 rfl (la hl 0 rfl) ?_
  refine lv_iload hx hb dL_law_719 (la hl 4 rfl) ?_
  refine lv_iconst (v := Int32.ofInt 2) hx hb dL_law_721 rfl ?_
  refine s_iadd hx hb dL_law_722 ?_
  refine s_sld (t := t + 2) hx hb hX hbl hbA hS (by rw [wr_eq ⟨by omega, by omega⟩]; omega) (by omega) hL dL_law_723 ?_
  refine s_aload_n hx hb dL_law_724 rfl (la hl 0 rfl) ?_
  refine lv_iload hx hb dL_law_725 (la hl 4 rfl) ?_
  refine lv_iconst (v := Int32.ofInt 3) hx hb dL_law_727 rfl ?_
  refine s_iadd hx hb dL_law_728 ?_
  refine s_sld (t := t + 3) hx hb hX hbl hbA hS (by rw [wr_eq ⟨by omega, by omega⟩]; omega) (by omega) hL dL_law_729 ?_
  refine s_aload_n hx hb dL_law_730 rfl (la hl 3 rfl) ?_
  refine s_callL (n := 5) (rest := []) [vr xa, vi (xs (t + 1)).toInt, vi (xs (t + 2)).toInt, vi (xs (t + 3)).toInt, vr oa] hx hb hml hown hts hE hM hS (c_L_list l D G s.heap.size h h1 h2 xa (xs (t + 1)).toInt (xs (t + 2)).toInt (xs (t + 3)).toInt oa code rv () (inr_ti _) (inr_ti _) (inr_ti _) (hJ5 h hJ) g hcd g0 g1) kw_623 kw_621 kw_36 kw_622 (by decide +kernel) ⟨Nat.le_of_ble_eq_true rfl, Nat.le_of_ble_eq_true rfl⟩ rfl hl.1.1 rfl (c8 c_0 (Nat.le_of_ble_eq_true rfl)) dL_law_731 ⟨Nat.le_trans (by show cells + 2 ≤ 100000; omega) rm_c, Nat.le_trans (by show slots + 12 ≤ 2000000; omega) rm_s⟩ (fun H locs k9 hk9 hM hS => ?_)
  obtain ⟨u6, bv, h3, g3, g4, g5, hJ3⟩ := hm k9 hk9
  have hkz : kL_list code = 0 → code = 0 := by rcases hcd with rfl | rfl | rfl <;> decide
  have ikL : inr (kL_list code) := by rcases hcd with rfl | rfl | rfl <;> decide
  refine t_istore (lv' := [(5, vi (kL_list code)), (0, vr (b : Int)), (1, vr xa), (2, vr ma), (3, vr oa), (4, vi (t : Int))]) hx hb dL_law_734 hl (by decide) rfl (fun ls hl => ?_)
  refine s_aload_n hx hb dL_law_736 rfl (la hl 3 rfl) ?_
  refine s_aload_n hx hb dL_law_737 rfl (la hl 1 rfl) ?_
  refine lv_iload hx hb dL_law_738 (la hl 5 rfl) ?_
  refine lv_iconst (v := Int32.ofInt 1) hx hb dL_law_740 rfl ?_
  refine s_iadd hx hb dL_law_741 ?_
  refine s_sld (t := t + 1) hx hb hX hbl hbA hS (by rw [wr_eq ⟨by omega, by omega⟩]; omega) (by omega) hL dL_law_742 ?_
  refine s_aload_n hx hb dL_law_743 rfl (la hl 1 rfl) ?_
  refine lv_iload hx hb dL_law_744 (la hl 5 rfl) ?_
  refine lv_iconst (v := Int32.ofInt 2) hx hb dL_law_746 rfl ?_
  refine s_iadd hx hb dL_law_747 ?_
  refine s_sld (t := t + 2) hx hb hX hbl hbA hS (by rw [wr_eq ⟨by omega, by omega⟩]; omega) (by omega) hL dL_law_748 ?_
  refine s_aload_n hx hb dL_law_749 rfl (la hl 1 rfl) ?_
  refine lv_iload hx hb dL_law_750 (la hl 5 rfl) ?_
  refine lv_iconst (v := Int32.ofInt 3) hx hb dL_law_752 rfl ?_
  refine s_iadd hx hb dL_law_753 ?_
  refine s_sld (t := t + 3) hx hb hX hbl hbA hS (by rw [wr_eq ⟨by omega, by omega⟩]; omega) (by omega) hL dL_law_754 ?_
  refine s_callV (n := 3) (rest := []) [vi (xs (t + 1)).toInt, vi (xs (t + 2)).toInt, vi (xs (t + 3)).toInt] hx hb hml hown hts hE hM hS (c_X6_list l D G s.heap.size (hsN h2 k9) h3 ma (xs (t + 1)).toInt (xs (t + 2)).toInt (xs (t + 3)).toInt bv (inr_ti _) (inr_ti _) (inr_ti _) g3) kw_890 kw_887 kw_40 kw_888 kw_889 (by decide +kernel) ⟨Nat.le_of_ble_eq_true rfl, Nat.le_of_ble_eq_true rfl⟩ rfl rfl (by decide) u6 rfl hl.1.1 rfl (c8 c_0 (Nat.le_of_ble_eq_true rfl)) dL_law_755 ⟨Nat.le_trans (by show cells + 2 + 0 ≤ 100000; omega) rm_c, Nat.le_trans (by show slots + 12 + 0 ≤ 2000000; omega) rm_s⟩ (fun H locs i_b hM hS => ?_)
  refine W.eq (g2 := F0 m 758 ls [vi bv]) rfl ?_
  refine t_istore (lv' := [(6, vi bv), (5, vi (kL_list code)), (0, vr (b : Int)), (1, vr xa), (2, vr ma), (3, vr oa), (4, vi (t : Int))]) hx hb dL_law_758 hl (by decide) rfl (fun ls hl => ?_)
  refine s_aload_n hx hb dL_law_760 rfl (la hl 4 rfl) ?_
  refine s_callV (n := 0) (rest := []) [] hx hb hml hown hts hE hM hS (c_X6_thrown l D G s.heap.size h3 h3 ma (kL_list code) g4) kw_754 kw_751 kw_40 kw_752 kw_753 (by decide +kernel) ⟨Nat.le_of_ble_eq_true rfl, Nat.le_of_ble_eq_true rfl⟩ rfl rfl (by decide) (hJ6 h3 hJ3) rfl hl.1.1 rfl (c8 c_0 (Nat.le_of_ble_eq_true rfl)) dL_law_761 ⟨Nat.le_trans (by show cells + 2 + 0 + 0 ≤ 100000; omega) rm_c, Nat.le_trans (by show slots + 12 + 0 + 0 ≤ 2000000; omega) rm_s⟩ (fun H locs i_k hM hS => ?_)
  refine W.eq (g2 := F0 m 764 ls [vi (kL_list code)]) rfl ?_
  refine W.widen (k := cells + 40) (n := slots + 3000) (by show cells + 2 + 0 + 0 ≤ _; omega) (by show slots + 12 + 0 + 0 ≤ _; omega) ?_
  refine lv_iload hx hb dL_law_764 (la hl 1 rfl) ?_
  refine s_icmp_eq (tgt := 771) hx hb dL_law_766 (by decide) ikL ikL (fun _ => ?_) (fun cd => absurd rfl cd)
  refine lv_iload hx hb dL_law_771 (la hl 1 rfl) ?_
  refine s_if_ne (tgt := 788) hx hb dL_law_773 (by decide) ikL (fun cd => ?_) (fun cd => ?_)
  · refine lv_goto (tgt := 1032) hx hb dL_law_788 (by decide) ?_
    exact cont h3 H locs ls hJ3 hM hS (lsub hl [2, 3, 4, 5, 6] rfl)
  · have hc0 := hkz (Classical.byContradiction cd)
    refine s_aload_n hx hb dL_law_776 rfl (la hl 5 rfl) ?_
    refine lv_iconst (v := Int32.ofInt 0) hx hb dL_law_777 rfl ?_
    refine s_lald hx hb hE.1 hM (by decide) (g5 hc0) dL_law_778 ?_
    refine lv_iload hx hb dL_law_779 (la hl 0 rfl) ?_
    refine s_i2l hx hb i_b dL_law_781 ?_
    refine s_lcmp hx hb i_b i_b dL_law_782 ?_
    refine s_if_eq (tgt := 788) hx hb dL_law_783 (by decide) (inr_cm _ _) (fun _ => ?_) (fun cd2 => absurd (by unfold lcm; rw [if_neg (by omega), if_pos rfl]) cd2)
    refine lv_goto (tgt := 1032) hx hb dL_law_788 (by decide) ?_
    exact cont h3 H locs ls hJ3 hM hS (lsub hl [2, 3, 4, 5, 6] rfl)
set_option maxHeartbeats 4000000 in
set_option maxRecDepth 100000 in
theorem law_slab {p : Program} {l : Launch} {e : Env} {s : State} {m : MethodId} {below : List Frame} {meth : Method} {c : Code} {b L : Nat} {xs : Nat → Int32} {D : va_G} {G : Nat → ClassId} {J : Hp → Prop} {xa ma oa : Int} {Q : State → Prop} (C0 : lw_At p s m meth c b L xs) (hL : L ≤ 2560) (hE : EV l D G s.heap.size s) (hJ5 : ∀ h, J h → ckd h 5 xa = some ()) (hJ6 : ∀ h, J h → ckd h 6 ma = some ()) (hop : Op_slab J xa ma oa) {h : Hp} {H : Heap} {locs : List Loc} {ls : Array Slot} {t : Nat} (ht : t + 5 ≤ L) (hM : SM D G s.heap.size h H) (hS : va_S (Ab s.heap.size) s.heap H locs) (hJ : J h) (hl : lvh ls 7 [(0, vr (b : Int)), (1, vr xa), (2, vr ma), (3, vr oa), (4, vi (t : Int))]) {cells slots : Nat} (hc : cells + 40 ≤ 100000) (hs : slots + 3000 ≤ 2000000) (cont : ∀ (h : Hp) (H : Heap) (locs : List Loc) (ls : Array Slot), J h → SM D G s.heap.size h H → va_S (Ab s.heap.size) s.heap H locs → lvh ls 7 [(0, vr (b : Int)), (1, vr xa), (2, vr ma), (3, vr oa), (4, vi (t : Int))] → W p l e room_1 s m #[Value.ref b] below meth c H locs (cells + 40) (slots + 3000) Q (F0 m 1032 ls [])) : W p l e room_1 s m #[Value.ref b] below meth c H locs cells slots Q (F0 m 791 ls []) := by
  obtain ⟨hx, hb, hr, hml, hown, hts0, hX, hbl, hlocks, hgv⟩ := id C0
  have hts : ∀ w ∈ BW, w.before #[Value.ref b] s = true := fun w hw => hts0 w (bw_tbl hw)
  have hbA : ¬ (Ab s.heap.size) b := Nat.not_le.mpr hbl
  replace hown : s.vm.findClass RL = some m.cls := hown
  obtain ⟨code, rv, h1, h2, g, hcd, g0, g1, hm⟩ := hop h (xs (t + 1)).toInt (xs (t + 2)).toInt (inr_ti _) (inr_ti _) hJ
  refine s_aload_n hx hb dL_law_791 rfl (la hl 1 rfl) ?_
  refine s_aload_n hx hb dL_law_792 rfl (la hl 0 rfl) ?_
  refine lv_iload hx hb dL_law_793 (la hl 4 rfl) ?_
  refine lv_iconst (v := Int32.ofInt 1) hx hb dL_law_795 rfl ?_
  refine s_iadd hx hb dL_law_796 ?_
  refine s_sld (t := t + 1) hx hb hX hbl hbA hS (by rw [wr_eq ⟨by omega, by omega⟩]; omega) (by omega) hL dL_law_797 ?_
  refine s_aload_n hx hb dL_law_798 rfl (la hl 0 rfl) ?_
  refine lv_iload hx hb dL_law_799 (la hl 4 rfl) ?_
  refine lv_iconst (v := Int32.ofInt 2) hx hb dL_law_801 rfl ?_
  refine s_iadd hx hb dL_law_802 ?_
  refine s_sld (t := t + 2) hx hb hX hbl hbA hS (by rw [wr_eq ⟨by omega, by omega⟩]; omega) (by omega) hL dL_law_803 ?_
  refine s_aload_n hx hb dL_law_804 rfl (la hl 3 rfl) ?_
  refine s_callL (n := 4) (rest := []) [vr xa, vi (xs (t + 1)).toInt, vi (xs (t + 2)).toInt, vr oa] hx hb hml hown hts hE hM hS (c_L_slab l D G s.heap.size h h1 h2 xa (xs (t + 1)).toInt (xs (t + 2)).toInt oa code rv () (inr_ti _) (inr_ti _) (hJ5 h hJ) g hcd g0 g1) kw_636 kw_634 kw_36 kw_635 (by decide +kernel) ⟨Nat.le_of_ble_eq_true rfl, Nat.le_of_ble_eq_true rfl⟩ rfl hl.1.1 rfl (c8 c_0 (Nat.le_of_ble_eq_true rfl)) dL_law_805 ⟨Nat.le_trans (by show cells + 1 ≤ 100000; omega) rm_c, Nat.le_trans (by show slots + 6 ≤ 2000000; omega) rm_s⟩ (fun H locs k9 hk9 hM hS => ?_)
  obtain ⟨u6, bv, h3, g3, g4, g5, hJ3⟩ := hm k9 hk9
  have hkz : kL_slab code = 0 → code = 0 := by rcases hcd with rfl | rfl | rfl <;> decide
  have ikL : inr (kL_slab code) := by rcases hcd with rfl | rfl | rfl <;> decide
  refine t_istore (lv' := [(5, vi (kL_slab code)), (0, vr (b : Int)), (1, vr xa), (2, vr ma), (3, vr oa), (4, vi (t : Int))]) hx hb dL_law_808 hl (by decide) rfl (fun ls hl => ?_)
  refine s_aload_n hx hb dL_law_810 rfl (la hl 3 rfl) ?_
  refine s_aload_n hx hb dL_law_811 rfl (la hl 1 rfl) ?_
  refine lv_iload hx hb dL_law_812 (la hl 5 rfl) ?_
  refine lv_iconst (v := Int32.ofInt 1) hx hb dL_law_814 rfl ?_
  refine s_iadd hx hb dL_law_815 ?_
  refine s_sld (t := t + 1) hx hb hX hbl hbA hS (by rw [wr_eq ⟨by omega, by omega⟩]; omega) (by omega) hL dL_law_816 ?_
  refine s_aload_n hx hb dL_law_817 rfl (la hl 1 rfl) ?_
  refine lv_iload hx hb dL_law_818 (la hl 5 rfl) ?_
  refine lv_iconst (v := Int32.ofInt 2) hx hb dL_law_820 rfl ?_
  refine s_iadd hx hb dL_law_821 ?_
  refine s_sld (t := t + 2) hx hb hX hbl hbA hS (by rw [wr_eq ⟨by omega, by omega⟩]; omega) (by omega) hL dL_law_822 ?_
  refine s_callV (n := 2) (rest := []) [vi (xs (t + 1)).toInt, vi (xs (t + 2)).toInt] hx hb hml hown hts hE hM hS (c_X6_slab l D G s.heap.size (hsN h2 k9) h3 ma (xs (t + 1)).toInt (xs (t + 2)).toInt bv (inr_ti _) (inr_ti _) g3) kw_894 kw_891 kw_40 kw_892 kw_893 (by decide +kernel) ⟨Nat.le_of_ble_eq_true rfl, Nat.le_of_ble_eq_true rfl⟩ rfl rfl (by decide) u6 rfl hl.1.1 rfl (c8 c_0 (Nat.le_of_ble_eq_true rfl)) dL_law_823 ⟨Nat.le_trans (by show cells + 1 + 0 ≤ 100000; omega) rm_c, Nat.le_trans (by show slots + 6 + 0 ≤ 2000000; omega) rm_s⟩ (fun H locs i_b hM hS => ?_)
  refine W.eq (g2 := F0 m 826 ls [vi bv]) rfl ?_
  refine t_istore (lv' := [(6, vi bv), (5, vi (kL_slab code)), (0, vr (b : Int)), (1, vr xa), (2, vr ma), (3, vr oa), (4, vi (t : Int))]) hx hb dL_law_826 hl (by decide) rfl (fun ls hl => ?_)
  refine s_aload_n hx hb dL_law_828 rfl (la hl 4 rfl) ?_
  refine s_callV (n := 0) (rest := []) [] hx hb hml hown hts hE hM hS (c_X6_thrown l D G s.heap.size h3 h3 ma (kL_slab code) g4) kw_754 kw_751 kw_40 kw_752 kw_753 (by decide +kernel) ⟨Nat.le_of_ble_eq_true rfl, Nat.le_of_ble_eq_true rfl⟩ rfl rfl (by decide) (hJ6 h3 hJ3) rfl hl.1.1 rfl (c8 c_0 (Nat.le_of_ble_eq_true rfl)) dL_law_829 ⟨Nat.le_trans (by show cells + 1 + 0 + 0 ≤ 100000; omega) rm_c, Nat.le_trans (by show slots + 6 + 0 + 0 ≤ 2000000; omega) rm_s⟩ (fun H locs i_k hM hS => ?_)
  refine W.eq (g2 := F0 m 832 ls [vi (kL_slab code)]) rfl ?_
  refine W.widen (k := cells + 40) (n := slots + 3000) (by show cells + 1 + 0 + 0 ≤ _; omega) (by show slots + 6 + 0 + 0 ≤ _; omega) ?_
  refine lv_iload hx hb dL_law_832 (la hl 1 rfl) ?_
  refine s_icmp_eq (tgt := 839) hx hb dL_law_834 (by decide) ikL ikL (fun _ => ?_) (fun cd => absurd rfl cd)
  refine lv_iload hx hb dL_law_839 (la hl 1 rfl) ?_
  refine s_if_ne (tgt := 856) hx hb dL_law_841 (by decide) ikL (fun cd => ?_) (fun cd => ?_)
  · refine lv_goto (tgt := 1032) hx hb dL_law_856 (by decide) ?_
    exact cont h3 H locs ls hJ3 hM hS (lsub hl [2, 3, 4, 5, 6] rfl)
  · have hc0 := hkz (Classical.byContradiction cd)
    refine s_aload_n hx hb dL_law_844 rfl (la hl 5 rfl) ?_
    refine lv_iconst (v := Int32.ofInt 0) hx hb dL_law_845 rfl ?_
    refine s_lald hx hb hE.1 hM (by decide) (g5 hc0) dL_law_846 ?_
    refine lv_iload hx hb dL_law_847 (la hl 0 rfl) ?_
    refine s_i2l hx hb i_b dL_law_849 ?_
    refine s_lcmp hx hb i_b i_b dL_law_850 ?_
    refine s_if_eq (tgt := 856) hx hb dL_law_851 (by decide) (inr_cm _ _) (fun _ => ?_) (fun cd2 => absurd (by unfold lcm; rw [if_neg (by omega), if_pos rfl]) cd2)
    refine lv_goto (tgt := 1032) hx hb dL_law_856 (by decide) ?_
    exact cont h3 H locs ls hJ3 hM hS (lsub hl [2, 3, 4, 5, 6] rfl)
set_option maxHeartbeats 4000000 in
set_option maxRecDepth 100000 in
theorem law_magazine {p : Program} {l : Launch} {e : Env} {s : State} {m : MethodId} {below : List Frame} {meth : Method} {c : Code} {b L : Nat} {xs : Nat → Int32} {D : va_G} {G : Nat → ClassId} {J : Hp → Prop} {xa ma oa : Int} {Q : State → Prop} (C0 : lw_At p s m meth c b L xs) (hL : L ≤ 2560) (hE : EV l D G s.heap.size s) (hJ5 : ∀ h, J h → ckd h 5 xa = some ()) (hJ6 : ∀ h, J h → ckd h 6 ma = some ()) (hop : Op_magazine J xa ma oa) {h : Hp} {H : Heap} {locs : List Loc} {ls : Array Slot} {t : Nat} (ht : t + 5 ≤ L) (hM : SM D G s.heap.size h H) (hS : va_S (Ab s.heap.size) s.heap H locs) (hJ : J h) (hl : lvh ls 7 [(0, vr (b : Int)), (1, vr xa), (2, vr ma), (3, vr oa), (4, vi (t : Int))]) {cells slots : Nat} (hc : cells + 40 ≤ 100000) (hs : slots + 3000 ≤ 2000000) (cont : ∀ (h : Hp) (H : Heap) (locs : List Loc) (ls : Array Slot), J h → SM D G s.heap.size h H → va_S (Ab s.heap.size) s.heap H locs → lvh ls 7 [(0, vr (b : Int)), (1, vr xa), (2, vr ma), (3, vr oa), (4, vi (t : Int))] → W p l e room_1 s m #[Value.ref b] below meth c H locs (cells + 40) (slots + 3000) Q (F0 m 1032 ls [])) : W p l e room_1 s m #[Value.ref b] below meth c H locs cells slots Q (F0 m 859 ls []) := by
  obtain ⟨hx, hb, hr, hml, hown, hts0, hX, hbl, hlocks, hgv⟩ := id C0
  have hts : ∀ w ∈ BW, w.before #[Value.ref b] s = true := fun w hw => hts0 w (bw_tbl hw)
  have hbA : ¬ (Ab s.heap.size) b := Nat.not_le.mpr hbl
  replace hown : s.vm.findClass RL = some m.cls := hown
  obtain ⟨code, rv, h1, h2, g, hcd, g0, g1, hm⟩ := hop h (xs (t + 1)).toInt (xs (t + 2)).toInt (xs (t + 3)).toInt (inr_ti _) (inr_ti _) (inr_ti _) hJ
  refine s_aload_n hx hb dL_law_859 rfl (la hl 1 rfl) ?_
  refine s_aload_n hx hb dL_law_860 rfl (la hl 0 rfl) ?_
  refine lv_iload hx hb dL_law_861 (la hl 4 rfl) ?_
  refine lv_iconst (v := Int32.ofInt 1) hx hb dL_law_863 rfl ?_
  refine s_iadd hx hb dL_law_864 ?_
  refine s_sld (t := t + 1) hx hb hX hbl hbA hS (by rw [wr_eq ⟨by omega, by omega⟩]; omega) (by omega) hL dL_law_865 ?_
  refine s_aload_n hx hb dL_law_866 rfl (la hl 0 rfl) ?_
  refine lv_iload hx hb dL_law_867 (la hl 4 rfl) ?_
  refine lv_iconst (v := Int32.ofInt 2) hx hb dL_law_869 rfl ?_
  refine s_iadd hx hb dL_law_870 ?_
  refine s_sld (t := t + 2) hx hb hX hbl hbA hS (by rw [wr_eq ⟨by omega, by omega⟩]; omega) (by omega) hL dL_law_871 ?_
  refine s_aload_n hx hb dL_law_872 rfl (la hl 0 rfl) ?_
  refine lv_iload hx hb dL_law_873 (la hl 4 rfl) ?_
  refine lv_iconst (v := Int32.ofInt 3) hx hb dL_law_875 rfl ?_
  refine s_iadd hx hb dL_law_876 ?_
  refine s_sld (t := t + 3) hx hb hX hbl hbA hS (by rw [wr_eq ⟨by omega, by omega⟩]; omega) (by omega) hL dL_law_877 ?_
  refine s_aload_n hx hb dL_law_878 rfl (la hl 3 rfl) ?_
  refine s_callL (n := 5) (rest := []) [vr xa, vi (xs (t + 1)).toInt, vi (xs (t + 2)).toInt, vi (xs (t + 3)).toInt, vr oa] hx hb hml hown hts hE hM hS (c_L_magazine l D G s.heap.size h h1 h2 xa (xs (t + 1)).toInt (xs (t + 2)).toInt (xs (t + 3)).toInt oa code rv () (inr_ti _) (inr_ti _) (inr_ti _) (hJ5 h hJ) g hcd g0 g1) kw_646 kw_644 kw_36 kw_645 (by decide +kernel) ⟨Nat.le_of_ble_eq_true rfl, Nat.le_of_ble_eq_true rfl⟩ rfl hl.1.1 rfl (c8 c_0 (Nat.le_of_ble_eq_true rfl)) dL_law_879 ⟨Nat.le_trans (by show cells + 3 ≤ 100000; omega) rm_c, Nat.le_trans (by show slots + 18 ≤ 2000000; omega) rm_s⟩ (fun H locs k9 hk9 hM hS => ?_)
  obtain ⟨u6, bv, h3, g3, g4, g5, hJ3⟩ := hm k9 hk9
  have hkz : kL_magazine code = 0 → code = 0 := by rcases hcd with rfl | rfl | rfl <;> decide
  have ikL : inr (kL_magazine code) := by rcases hcd with rfl | rfl | rfl <;> decide
  refine t_istore (lv' := [(5, vi (kL_magazine code)), (0, vr (b : Int)), (1, vr xa), (2, vr ma), (3, vr oa), (4, vi (t : Int))]) hx hb dL_law_882 hl (by decide) rfl (fun ls hl => ?_)
  refine s_aload_n hx hb dL_law_884 rfl (la hl 3 rfl) ?_
  refine s_aload_n hx hb dL_law_885 rfl (la hl 1 rfl) ?_
  refine lv_iload hx hb dL_law_886 (la hl 5 rfl) ?_
  refine lv_iconst (v := Int32.ofInt 1) hx hb dL_law_888 rfl ?_
  refine s_iadd hx hb dL_law_889 ?_
  refine s_sld (t := t + 1) hx hb hX hbl hbA hS (by rw [wr_eq ⟨by omega, by omega⟩]; omega) (by omega) hL dL_law_890 ?_
  refine s_aload_n hx hb dL_law_891 rfl (la hl 1 rfl) ?_
  refine lv_iload hx hb dL_law_892 (la hl 5 rfl) ?_
  refine lv_iconst (v := Int32.ofInt 2) hx hb dL_law_894 rfl ?_
  refine s_iadd hx hb dL_law_895 ?_
  refine s_sld (t := t + 2) hx hb hX hbl hbA hS (by rw [wr_eq ⟨by omega, by omega⟩]; omega) (by omega) hL dL_law_896 ?_
  refine s_aload_n hx hb dL_law_897 rfl (la hl 1 rfl) ?_
  refine lv_iload hx hb dL_law_898 (la hl 5 rfl) ?_
  refine lv_iconst (v := Int32.ofInt 3) hx hb dL_law_900 rfl ?_
  refine s_iadd hx hb dL_law_901 ?_
  refine s_sld (t := t + 3) hx hb hX hbl hbA hS (by rw [wr_eq ⟨by omega, by omega⟩]; omega) (by omega) hL dL_law_902 ?_
  refine s_callV (n := 3) (rest := []) [vi (xs (t + 1)).toInt, vi (xs (t + 2)).toInt, vi (xs (t + 3)).toInt] hx hb hml hown hts hE hM hS (c_X6_magazine l D G s.heap.size (hsN h2 k9) h3 ma (xs (t + 1)).toInt (xs (t + 2)).toInt (xs (t + 3)).toInt bv (inr_ti _) (inr_ti _) (inr_ti _) g3) kw_898 kw_895 kw_40 kw_896 kw_897 (by decide +kernel) ⟨Nat.le_of_ble_eq_true rfl, Nat.le_of_ble_eq_true rfl⟩ rfl rfl (by decide) u6 rfl hl.1.1 rfl (c8 c_0 (Nat.le_of_ble_eq_true rfl)) dL_law_903 ⟨Nat.le_trans (by show cells + 3 + 0 ≤ 100000; omega) rm_c, Nat.le_trans (by show slots + 18 + 0 ≤ 2000000; omega) rm_s⟩ (fun H locs i_b hM hS => ?_)
  refine W.eq (g2 := F0 m 906 ls [vi bv]) rfl ?_
  refine t_istore (lv' := [(6, vi bv), (5, vi (kL_magazine code)), (0, vr (b : Int)), (1, vr xa), (2, vr ma), (3, vr oa), (4, vi (t : Int))]) hx hb dL_law_906 hl (by decide) rfl (fun ls hl => ?_)
  refine s_aload_n hx hb dL_law_908 rfl (la hl 4 rfl) ?_
  refine s_callV (n := 0) (rest := []) [] hx hb hml hown hts hE hM hS (c_X6_thrown l D G s.heap.size h3 h3 ma (kL_magazine code) g4) kw_754 kw_751 kw_40 kw_752 kw_753 (by decide +kernel) ⟨Nat.le_of_ble_eq_true rfl, Nat.le_of_ble_eq_true rfl⟩ rfl rfl (by decide) (hJ6 h3 hJ3) rfl hl.1.1 rfl (c8 c_0 (Nat.le_of_ble_eq_true rfl)) dL_law_909 ⟨Nat.le_trans (by show cells + 3 + 0 + 0 ≤ 100000; omega) rm_c, Nat.le_trans (by show slots + 18 + 0 + 0 ≤ 2000000; omega) rm_s⟩ (fun H locs i_k hM hS => ?_)
  refine W.eq (g2 := F0 m 912 ls [vi (kL_magazine code)]) rfl ?_
  refine W.widen (k := cells + 40) (n := slots + 3000) (by show cells + 3 + 0 + 0 ≤ _; omega) (by show slots + 18 + 0 + 0 ≤ _; omega) ?_
  refine lv_iload hx hb dL_law_912 (la hl 1 rfl) ?_
  refine s_icmp_eq (tgt := 919) hx hb dL_law_914 (by decide) ikL ikL (fun _ => ?_) (fun cd => absurd rfl cd)
  refine lv_iload hx hb dL_law_919 (la hl 1 rfl) ?_
  refine s_if_ne (tgt := 936) hx hb dL_law_921 (by decide) ikL (fun cd => ?_) (fun cd => ?_)
  · refine lv_goto (tgt := 1032) hx hb dL_law_936 (by decide) ?_
    exact cont h3 H locs ls hJ3 hM hS (lsub hl [2, 3, 4, 5, 6] rfl)
  · have hc0 := hkz (Classical.byContradiction cd)
    refine s_aload_n hx hb dL_law_924 rfl (la hl 5 rfl) ?_
    refine lv_iconst (v := Int32.ofInt 0) hx hb dL_law_925 rfl ?_
    refine s_lald hx hb hE.1 hM (by decide) (g5 hc0) dL_law_926 ?_
    refine lv_iload hx hb dL_law_927 (la hl 0 rfl) ?_
    refine s_i2l hx hb i_b dL_law_929 ?_
    refine s_lcmp hx hb i_b i_b dL_law_930 ?_
    refine s_if_eq (tgt := 936) hx hb dL_law_931 (by decide) (inr_cm _ _) (fun _ => ?_) (fun cd2 => absurd (by unfold lcm; rw [if_neg (by omega), if_pos rfl]) cd2)
    refine lv_goto (tgt := 1032) hx hb dL_law_936 (by decide) ?_
    exact cont h3 H locs ls hJ3 hM hS (lsub hl [2, 3, 4, 5, 6] rfl)
set_option maxHeartbeats 4000000 in
set_option maxRecDepth 100000 in
theorem law_block {p : Program} {l : Launch} {e : Env} {s : State} {m : MethodId} {below : List Frame} {meth : Method} {c : Code} {b L : Nat} {xs : Nat → Int32} {D : va_G} {G : Nat → ClassId} {J : Hp → Prop} {xa ma oa : Int} {Q : State → Prop} (C0 : lw_At p s m meth c b L xs) (hL : L ≤ 2560) (hE : EV l D G s.heap.size s) (hJ5 : ∀ h, J h → ckd h 5 xa = some ()) (hJ6 : ∀ h, J h → ckd h 6 ma = some ()) (hop : Op_block J xa ma oa) {h : Hp} {H : Heap} {locs : List Loc} {ls : Array Slot} {t : Nat} (ht : t + 5 ≤ L) (hM : SM D G s.heap.size h H) (hS : va_S (Ab s.heap.size) s.heap H locs) (hJ : J h) (hl : lvh ls 7 [(0, vr (b : Int)), (1, vr xa), (2, vr ma), (3, vr oa), (4, vi (t : Int))]) {cells slots : Nat} (hc : cells + 40 ≤ 100000) (hs : slots + 3000 ≤ 2000000) (cont : ∀ (h : Hp) (H : Heap) (locs : List Loc) (ls : Array Slot), J h → SM D G s.heap.size h H → va_S (Ab s.heap.size) s.heap H locs → lvh ls 7 [(0, vr (b : Int)), (1, vr xa), (2, vr ma), (3, vr oa), (4, vi (t : Int))] → W p l e room_1 s m #[Value.ref b] below meth c H locs (cells + 40) (slots + 3000) Q (F0 m 1032 ls [])) : W p l e room_1 s m #[Value.ref b] below meth c H locs cells slots Q (F0 m 939 ls []) := by
  obtain ⟨hx, hb, hr, hml, hown, hts0, hX, hbl, hlocks, hgv⟩ := id C0
  have hts : ∀ w ∈ BW, w.before #[Value.ref b] s = true := fun w hw => hts0 w (bw_tbl hw)
  have hbA : ¬ (Ab s.heap.size) b := Nat.not_le.mpr hbl
  replace hown : s.vm.findClass RL = some m.cls := hown
  obtain ⟨code, rv, h1, h2, g, hcd, g0, g1, hm⟩ := hop h (xs (t + 1)).toInt (xs (t + 2)).toInt (inr_ti _) (inr_ti _) hJ
  refine s_aload_n hx hb dL_law_939 rfl (la hl 1 rfl) ?_
  refine s_aload_n hx hb dL_law_940 rfl (la hl 0 rfl) ?_
  refine lv_iload hx hb dL_law_941 (la hl 4 rfl) ?_
  refine lv_iconst (v := Int32.ofInt 1) hx hb dL_law_943 rfl ?_
  refine s_iadd hx hb dL_law_944 ?_
  refine s_sld (t := t + 1) hx hb hX hbl hbA hS (by rw [wr_eq ⟨by omega, by omega⟩]; omega) (by omega) hL dL_law_945 ?_
  refine s_aload_n hx hb dL_law_946 rfl (la hl 0 rfl) ?_
  refine lv_iload hx hb dL_law_947 (la hl 4 rfl) ?_
  refine lv_iconst (v := Int32.ofInt 2) hx hb dL_law_949 rfl ?_
  refine s_iadd hx hb dL_law_950 ?_
  refine s_sld (t := t + 2) hx hb hX hbl hbA hS (by rw [wr_eq ⟨by omega, by omega⟩]; omega) (by omega) hL dL_law_951 ?_
  refine s_aload_n hx hb dL_law_952 rfl (la hl 3 rfl) ?_
  refine s_callL (n := 4) (rest := []) [vr xa, vi (xs (t + 1)).toInt, vi (xs (t + 2)).toInt, vr oa] hx hb hml hown hts hE hM hS (c_L_block l D G s.heap.size h h1 h2 xa (xs (t + 1)).toInt (xs (t + 2)).toInt oa code rv () (inr_ti _) (inr_ti _) (hJ5 h hJ) g hcd g0 g1) kw_654 kw_652 kw_36 kw_653 (by decide +kernel) ⟨Nat.le_of_ble_eq_true rfl, Nat.le_of_ble_eq_true rfl⟩ rfl hl.1.1 rfl (c8 c_0 (Nat.le_of_ble_eq_true rfl)) dL_law_953 ⟨Nat.le_trans (by show cells + 1 ≤ 100000; omega) rm_c, Nat.le_trans (by show slots + 6 ≤ 2000000; omega) rm_s⟩ (fun H locs k9 hk9 hM hS => ?_)
  obtain ⟨u6, bv, h3, g3, g4, g5, hJ3⟩ := hm k9 hk9
  have hkz : kL_block code = 0 → code = 0 := by rcases hcd with rfl | rfl <;> decide
  have ikL : inr (kL_block code) := by rcases hcd with rfl | rfl <;> decide
  refine t_istore (lv' := [(5, vi (kL_block code)), (0, vr (b : Int)), (1, vr xa), (2, vr ma), (3, vr oa), (4, vi (t : Int))]) hx hb dL_law_956 hl (by decide) rfl (fun ls hl => ?_)
  refine s_aload_n hx hb dL_law_958 rfl (la hl 3 rfl) ?_
  refine s_aload_n hx hb dL_law_959 rfl (la hl 1 rfl) ?_
  refine lv_iload hx hb dL_law_960 (la hl 5 rfl) ?_
  refine lv_iconst (v := Int32.ofInt 1) hx hb dL_law_962 rfl ?_
  refine s_iadd hx hb dL_law_963 ?_
  refine s_sld (t := t + 1) hx hb hX hbl hbA hS (by rw [wr_eq ⟨by omega, by omega⟩]; omega) (by omega) hL dL_law_964 ?_
  refine s_aload_n hx hb dL_law_965 rfl (la hl 1 rfl) ?_
  refine lv_iload hx hb dL_law_966 (la hl 5 rfl) ?_
  refine lv_iconst (v := Int32.ofInt 2) hx hb dL_law_968 rfl ?_
  refine s_iadd hx hb dL_law_969 ?_
  refine s_sld (t := t + 2) hx hb hX hbl hbA hS (by rw [wr_eq ⟨by omega, by omega⟩]; omega) (by omega) hL dL_law_970 ?_
  refine s_callV (n := 2) (rest := []) [vi (xs (t + 1)).toInt, vi (xs (t + 2)).toInt] hx hb hml hown hts hE hM hS (c_X6_block l D G s.heap.size (hsN h2 k9) h3 ma (xs (t + 1)).toInt (xs (t + 2)).toInt bv (inr_ti _) (inr_ti _) g3) kw_902 kw_899 kw_40 kw_900 kw_901 (by decide +kernel) ⟨Nat.le_of_ble_eq_true rfl, Nat.le_of_ble_eq_true rfl⟩ rfl rfl (by decide) u6 rfl hl.1.1 rfl (c8 c_0 (Nat.le_of_ble_eq_true rfl)) dL_law_971 ⟨Nat.le_trans (by show cells + 1 + 0 ≤ 100000; omega) rm_c, Nat.le_trans (by show slots + 6 + 0 ≤ 2000000; omega) rm_s⟩ (fun H locs i_b hM hS => ?_)
  refine W.eq (g2 := F0 m 974 ls [vi bv]) rfl ?_
  refine t_istore (lv' := [(6, vi bv), (5, vi (kL_block code)), (0, vr (b : Int)), (1, vr xa), (2, vr ma), (3, vr oa), (4, vi (t : Int))]) hx hb dL_law_974 hl (by decide) rfl (fun ls hl => ?_)
  refine s_aload_n hx hb dL_law_976 rfl (la hl 4 rfl) ?_
  refine s_callV (n := 0) (rest := []) [] hx hb hml hown hts hE hM hS (c_X6_thrown l D G s.heap.size h3 h3 ma (kL_block code) g4) kw_754 kw_751 kw_40 kw_752 kw_753 (by decide +kernel) ⟨Nat.le_of_ble_eq_true rfl, Nat.le_of_ble_eq_true rfl⟩ rfl rfl (by decide) (hJ6 h3 hJ3) rfl hl.1.1 rfl (c8 c_0 (Nat.le_of_ble_eq_true rfl)) dL_law_977 ⟨Nat.le_trans (by show cells + 1 + 0 + 0 ≤ 100000; omega) rm_c, Nat.le_trans (by show slots + 6 + 0 + 0 ≤ 2000000; omega) rm_s⟩ (fun H locs i_k hM hS => ?_)
  refine W.eq (g2 := F0 m 980 ls [vi (kL_block code)]) rfl ?_
  refine W.widen (k := cells + 40) (n := slots + 3000) (by show cells + 1 + 0 + 0 ≤ _; omega) (by show slots + 6 + 0 + 0 ≤ _; omega) ?_
  refine lv_iload hx hb dL_law_980 (la hl 1 rfl) ?_
  refine s_icmp_eq (tgt := 987) hx hb dL_law_982 (by decide) ikL ikL (fun _ => ?_) (fun cd => absurd rfl cd)
  refine lv_iload hx hb dL_law_987 (la hl 1 rfl) ?_
  refine s_if_ne (tgt := 1004) hx hb dL_law_989 (by decide) ikL (fun cd => ?_) (fun cd => ?_)
  · refine lv_goto (tgt := 1032) hx hb dL_law_1004 (by decide) ?_
    exact cont h3 H locs ls hJ3 hM hS (lsub hl [2, 3, 4, 5, 6] rfl)
  · have hc0 := hkz (Classical.byContradiction cd)
    refine s_aload_n hx hb dL_law_992 rfl (la hl 5 rfl) ?_
    refine lv_iconst (v := Int32.ofInt 0) hx hb dL_law_993 rfl ?_
    refine s_lald hx hb hE.1 hM (by decide) (g5 hc0) dL_law_994 ?_
    refine lv_iload hx hb dL_law_995 (la hl 0 rfl) ?_
    refine s_i2l hx hb i_b dL_law_997 ?_
    refine s_lcmp hx hb i_b i_b dL_law_998 ?_
    refine s_if_eq (tgt := 1004) hx hb dL_law_999 (by decide) (inr_cm _ _) (fun _ => ?_) (fun cd2 => absurd (by unfold lcm; rw [if_neg (by omega), if_pos rfl]) cd2)
    refine lv_goto (tgt := 1032) hx hb dL_law_1004 (by decide) ?_
    exact cont h3 H locs ls hJ3 hM hS (lsub hl [2, 3, 4, 5, 6] rfl)
set_option maxHeartbeats 4000000 in
set_option maxRecDepth 100000 in
theorem law_pages {p : Program} {l : Launch} {e : Env} {s : State} {m : MethodId} {below : List Frame} {meth : Method} {c : Code} {b L : Nat} {xs : Nat → Int32} {D : va_G} {G : Nat → ClassId} {J : Hp → Prop} {xa ma oa : Int} {Q : State → Prop} (C0 : lw_At p s m meth c b L xs) (hL : L ≤ 2560) (hE : EV l D G s.heap.size s) (hJ5 : ∀ h, J h → ckd h 5 xa = some ()) (hJ6 : ∀ h, J h → ckd h 6 ma = some ()) (hop : Op_pages J xa ma oa) {h : Hp} {H : Heap} {locs : List Loc} {ls : Array Slot} {t : Nat} (ht : t + 5 ≤ L) (hM : SM D G s.heap.size h H) (hS : va_S (Ab s.heap.size) s.heap H locs) (hJ : J h) (hl : lvh ls 7 [(0, vr (b : Int)), (1, vr xa), (2, vr ma), (3, vr oa), (4, vi (t : Int))]) {cells slots : Nat} (hc : cells + 40 ≤ 100000) (hs : slots + 3000 ≤ 2000000) (cont : ∀ (h : Hp) (H : Heap) (locs : List Loc) (ls : Array Slot), J h → SM D G s.heap.size h H → va_S (Ab s.heap.size) s.heap H locs → lvh ls 7 [(0, vr (b : Int)), (1, vr xa), (2, vr ma), (3, vr oa), (4, vi (t : Int))] → W p l e room_1 s m #[Value.ref b] below meth c H locs (cells + 40) (slots + 3000) Q (F0 m 1032 ls [])) : W p l e room_1 s m #[Value.ref b] below meth c H locs cells slots Q (F0 m 1007 ls []) := by
  obtain ⟨hx, hb, hr, hml, hown, hts0, hX, hbl, hlocks, hgv⟩ := id C0
  have hts : ∀ w ∈ BW, w.before #[Value.ref b] s = true := fun w hw => hts0 w (bw_tbl hw)
  have hbA : ¬ (Ab s.heap.size) b := Nat.not_le.mpr hbl
  replace hown : s.vm.findClass RL = some m.cls := hown
  obtain ⟨rv, h1, h2, g, u6, g3, hJ3⟩ := hop h (xs (t + 1)).toInt (inr_ti _) hJ
  refine s_aload_n hx hb dL_law_1007 rfl (la hl 1 rfl) ?_
  refine s_aload_n hx hb dL_law_1008 rfl (la hl 0 rfl) ?_
  refine lv_iload hx hb dL_law_1009 (la hl 4 rfl) ?_
  refine lv_iconst (v := Int32.ofInt 1) hx hb dL_law_1011 rfl ?_
  refine s_iadd hx hb dL_law_1012 ?_
  refine s_sld (t := t + 1) hx hb hX hbl hbA hS (by rw [wr_eq ⟨by omega, by omega⟩]; omega) (by omega) hL dL_law_1013 ?_
  refine s_callV (n := 1) (rest := []) [vi (xs (t + 1)).toInt] hx hb hml hown hts hE hM hS (c_X5_pages l D G s.heap.size h h1 xa (xs (t + 1)).toInt rv (inr_ti _) g) kw_169 kw_166 kw_37 kw_167 kw_168 (by decide +kernel) ⟨Nat.le_of_ble_eq_true rfl, Nat.le_of_ble_eq_true rfl⟩ rfl rfl (by decide) (hJ5 h hJ) rfl hl.1.1 rfl (c8 c_0 (Nat.le_of_ble_eq_true rfl)) dL_law_1014 ⟨Nat.le_trans (by show cells + 0 ≤ 100000; omega) rm_c, Nat.le_trans (by show slots + 0 ≤ 2000000; omega) rm_s⟩ (fun H locs i_b hM hS => ?_)
  refine W.eq (g2 := F0 m 1017 ls [vi rv]) rfl ?_
  refine s_aload_n hx hb dL_law_1017 rfl (la hl 2 rfl) ?_
  refine s_aload_n hx hb dL_law_1018 rfl (la hl 0 rfl) ?_
  refine lv_iload hx hb dL_law_1019 (la hl 4 rfl) ?_
  refine lv_iconst (v := Int32.ofInt 1) hx hb dL_law_1021 rfl ?_
  refine s_iadd hx hb dL_law_1022 ?_
  refine s_sld (t := t + 1) hx hb hX hbl hbA hS (by rw [wr_eq ⟨by omega, by omega⟩]; omega) (by omega) hL dL_law_1023 ?_
  refine s_callV (n := 1) (rest := [vi rv]) [vi (xs (t + 1)).toInt] hx hb hml hown hts hE hM hS (c_X6_pages l D G s.heap.size h1 h2 ma (xs (t + 1)).toInt rv (inr_ti _) g3) kw_906 kw_903 kw_40 kw_904 kw_905 (by decide +kernel) ⟨Nat.le_of_ble_eq_true rfl, Nat.le_of_ble_eq_true rfl⟩ rfl rfl (by decide) u6 rfl hl.1.1 rfl (c8 (c_i c_0) (Nat.le_of_ble_eq_true rfl)) dL_law_1024 ⟨Nat.le_trans (by show cells + 0 + 0 ≤ 100000; omega) rm_c, Nat.le_trans (by show slots + 0 + 0 ≤ 2000000; omega) rm_s⟩ (fun H locs _ hM hS => ?_)
  refine W.eq (g2 := F0 m 1027 ls [vi rv, vi rv]) rfl ?_
  refine W.widen (k := cells + 40) (n := slots + 3000) (by show cells + 0 + 0 ≤ _; omega) (by show slots + 0 + 0 ≤ _; omega) ?_
  refine s_icmp_eq (tgt := 1032) hx hb dL_law_1027 (by decide) i_b i_b (fun _ => ?_) (fun cd => absurd rfl cd)
  exact cont h2 H locs ls hJ3 hM hS hl
