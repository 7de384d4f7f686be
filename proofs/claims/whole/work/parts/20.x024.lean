def f_J7_fill_53178_s5 (k5 : Hp → Int → Int → Int → Int → Option (Int × Hp)) (h : Hp) (x0 x1 x2 x3 : Int) : Option (Int × Hp) :=
  if x3 ≤ x2 then (
    some (0, h)
  ) else (
    Option.bind (ast h 8 x0 x2 x1) fun h2 =>
    k5 h2 x0 x1 (wr (x2 + 1)) x3
  )
def f_J7_fill_53178_b5 : Nat → Hp → Int → Int → Int → Int → Option (Int × Hp)
  | 0, _, _, _, _, _ => none
  | n + 1, h, x0, x1, x2, x3 => f_J7_fill_53178_s5 (f_J7_fill_53178_b5 n) h x0 x1 x2 x3
def f_J7_fill_53178 (h : Hp) (x0 x1 : Int) : Option (Int × Hp) :=
  Option.bind (aln h 8 x0) fun v1 =>
  f_J7_fill_53178_b5 fuel h x0 x1 0 v1
abbrev w_J7_fill_53178 : List Cond := Cond.code yJ7_fill_53178 cJ7_fill_53178 4 none :: BW
abbrev rm_J7_fill_53178 : Room := { frames := 0, cells := 0, slots := 0, locals := 0 }
set_option maxHeartbeats 4000000 in
set_option maxRecDepth 100000 in
theorem c_J7_fill_53178 (l : Launch) (D : va_G) (G : Nat → ClassId) (base : Nat) (h h' : Hp) (x0 x1 : Int) (rv : Int) (i_x1 : inr x1) (hrun : f_J7_fill_53178 h x0 x1 = some (rv, h')) : Met l yJ7_fill_53178 w_J7_fill_53178 rm_J7_fill_53178 (PC l D G base h [vr x0, vi x1]) (QR D G base none True h') rm_J7_fill_53178.cells rm_J7_fill_53178.slots (Ab base) := by
  refine Met.ofW (cc := cJ7_fill_53178) (maxL := 4) (ret := none) (by decide) rfl ?_
  intro p e s m args below meth c s₁ B hml hv
  obtain ⟨hargs, hE, hM⟩ := hv
  have hx := B.exec
  have hb := B.bytes
  have hr := B.returns
  have hts0 := atoms_spec (ws := w_J7_fill_53178) B.pre
  have hts : ∀ w ∈ BW, w.before args s = true := fun w hw => hts0 w (List.mem_cons_of_mem _ hw)
  have hown : s.vm.findClass RJ7 = some m.cls := findClass_of_methodNamed B.named
  have hlocks := B.notSynchronized
  have lp5 : ∀ (n5 : Nat) (h : Hp) (x0 x1 x2 x3 : Int) (H : Heap) (locs : List Loc) (ls : Array Slot), inr x1 → inr x2 → inr x3 → SM D G base h H → va_S (Ab base) s.heap H locs → lvh ls 4 [(0, vr x0), (1, vi x1), (2, vi x2), (3, vi x3)] → f_J7_fill_53178_b5 n5 h x0 x1 x2 x3 = some (rv, h') → W p l e (headSpec w_J7_fill_53178 rm_J7_fill_53178).room s m args below meth c H locs 0 0 (QV D G base rv h' below args s 0 0) (F0 m 5 ls []) := by
    intro n5
    induction n5 with
    | zero => intro h x0 x1 x2 x3 H locs ls i_x1 i_x2 i_x3 hM hS hl hrun; exact absurd hrun (fun q => nomatch (show (none : Option (Int × Hp)) = some (rv, h') from q))
    | succ n5 ih5 =>
      intro h x0 x1 x2 x3 H locs ls i_x1 i_x2 i_x3 hM hS hl hrun
      replace hrun : f_J7_fill_53178_s5 (f_J7_fill_53178_b5 n5) h x0 x1 x2 x3 = some (rv, h') := hrun
      unfold f_J7_fill_53178_s5 at hrun
      refine lv_iload_n hx hb dJ7_fill_53178_5 rfl (la hl 2 rfl) ?_
      refine lv_iload_n hx hb dJ7_fill_53178_6 rfl (la hl 3 rfl) ?_
      refine s_icmp_ge (tgt := 20) hx hb dJ7_fill_53178_7 (by decide) i_x2 i_x3 (fun cd => ?_) (fun cd => ?_)
      · replace hrun := it_pos cd hrun
        exact s_vret hx hb hr hlocks hM hS hrun (Nat.le_of_ble_eq_true rfl) (Nat.le_of_ble_eq_true rfl) dJ7_fill_53178_20
      · replace hrun := it_neg cd hrun
        refine s_aload_n hx hb dJ7_fill_53178_10 rfl (la hl 0 rfl) ?_
        refine lv_iload_n hx hb dJ7_fill_53178_11 rfl (la hl 2 rfl) ?_
        refine lv_iload_n hx hb dJ7_fill_53178_12 rfl (la hl 1 rfl) ?_
        obtain ⟨h2, g2, hrun⟩ := bd hrun
        refine s_iast hx hb hE.1 hM hS i_x2 i_x1 g2 dJ7_fill_53178_13 (fun H locs hM hS => ?_)
        refine t_iinc (lv' := [(2, vi (wr (x2 + 1))), (0, vr x0), (1, vi x1), (3, vi x3)]) hx hb dJ7_fill_53178_14 hl (k := 2) rfl (by decide) rfl rfl (fun ls hl => ?_)
        refine lv_goto (tgt := 5) hx hb dJ7_fill_53178_17 (by decide) ?_
        exact ih5 h2 x0 x1 (wr (x2 + 1)) x3 H locs ls i_x1 (inr_wr _) i_x3 hM hS (lsub hl [1, 2, 0, 3] rfl) hrun
  refine s_entry hargs hM (c_r (c_i c_0)) (Nat.le_of_ble_eq_true rfl) (fun H locs ls hM hS hl => ?_)
  replace hl : lvh ls 4 [(0, vr x0), (1, vi x1)] := hl
  unfold f_J7_fill_53178 at hrun
  refine lv_iconst (v := Int32.ofInt 0) hx hb dJ7_fill_53178_0 rfl ?_
  refine t_istore_n (lv' := [(2, vi 0), (0, vr x0), (1, vi x1)]) hx hb dJ7_fill_53178_1 rfl hl (by decide) rfl (fun ls hl => ?_)
  refine s_aload_n hx hb dJ7_fill_53178_2 rfl (la hl 1 rfl) ?_
  obtain ⟨v1, g1, hrun⟩ := bd hrun
  refine s_alen hx hb hE.1 hM g1 dJ7_fill_53178_3 ?_
  have i_v1 : inr v1 := aln_i g1
  refine t_istore_n (lv' := [(3, vi v1), (2, vi 0), (0, vr x0), (1, vi x1)]) hx hb dJ7_fill_53178_4 rfl hl (by decide) rfl (fun ls hl => ?_)
  exact lp5 fuel h x0 x1 0 v1 H locs ls i_x1 (by decide) i_v1 hM hS (lsub hl [2, 3, 1, 0] rfl) hrun
def f_X0_init_s30 (k30 : Hp → Int → Int → Option (Int × Hp)) (h : Hp) (x0 x1 : Int) : Option (Int × Hp) :=
  if 256 ≤ x1 then (
    some (0, h)
  ) else (
    Option.bind (gtf h 0 0 x0) fun v7 =>
    Option.bind (ast h 8 v7 x1 6) fun h8 =>
    k30 h8 x0 (wr (x1 + 64))
  )
def f_X0_init_b30 : Nat → Hp → Int → Int → Option (Int × Hp)
  | 0, _, _, _ => none
  | n + 1, h, x0, x1 => f_X0_init_s30 (f_X0_init_b30 n) h x0 x1
def f_X0_init (h : Hp) (x0 : Int) : Option (Int × Hp) :=
  Option.bind (ckd h 0 x0) fun u1 =>
  Option.bind (nwa h 8 256 256) fun h2 =>
  Option.bind (ptf h2 0 0 x0 (hN h : Int)) fun h3 =>
  Option.bind (ptf h3 0 1 x0 256) fun h4 =>
  Option.bind (gtf h4 0 0 x0) fun v5 =>
  Option.bind (f_J7_fill_53178 h4 v5 (-1)) fun r6 =>
  f_X0_init_b30 fuel r6.2 x0 0
abbrev w_X0_init : List Cond := Cond.code yX0_init cX0_init 2 none :: BW
abbrev rm_X0_init : Room := { frames := 1, cells := 1, slots := 256, locals := 23 }
set_option maxHeartbeats 4000000 in
set_option maxRecDepth 100000 in
theorem c_X0_init (l : Launch) (D : va_G) (G : Nat → ClassId) (base : Nat) (h h' : Hp) (x0 : Int) (rv : Int) (hrun : f_X0_init h x0 = some (rv, h')) : Met l yX0_init w_X0_init rm_X0_init (PC l D G base h [vr x0]) (QR D G base none True h') rm_X0_init.cells rm_X0_init.slots (Ab base) := by
  refine Met.ofW (cc := cX0_init) (maxL := 2) (ret := none) (by decide) rfl ?_
  intro p e s m args below meth c s₁ B hml hv
  obtain ⟨hargs, hE, hM⟩ := hv
  have hx := B.exec
  have hb := B.bytes
  have hr := B.returns
  have hts0 := atoms_spec (ws := w_X0_init) B.pre
  have hts : ∀ w ∈ BW, w.before args s = true := fun w hw => hts0 w (List.mem_cons_of_mem _ hw)
  have hown : s.vm.findClass RX0 = some m.cls := findClass_of_methodNamed B.named
  have hlocks := B.notSynchronized
  have hin : meth.name = "<init>" := (name_of_methodNamed B.named B.method).1
  have lp30 : ∀ (n30 : Nat) (h : Hp) (x0 x1 : Int) (H : Heap) (locs : List Loc) (ls : Array Slot), inr x1 → SM D G base h H → va_S (Ab base) s.heap H locs → lvh ls 2 [(0, vr x0), (1, vi x1)] → f_X0_init_b30 n30 h x0 x1 = some (rv, h') → W p l e (headSpec w_X0_init rm_X0_init).room s m args below meth c H locs 1 256 (QV D G base rv h' below args s 1 256) (F0 m 30 ls []) := by
    intro n30
    induction n30 with
    | zero => intro h x0 x1 H locs ls i_x1 hM hS hl hrun; exact absurd hrun (fun q => nomatch (show (none : Option (Int × Hp)) = some (rv, h') from q))
    | succ n30 ih30 =>
      intro h x0 x1 H locs ls i_x1 hM hS hl hrun
      replace hrun : f_X0_init_s30 (f_X0_init_b30 n30) h x0 x1 = some (rv, h') := hrun
      unfold f_X0_init_s30 at hrun
      refine lv_iload_n hx hb dX0_init_30 rfl (la hl 1 rfl) ?_
      refine lv_sipush (v := Int32.ofInt 256) hx hb dX0_init_31 (by decide) ?_
      refine s_icmp_ge (tgt := 51) hx hb dX0_init_34 (by decide) i_x1 (by decide) (fun cd => ?_) (fun cd => ?_)
      · replace hrun := it_pos cd hrun
        exact s_vret hx hb hr hlocks hM hS hrun (Nat.le_of_ble_eq_true rfl) (Nat.le_of_ble_eq_true rfl) dX0_init_51
      · replace hrun := it_neg cd hrun
        refine s_aload_n hx hb dX0_init_37 rfl (la hl 0 rfl) ?_
        obtain ⟨v7, g7, hrun⟩ := bd hrun
        refine s_getfr hx hb hts kl_0 hown hE.1 hM (ci := 0) rfl (by decide) rfl (k := 0) (by decide) rfl (hts _ kw_70) g7 dX0_init_38 ?_
        refine lv_iload_n hx hb dX0_init_41 rfl (la hl 1 rfl) ?_
        refine lv_bipush (v := Int32.ofInt 6) hx hb dX0_init_42 (by decide) ?_
        obtain ⟨h8, g8, hrun⟩ := bd hrun
        refine s_iast hx hb hE.1 hM hS i_x1 (by decide) g8 dX0_init_44 (fun H locs hM hS => ?_)
        refine t_iinc (lv' := [(1, vi (wr (x1 + 64))), (0, vr x0)]) hx hb dX0_init_45 hl (k := 1) rfl (by decide) rfl rfl (fun ls hl => ?_)
        refine lv_goto (tgt := 30) hx hb dX0_init_48 (by decide) ?_
        exact ih30 h8 x0 (wr (x1 + 64)) H locs ls (inr_wr _) hM hS (lsub hl [1, 0] rfl) hrun
  refine s_entry hargs hM (c_r c_0) (Nat.le_of_ble_eq_true rfl) (fun H locs ls hM hS hl => ?_)
  replace hl : lvh ls 2 [(0, vr x0)] := hl
  unfold f_X0_init at hrun
  refine s_aload_n hx hb dX0_init_0 rfl (la hl 0 rfl) ?_
  obtain ⟨u1, g1, hrun⟩ := bd hrun
  refine s_objInit hx hb hml hown hts kw_66 kw_59 kw_60 g1 hl.1.1 dX0_init_1 (Nat.le_of_ble_eq_true rfl) (cN c_0 (Nat.le_of_ble_eq_true rfl)) ?_
  refine s_aload_n hx hb dX0_init_4 rfl (la hl 0 rfl) ?_
  refine lv_sipush (v := Int32.ofInt 256) hx hb dX0_init_5 (by decide) ?_
  obtain ⟨h2, g2, hrun⟩ := bd hrun
  refine s_newa hx hb (atype := .int) (kd := 8) (bound := 256) (hts _ kw_78) hE.1 (Or.inl ⟨rfl, rfl⟩) hM hS hE.2.1 (by decide) g2 (by decide) (Nat.le_of_ble_eq_true rfl) (Nat.le_of_ble_eq_true rfl) dX0_init_8 (fun H hM hS => ?_)
  obtain ⟨h3, g3, hrun⟩ := bd hrun
  refine s_putF (b := true) hx hb hts kl_0 tyX0 tyX0_ok nmX0 hown hE.1 hM hS (ci := 0) rfl (by decide) rfl (k := 0) (by decide) rfl (hts _ kw_70) rfl hin rfl (nar_a _) (fit_a _) (fun q => by cases q) g3 dX0_init_10 (fun H locs hM hS => ?_)
  refine s_aload_n hx hb dX0_init_13 rfl (la hl 0 rfl) ?_
  refine lv_sipush (v := Int32.ofInt 256) hx hb dX0_init_14 (by decide) ?_
  obtain ⟨h4, g4, hrun⟩ := bd hrun
  refine s_put (b := false) hx hb hts kl_0 tyX0 tyX0_ok nmX0 hown hE.1 hM hS (ci := 0) rfl (by decide) rfl (k := 1) (by decide) rfl (hts _ kw_71) rfl (vp_nar_int _) rfl (fun _ => (by decide)) g4 dX0_init_17 (fun H locs hM hS => ?_)
  refine s_aload_n hx hb dX0_init_20 rfl (la hl 0 rfl) ?_
  obtain ⟨v5, g5, hrun⟩ := bd hrun
  refine s_getfr hx hb hts kl_0 hown hE.1 hM (ci := 0) rfl (by decide) rfl (k := 0) (by decide) rfl (hts _ kw_70) g5 dX0_init_21 ?_
  refine lv_iconst (v := Int32.ofInt (-1)) hx hb dX0_init_24 rfl ?_
  obtain ⟨r6, g6, hrun⟩ := bd hrun
  refine s_callS (n := 2) (rest := []) [vr v5, vi (-1)] hx hb hml hown hts hE hM hS (c_J7_fill_53178 l D G base h4 r6.2 v5 (-1) r6.1 (by decide) g6) kw_69 kw_67 kw_39 kw_68 (by decide +kernel) ⟨Nat.le_of_ble_eq_true rfl, Nat.le_of_ble_eq_true rfl⟩ rfl hl.1.1 rfl (c8 c_0 (Nat.le_of_ble_eq_true rfl)) dX0_init_25 ⟨Nat.le_of_ble_eq_true rfl, Nat.le_of_ble_eq_true rfl⟩ (fun H locs i_r6 hM hS => ?_)
  refine W.eq (g2 := F0 m 28 ls []) rfl ?_
  refine lv_iconst (v := Int32.ofInt 0) hx hb dX0_init_28 rfl ?_
  refine t_istore_n (lv' := [(1, vi 0), (0, vr x0)]) hx hb dX0_init_29 rfl hl (by decide) rfl (fun ls hl => ?_)
  exact lp30 fuel r6.2 x0 0 H locs ls (by decide) hM hS (lsub hl [1, 0] rfl) hrun
def f_X0_freePage_j35 (k5 : Hp → Int → Int → Int → Int → Int → Option (Int × Hp)) (h : Hp) (x0 x1 x2 x3 x4 : Int) : Option (Int × Hp) :=
  k5 h x0 x1 x2 x3 (wr (x4 + 1))
def f_X0_freePage_s5 (k5 : Hp → Int → Int → Int → Int → Int → Option (Int × Hp)) (h : Hp) (x0 x1 x2 x3 x4 : Int) : Option (Int × Hp) :=
  if 256 ≤ x4 then (
    some ((-1), h)
  ) else (
    Option.bind (gtf h 0 0 x0) fun v1 =>
    Option.bind (ald h 8 v1 x4) fun v2 =>
    if v2 ≠ x1 then (
      f_X0_freePage_j35 k5 h x0 x1 x2 x3 x4
    ) else (
      if x3 ≠ x2 then (
        f_X0_freePage_j35 k5 h x0 x1 x2 (wr (x3 + 1)) x4
      ) else (
        some (x4, h)
      )
    )
  )
def f_X0_freePage_b5 : Nat → Hp → Int → Int → Int → Int → Int → Option (Int × Hp)
  | 0, _, _, _, _, _, _ => none
  | n + 1, h, x0, x1, x2, x3, x4 => f_X0_freePage_s5 (f_X0_freePage_b5 n) h x0 x1 x2 x3 x4
def f_X0_freePage (h : Hp) (x0 x1 x2 : Int) : Option (Int × Hp) :=
  f_X0_freePage_b5 fuel h x0 x1 x2 0 0
abbrev w_X0_freePage : List Cond := Cond.code yX0_freePage cX0_freePage 5 (some .int) :: BW
abbrev rm_X0_freePage : Room := { frames := 0, cells := 0, slots := 0, locals := 0 }
set_option maxHeartbeats 4000000 in
set_option maxRecDepth 100000 in
theorem c_X0_freePage (l : Launch) (D : va_G) (G : Nat → ClassId) (base : Nat) (h h' : Hp) (x0 x1 x2 : Int) (rv : Int) (i_x1 : inr x1) (i_x2 : inr x2) (hrun : f_X0_freePage h x0 x1 x2 = some (rv, h')) : Met l yX0_freePage w_X0_freePage rm_X0_freePage (PC l D G base h [vr x0, vi x1, vi x2]) (QR D G base (some (vi rv)) (inr rv) h') rm_X0_freePage.cells rm_X0_freePage.slots (Ab base) := by
  refine Met.ofW (cc := cX0_freePage) (maxL := 5) (ret := (some .int)) (by decide) rfl ?_
  intro p e s m args below meth c s₁ B hml hv
  obtain ⟨hargs, hE, hM⟩ := hv
  have hx := B.exec
  have hb := B.bytes
  have hr := B.returns
  have hts0 := atoms_spec (ws := w_X0_freePage) B.pre
  have hts : ∀ w ∈ BW, w.before args s = true := fun w hw => hts0 w (List.mem_cons_of_mem _ hw)
  have hown : s.vm.findClass RX0 = some m.cls := findClass_of_methodNamed B.named
  have hlocks := B.notSynchronized
  have lp5 : ∀ (n5 : Nat) (h : Hp) (x0 x1 x2 x3 x4 : Int) (H : Heap) (locs : List Loc) (ls : Array Slot), inr x1 → inr x2 → inr x3 → inr x4 → SM D G base h H → va_S (Ab base) s.heap H locs → lvh ls 5 [(0, vr x0), (1, vi x1), (2, vi x2), (3, vi x3), (4, vi x4)] → f_X0_freePage_b5 n5 h x0 x1 x2 x3 x4 = some (rv, h') → W p l e (headSpec w_X0_freePage rm_X0_freePage).room s m args below meth c H locs 0 0 (QI D G base rv h' below args s 0 0) (F0 m 5 ls []) := by
    intro n5
    induction n5 with
    | zero => intro h x0 x1 x2 x3 x4 H locs ls i_x1 i_x2 i_x3 i_x4 hM hS hl hrun; exact absurd hrun (fun q => nomatch (show (none : Option (Int × Hp)) = some (rv, h') from q))
    | succ n5 ih5 =>
      have j35 : ∀ (h : Hp) (x0 x1 x2 x3 x4 : Int) (H : Heap) (locs : List Loc) (ls : Array Slot), inr x1 → inr x2 → inr x3 → inr x4 → SM D G base h H → va_S (Ab base) s.heap H locs → lvh ls 5 [(0, vr x0), (1, vi x1), (2, vi x2), (3, vi x3), (4, vi x4)] → f_X0_freePage_j35 (f_X0_freePage_b5 n5) h x0 x1 x2 x3 x4 = some (rv, h') → W p l e (headSpec w_X0_freePage rm_X0_freePage).room s m args below meth c H locs 0 0 (QI D G base rv h' below args s 0 0) (F0 m 35 ls []) := by
        intro h x0 x1 x2 x3 x4 H locs ls i_x1 i_x2 i_x3 i_x4 hM hS hl hrun
        unfold f_X0_freePage_j35 at hrun
        refine t_iinc (lv' := [(4, vi (wr (x4 + 1))), (0, vr x0), (1, vi x1), (2, vi x2), (3, vi x3)]) hx hb dX0_freePage_35 hl (k := 4) rfl (by decide) rfl rfl (fun ls hl => ?_)
        refine lv_goto (tgt := 5) hx hb dX0_freePage_38 (by decide) ?_
        exact ih5 h x0 x1 x2 x3 (wr (x4 + 1)) H locs ls i_x1 i_x2 i_x3 (inr_wr _) hM hS (lsub hl [1, 2, 3, 4, 0] rfl) hrun
      intro h x0 x1 x2 x3 x4 H locs ls i_x1 i_x2 i_x3 i_x4 hM hS hl hrun
      replace hrun : f_X0_freePage_s5 (f_X0_freePage_b5 n5) h x0 x1 x2 x3 x4 = some (rv, h') := hrun
      unfold f_X0_freePage_s5 at hrun
      refine lv_iload hx hb dX0_freePage_5 (la hl 4 rfl) ?_
      refine lv_sipush (v := Int32.ofInt 256) hx hb dX0_freePage_7 (by decide) ?_
      refine s_icmp_ge (tgt := 41) hx hb dX0_freePage_10 (by decide) i_x4 (by decide) (fun cd => ?_) (fun cd => ?_)
      · replace hrun := it_pos cd hrun
        refine lv_iconst (v := Int32.ofInt (-1)) hx hb dX0_freePage_41 rfl ?_
        exact s_iret hx hb hr hlocks hM hS (by decide) hrun (Nat.le_of_ble_eq_true rfl) (Nat.le_of_ble_eq_true rfl) dX0_freePage_42
      · replace hrun := it_neg cd hrun
        refine s_aload_n hx hb dX0_freePage_13 rfl (la hl 0 rfl) ?_
        obtain ⟨v1, g1, hrun⟩ := bd hrun
        refine s_getfr hx hb hts kl_0 hown hE.1 hM (ci := 0) rfl (by decide) rfl (k := 0) (by decide) rfl (hts _ kw_70) g1 dX0_freePage_14 ?_
        refine lv_iload hx hb dX0_freePage_17 (la hl 4 rfl) ?_
        obtain ⟨v2, g2, hrun⟩ := bd hrun
        refine s_iald hx hb hE.1 hM i_x4 g2 dX0_freePage_19 ?_
        have i_v2 : inr v2 := ald_i hM g2 (by decide) (by decide)
        refine lv_iload_n hx hb dX0_freePage_20 rfl (la hl 1 rfl) ?_
        refine s_icmp_ne (tgt := 35) hx hb dX0_freePage_21 (by decide) i_v2 i_x1 (fun cd => ?_) (fun cd => ?_)
        · replace hrun := it_pos cd hrun
          exact j35 h x0 x1 x2 x3 x4 H locs ls i_x1 i_x2 i_x3 i_x4 hM hS (lsub hl [0, 1, 2, 3, 4] rfl) hrun
        · replace hrun := it_neg cd hrun
          refine lv_iload_n hx hb dX0_freePage_24 rfl (la hl 3 rfl) ?_
          refine lv_iload_n hx hb dX0_freePage_25 rfl (la hl 2 rfl) ?_
          refine s_icmp_ne (tgt := 32) hx hb dX0_freePage_26 (by decide) i_x3 i_x2 (fun cd => ?_) (fun cd => ?_)
          · replace hrun := it_pos cd hrun
            refine t_iinc (lv' := [(3, vi (wr (x3 + 1))), (0, vr x0), (1, vi x1), (2, vi x2), (4, vi x4)]) hx hb dX0_freePage_32 hl (k := 3) rfl (by decide) rfl rfl (fun ls hl => ?_)
            exact j35 h x0 x1 x2 (wr (x3 + 1)) x4 H locs ls i_x1 i_x2 (inr_wr _) i_x4 hM hS (lsub hl [1, 2, 3, 0, 4] rfl) hrun
          · replace hrun := it_neg cd hrun
            refine lv_iload hx hb dX0_freePage_29 (la hl 4 rfl) ?_
            exact s_iret hx hb hr hlocks hM hS i_x4 hrun (Nat.le_of_ble_eq_true rfl) (Nat.le_of_ble_eq_true rfl) dX0_freePage_31
  refine s_entry hargs hM (c_r (c_i (c_i c_0))) (Nat.le_of_ble_eq_true rfl) (fun H locs ls hM hS hl => ?_)
  replace hl : lvh ls 5 [(0, vr x0), (1, vi x1), (2, vi x2)] := hl
  unfold f_X0_freePage at hrun
  refine lv_iconst (v := Int32.ofInt 0) hx hb dX0_freePage_0 rfl ?_
  refine t_istore_n (lv' := [(3, vi 0), (0, vr x0), (1, vi x1), (2, vi x2)]) hx hb dX0_freePage_1 rfl hl (by decide) rfl (fun ls hl => ?_)
  refine lv_iconst (v := Int32.ofInt 0) hx hb dX0_freePage_2 rfl ?_
  refine t_istore (lv' := [(4, vi 0), (3, vi 0), (0, vr x0), (1, vi x1), (2, vi x2)]) hx hb dX0_freePage_3 hl (by decide) rfl (fun ls hl => ?_)
  exact lp5 fuel h x0 x1 x2 0 0 H locs ls i_x1 i_x2 (by decide) (by decide) hM hS (lsub hl [2, 3, 4, 1, 0] rfl) hrun
def f_X0_setFree_j18 (h : Hp) : Option (Int × Hp) :=
  some (0, h)
def f_X0_setFree (h : Hp) (x0 x1 x2 : Int) : Option (Int × Hp) :=
  if x1 < 0 then (
    f_X0_setFree_j18 h
  ) else (
    if 256 ≤ x1 then (
      f_X0_setFree_j18 h
    ) else (
      Option.bind (gtf h 0 0 x0) fun v1 =>
      Option.bind (ast h 8 v1 x1 x2) fun h2 =>
      f_X0_setFree_j18 h2
    )
  )
abbrev w_X0_setFree : List Cond := Cond.code yX0_setFree cX0_setFree 3 none :: BW
abbrev rm_X0_setFree : Room := { frames := 0, cells := 0, slots := 0, locals := 0 }
set_option maxHeartbeats 4000000 in
set_option maxRecDepth 100000 in
theorem c_X0_setFree (l : Launch) (D : va_G) (G : Nat → ClassId) (base : Nat) (h h' : Hp) (x0 x1 x2 : Int) (rv : Int) (i_x1 : inr x1) (i_x2 : inr x2) (hrun : f_X0_setFree h x0 x1 x2 = some (rv, h')) : Met l yX0_setFree w_X0_setFree rm_X0_setFree (PC l D G base h [vr x0, vi x1, vi x2]) (QR D G base none True h') rm_X0_setFree.cells rm_X0_setFree.slots (Ab base) := by
  refine Met.ofW (cc := cX0_setFree) (maxL := 3) (ret := none) (by decide) rfl ?_
  intro p e s m args below meth c s₁ B hml hv
  obtain ⟨hargs, hE, hM⟩ := hv
  have hx := B.exec
  have hb := B.bytes
  have hr := B.returns
  have hts0 := atoms_spec (ws := w_X0_setFree) B.pre
  have hts : ∀ w ∈ BW, w.before args s = true := fun w hw => hts0 w (List.mem_cons_of_mem _ hw)
  have hown : s.vm.findClass RX0 = some m.cls := findClass_of_methodNamed B.named
  have hlocks := B.notSynchronized
  have j18 : ∀ (h : Hp) (H : Heap) (locs : List Loc) (ls : Array Slot), SM D G base h H → va_S (Ab base) s.heap H locs → lvh ls 3 [] → f_X0_setFree_j18 h = some (rv, h') → W p l e (headSpec w_X0_setFree rm_X0_setFree).room s m args below meth c H locs 0 0 (QV D G base rv h' below args s 0 0) (F0 m 18 ls []) := by
    intro h H locs ls hM hS hl hrun
    unfold f_X0_setFree_j18 at hrun
    exact s_vret hx hb hr hlocks hM hS hrun (Nat.le_of_ble_eq_true rfl) (Nat.le_of_ble_eq_true rfl) dX0_setFree_18
  refine s_entry hargs hM (c_r (c_i (c_i c_0))) (Nat.le_of_ble_eq_true rfl) (fun H locs ls hM hS hl => ?_)
  replace hl : lvh ls 3 [(0, vr x0), (1, vi x1), (2, vi x2)] := hl
  unfold f_X0_setFree at hrun
  refine lv_iload_n hx hb dX0_setFree_0 rfl (la hl 1 rfl) ?_
  refine s_if_lt (tgt := 18) hx hb dX0_setFree_1 (by decide) i_x1 (fun cd => ?_) (fun cd => ?_)
  · replace hrun := it_pos cd hrun
    exact j18 h H locs ls hM hS (lsub hl [] rfl) hrun
  · replace hrun := it_neg cd hrun
    refine lv_iload_n hx hb dX0_setFree_4 rfl (la hl 1 rfl) ?_
    refine lv_sipush (v := Int32.ofInt 256) hx hb dX0_setFree_5 (by decide) ?_
    refine s_icmp_ge (tgt := 18) hx hb dX0_setFree_8 (by decide) i_x1 (by decide) (fun cd => ?_) (fun cd => ?_)
    · replace hrun := it_pos cd hrun
      exact j18 h H locs ls hM hS (lsub hl [] rfl) hrun
    · replace hrun := it_neg cd hrun
      refine s_aload_n hx hb dX0_setFree_11 rfl (la hl 0 rfl) ?_
      obtain ⟨v1, g1, hrun⟩ := bd hrun
      refine s_getfr hx hb hts kl_0 hown hE.1 hM (ci := 0) rfl (by decide) rfl (k := 0) (by decide) rfl (hts _ kw_70) g1 dX0_setFree_12 ?_
      refine lv_iload_n hx hb dX0_setFree_15 rfl (la hl 1 rfl) ?_
      refine lv_iload_n hx hb dX0_setFree_16 rfl (la hl 2 rfl) ?_
      obtain ⟨h2, g2, hrun⟩ := bd hrun
      refine s_iast hx hb hE.1 hM hS i_x1 i_x2 g2 dX0_setFree_17 (fun H locs hM hS => ?_)
      exact j18 h2 H locs ls hM hS (lsub hl [] rfl) hrun
def f_X0_halve_s12 (k12 : Hp → Int → Int → Int → Int → Option (Int × Hp)) (h : Hp) (x0 x1 x3 x4 : Int) : Option (Int × Hp) :=
  if x4 < x3 then (
    Option.bind (gtf h 0 1 x0) fun v3 =>
    Option.bind (ptf h 0 1 x0 (wr (v3 - (ish 1 x3)))) fun h4 =>
    some (0, h4)
  ) else (
    Option.bind (ckd h 0 x0) fun u6 =>
    Option.bind (f_X0_setFree h x0 (wr (x1 + (ish 1 x4))) x4) fun r5 =>
    k12 r5.2 x0 x1 x3 (wr (x4 + (-1)))
  )
def f_X0_halve_b12 : Nat → Hp → Int → Int → Int → Int → Option (Int × Hp)
  | 0, _, _, _, _, _ => none
  | n + 1, h, x0, x1, x3, x4 => f_X0_halve_s12 (f_X0_halve_b12 n) h x0 x1 x3 x4
def f_X0_halve (h : Hp) (x0 x1 x2 x3 : Int) : Option (Int × Hp) :=
  Option.bind (gtf h 0 0 x0) fun v1 =>
  Option.bind (ast h 8 v1 x1 (-1)) fun h2 =>
  f_X0_halve_b12 fuel h2 x0 x1 x3 (wr (x2 - 1))
abbrev w_X0_halve : List Cond := Cond.code yX0_halve cX0_halve 5 none :: BW
abbrev rm_X0_halve : Room := { frames := 1, cells := 0, slots := 0, locals := 22 }
set_option maxHeartbeats 4000000 in
set_option maxRecDepth 100000 in
theorem c_X0_halve (l : Launch) (D : va_G) (G : Nat → ClassId) (base : Nat) (h h' : Hp) (x0 x1 x2 x3 : Int) (rv : Int) (i_x1 : inr x1) (i_x2 : inr x2) (i_x3 : inr x3) (hrun : f_X0_halve h x0 x1 x2 x3 = some (rv, h')) : Met l yX0_halve w_X0_halve rm_X0_halve (PC l D G base h [vr x0, vi x1, vi x2, vi x3]) (QR D G base none True h') rm_X0_halve.cells rm_X0_halve.slots (Ab base) := by
  refine Met.ofW (cc := cX0_halve) (maxL := 5) (ret := none) (by decide) rfl ?_
  intro p e s m args below meth c s₁ B hml hv
  obtain ⟨hargs, hE, hM⟩ := hv
  have hx := B.exec
  have hb := B.bytes
  have hr := B.returns
  have hts0 := atoms_spec (ws := w_X0_halve) B.pre
  have hts : ∀ w ∈ BW, w.before args s = true := fun w hw => hts0 w (List.mem_cons_of_mem _ hw)
  have hown : s.vm.findClass RX0 = some m.cls := findClass_of_methodNamed B.named
  have hlocks := B.notSynchronized
  have lp12 : ∀ (n12 : Nat) (h : Hp) (x0 x1 x3 x4 : Int) (H : Heap) (locs : List Loc) (ls : Array Slot), inr x1 → inr x3 → inr x4 → SM D G base h H → va_S (Ab base) s.heap H locs → lvh ls 5 [(0, vr x0), (1, vi x1), (3, vi x3), (4, vi x4)] → f_X0_halve_b12 n12 h x0 x1 x3 x4 = some (rv, h') → W p l e (headSpec w_X0_halve rm_X0_halve).room s m args below meth c H locs 0 0 (QV D G base rv h' below args s 0 0) (F0 m 12 ls []) := by
    intro n12
    induction n12 with
    | zero => intro h x0 x1 x3 x4 H locs ls i_x1 i_x3 i_x4 hM hS hl hrun; exact absurd hrun (fun q => nomatch (show (none : Option (Int × Hp)) = some (rv, h') from q))
    | succ n12 ih12 =>
      intro h x0 x1 x3 x4 H locs ls i_x1 i_x3 i_x4 hM hS hl hrun
      replace hrun : f_X0_halve_s12 (f_X0_halve_b12 n12) h x0 x1 x3 x4 = some (rv, h') := hrun
      unfold f_X0_halve_s12 at hrun
      refine lv_iload hx hb dX0_halve_12 (la hl 3 rfl) ?_
      refine lv_iload_n hx hb dX0_halve_14 rfl (la hl 2 rfl) ?_
      refine s_icmp_lt (tgt := 36) hx hb dX0_halve_15 (by decide) i_x4 i_x3 (fun cd => ?_) (fun cd => ?_)
      · replace hrun := it_pos cd hrun
        refine s_aload_n hx hb dX0_halve_36 rfl (la hl 0 rfl) ?_
        refine lv_dup hx hb dX0_halve_37 (vr_cat _) ?_
        obtain ⟨v3, g3, hrun⟩ := bd hrun
        refine s_getfi hx hb hts kl_0 hown hE.1 hM (ci := 0) rfl (by decide) rfl (k := 1) (by decide) rfl (hts _ kw_71) g3 dX0_halve_38 ?_
        have i_v3 : inr v3 := gtf_i hM g3 (by decide) rfl
        refine lv_iconst (v := Int32.ofInt 1) hx hb dX0_halve_41 rfl ?_
        refine lv_iload_n hx hb dX0_halve_42 rfl (la hl 2 rfl) ?_
        refine s_ishl hx hb dX0_halve_43 ?_
        refine s_isub hx hb dX0_halve_44 ?_
        obtain ⟨h4, g4, hrun⟩ := bd hrun
        refine s_put (b := false) hx hb hts kl_0 tyX0 tyX0_ok nmX0 hown hE.1 hM hS (ci := 0) rfl (by decide) rfl (k := 1) (by decide) rfl (hts _ kw_71) rfl (vp_nar_int _) rfl (fun _ => (inr_wr _)) g4 dX0_halve_45 (fun H locs hM hS => ?_)
        exact s_vret hx hb hr hlocks hM hS hrun (Nat.le_of_ble_eq_true rfl) (Nat.le_of_ble_eq_true rfl) dX0_halve_48
      · replace hrun := it_neg cd hrun
        refine s_aload_n hx hb dX0_halve_18 rfl (la hl 0 rfl) ?_
        refine lv_iload_n hx hb dX0_halve_19 rfl (la hl 1 rfl) ?_
        refine lv_iconst (v := Int32.ofInt 1) hx hb dX0_halve_20 rfl ?_
        refine lv_iload hx hb dX0_halve_21 (la hl 3 rfl) ?_
        refine s_ishl hx hb dX0_halve_23 ?_
        refine s_iadd hx hb dX0_halve_24 ?_
        refine lv_iload hx hb dX0_halve_25 (la hl 3 rfl) ?_
        obtain ⟨u6, g6, hrun⟩ := bd hrun
        obtain ⟨r5, g5, hrun⟩ := bd hrun
        refine s_callV (n := 2) (rest := []) [vi (wr (x1 + (ish 1 x4))), vi x4] hx hb hml hown hts hE hM hS (c_X0_setFree l D G base h r5.2 x0 (wr (x1 + (ish 1 x4))) x4 r5.1 (inr_wr _) i_x4 g5) kw_130 kw_127 kw_38 kw_129 kw_3 (by decide +kernel) ⟨Nat.le_of_ble_eq_true rfl, Nat.le_of_ble_eq_true rfl⟩ rfl rfl (by decide) g6 rfl hl.1.1 rfl (c8 c_0 (Nat.le_of_ble_eq_true rfl)) dX0_halve_27 ⟨Nat.le_of_ble_eq_true rfl, Nat.le_of_ble_eq_true rfl⟩ (fun H locs i_r5 hM hS => ?_)
        refine W.eq (g2 := F0 m 30 ls []) rfl ?_
        refine t_iinc (lv' := [(4, vi (wr (x4 + (-1)))), (0, vr x0), (1, vi x1), (3, vi x3)]) hx hb dX0_halve_30 hl (k := 3) rfl (by decide) rfl rfl (fun ls hl => ?_)
        refine lv_goto (tgt := 12) hx hb dX0_halve_33 (by decide) ?_
        exact ih12 r5.2 x0 x1 x3 (wr (x4 + (-1))) H locs ls i_x1 i_x3 (inr_wr _) hM hS (lsub hl [1, 2, 3, 0] rfl) hrun
  refine s_entry hargs hM (c_r (c_i (c_i (c_i c_0)))) (Nat.le_of_ble_eq_true rfl) (fun H locs ls hM hS hl => ?_)
  replace hl : lvh ls 5 [(0, vr x0), (1, vi x1), (2, vi x2), (3, vi x3)] := hl
  unfold f_X0_halve at hrun
  refine s_aload_n hx hb dX0_halve_0 rfl (la hl 0 rfl) ?_
  obtain ⟨v1, g1, hrun⟩ := bd hrun
  refine s_getfr hx hb hts kl_0 hown hE.1 hM (ci := 0) rfl (by decide) rfl (k := 0) (by decide) rfl (hts _ kw_70) g1 dX0_halve_1 ?_
  refine lv_iload_n hx hb dX0_halve_4 rfl (la hl 1 rfl) ?_
  refine lv_iconst (v := Int32.ofInt (-1)) hx hb dX0_halve_5 rfl ?_
  obtain ⟨h2, g2, hrun⟩ := bd hrun
  refine s_iast hx hb hE.1 hM hS i_x1 (by decide) g2 dX0_halve_6 (fun H locs hM hS => ?_)
  refine lv_iload_n hx hb dX0_halve_7 rfl (la hl 2 rfl) ?_
  refine lv_iconst (v := Int32.ofInt 1) hx hb dX0_halve_8 rfl ?_
  refine s_isub hx hb dX0_halve_9 ?_
  refine t_istore (lv' := [(4, vi (wr (x2 - 1))), (0, vr x0), (1, vi x1), (2, vi x2), (3, vi x3)]) hx hb dX0_halve_10 hl (by decide) rfl (fun ls hl => ?_)
  exact lp12 fuel h2 x0 x1 x3 (wr (x2 - 1)) H locs ls i_x1 i_x3 (inr_wr _) hM hS (lsub hl [1, 2, 4, 0] rfl) hrun
def f_X0_take_s2 (k2 : Hp → Int → Int → Int → Option (Int × Hp)) (h : Hp) (x0 x1 x2 : Int) : Option (Int × Hp) :=
  if 6 < x2 then (
    some ((-1), h)
  ) else (
    Option.bind (ckd h 0 x0) fun u2 =>
    Option.bind (f_X0_freePage h x0 x2 0) fun r1 =>
    if r1.1 = (-1) then (
      k2 r1.2 x0 x1 (wr (x2 + 1))
    ) else (
      Option.bind (ckd r1.2 0 x0) fun u4 =>
      Option.bind (f_X0_halve r1.2 x0 r1.1 x2 x1) fun r3 =>
      some (r1.1, r3.2)
    )
  )
def f_X0_take_b2 : Nat → Hp → Int → Int → Int → Option (Int × Hp)
  | 0, _, _, _, _ => none
  | n + 1, h, x0, x1, x2 => f_X0_take_s2 (f_X0_take_b2 n) h x0 x1 x2
def f_X0_take (h : Hp) (x0 x1 : Int) : Option (Int × Hp) :=
  f_X0_take_b2 fuel h x0 x1 x1
abbrev w_X0_take : List Cond := Cond.code yX0_take cX0_take 4 (some .int) :: BW
abbrev rm_X0_take : Room := { frames := 2, cells := 0, slots := 0, locals := 46 }
set_option maxHeartbeats 4000000 in
set_option maxRecDepth 100000 in
theorem c_X0_take (l : Launch) (D : va_G) (G : Nat → ClassId) (base : Nat) (h h' : Hp) (x0 x1 : Int) (rv : Int) (i_x1 : inr x1) (hrun : f_X0_take h x0 x1 = some (rv, h')) : Met l yX0_take w_X0_take rm_X0_take (PC l D G base h [vr x0, vi x1]) (QR D G base (some (vi rv)) (inr rv) h') rm_X0_take.cells rm_X0_take.slots (Ab base) := by
  refine Met.ofW (cc := cX0_take) (maxL := 4) (ret := (some .int)) (by decide) rfl ?_
  intro p e s m args below meth c s₁ B hml hv
  obtain ⟨hargs, hE, hM⟩ := hv
  have hx := B.exec
  have hb := B.bytes
  have hr := B.returns
  have hts0 := atoms_spec (ws := w_X0_take) B.pre
  have hts : ∀ w ∈ BW, w.before args s = true := fun w hw => hts0 w (List.mem_cons_of_mem _ hw)
  have hown : s.vm.findClass RX0 = some m.cls := findClass_of_methodNamed B.named
  have hlocks := B.notSynchronized
  have lp2 : ∀ (n2 : Nat) (h : Hp) (x0 x1 x2 : Int) (H : Heap) (locs : List Loc) (ls : Array Slot), inr x1 → inr x2 → SM D G base h H → va_S (Ab base) s.heap H locs → lvh ls 4 [(0, vr x0), (1, vi x1), (2, vi x2)] → f_X0_take_b2 n2 h x0 x1 x2 = some (rv, h') → W p l e (headSpec w_X0_take rm_X0_take).room s m args below meth c H locs 0 0 (QI D G base rv h' below args s 0 0) (F0 m 2 ls []) := by
    intro n2
    induction n2 with
    | zero => intro h x0 x1 x2 H locs ls i_x1 i_x2 hM hS hl hrun; exact absurd hrun (fun q => nomatch (show (none : Option (Int × Hp)) = some (rv, h') from q))
    | succ n2 ih2 =>
      intro h x0 x1 x2 H locs ls i_x1 i_x2 hM hS hl hrun
      replace hrun : f_X0_take_s2 (f_X0_take_b2 n2) h x0 x1 x2 = some (rv, h') := hrun
      unfold f_X0_take_s2 at hrun
      refine lv_iload_n hx hb dX0_take_2 rfl (la hl 2 rfl) ?_
      refine lv_bipush (v := Int32.ofInt 6) hx hb dX0_take_3 (by decide) ?_
      refine s_icmp_gt (tgt := 35) hx hb dX0_take_5 (by decide) i_x2 (by decide) (fun cd => ?_) (fun cd => ?_)
      · replace hrun := it_pos cd hrun
        refine lv_iconst (v := Int32.ofInt (-1)) hx hb dX0_take_35 rfl ?_
        exact s_iret hx hb hr hlocks hM hS (by decide) hrun (Nat.le_of_ble_eq_true rfl) (Nat.le_of_ble_eq_true rfl) dX0_take_36
      · replace hrun := it_neg cd hrun
        refine s_aload_n hx hb dX0_take_8 rfl (la hl 0 rfl) ?_
        refine lv_iload_n hx hb dX0_take_9 rfl (la hl 2 rfl) ?_
        refine lv_iconst (v := Int32.ofInt 0) hx hb dX0_take_10 rfl ?_
        obtain ⟨u2, g2, hrun⟩ := bd hrun
        obtain ⟨r1, g1, hrun⟩ := bd hrun
        refine s_callV (n := 2) (rest := []) [vi x2, vi 0] hx hb hml hown hts hE hM hS (c_X0_freePage l D G base h r1.2 x0 x2 0 r1.1 i_x2 (by decide) g1) kw_440 kw_437 kw_38 kw_438 kw_439 (by decide +kernel) ⟨Nat.le_of_ble_eq_true rfl, Nat.le_of_ble_eq_true rfl⟩ rfl rfl (by decide) g2 rfl hl.1.1 rfl (c8 c_0 (Nat.le_of_ble_eq_true rfl)) dX0_take_11 ⟨Nat.le_of_ble_eq_true rfl, Nat.le_of_ble_eq_true rfl⟩ (fun H locs i_r1 hM hS => ?_)
        refine W.eq (g2 := F0 m 14 ls [vi r1.1]) rfl ?_
        refine t_istore_n (lv' := [(3, vi r1.1), (0, vr x0), (1, vi x1), (2, vi x2)]) hx hb dX0_take_14 rfl hl (by decide) rfl (fun ls hl => ?_)
        refine lv_iload_n hx hb dX0_take_15 rfl (la hl 0 rfl) ?_
        refine lv_iconst (v := Int32.ofInt (-1)) hx hb dX0_take_16 rfl ?_
        refine s_icmp_eq (tgt := 29) hx hb dX0_take_17 (by decide) i_r1 (by decide) (fun cd => ?_) (fun cd => ?_)
        · replace hrun := it_pos cd hrun
          refine t_iinc (lv' := [(2, vi (wr (x2 + 1))), (3, vi r1.1), (0, vr x0), (1, vi x1)]) hx hb dX0_take_29 hl (k := 3) rfl (by decide) rfl rfl (fun ls hl => ?_)
          refine lv_goto (tgt := 2) hx hb dX0_take_32 (by decide) ?_
          exact ih2 r1.2 x0 x1 (wr (x2 + 1)) H locs ls i_x1 (inr_wr _) hM hS (lsub hl [2, 3, 0] rfl) hrun
        · replace hrun := it_neg cd hrun
          refine s_aload_n hx hb dX0_take_20 rfl (la hl 1 rfl) ?_
          refine lv_iload_n hx hb dX0_take_21 rfl (la hl 0 rfl) ?_
          refine lv_iload_n hx hb dX0_take_22 rfl (la hl 3 rfl) ?_
          refine lv_iload_n hx hb dX0_take_23 rfl (la hl 2 rfl) ?_
          obtain ⟨u4, g4, hrun⟩ := bd hrun
          obtain ⟨r3, g3, hrun⟩ := bd hrun
          refine s_callV (n := 3) (rest := []) [vi r1.1, vi x2, vi x1] hx hb hml hown hts hE hM hS (c_X0_halve l D G base r1.2 r3.2 x0 r1.1 x2 x1 r3.1 i_r1 i_x2 i_x1 g3) kw_444 kw_441 kw_38 kw_443 kw_11 (by decide +kernel) ⟨Nat.le_of_ble_eq_true rfl, Nat.le_of_ble_eq_true rfl⟩ rfl rfl (by decide) g4 rfl hl.1.1 rfl (c8 c_0 (Nat.le_of_ble_eq_true rfl)) dX0_take_24 ⟨Nat.le_of_ble_eq_true rfl, Nat.le_of_ble_eq_true rfl⟩ (fun H locs i_r3 hM hS => ?_)
          refine W.eq (g2 := F0 m 27 ls []) rfl ?_
          refine lv_iload_n hx hb dX0_take_27 rfl (la hl 0 rfl) ?_
          exact s_iret hx hb hr hlocks hM hS i_r1 hrun (Nat.le_of_ble_eq_true rfl) (Nat.le_of_ble_eq_true rfl) dX0_take_28
  refine s_entry hargs hM (c_r (c_i c_0)) (Nat.le_of_ble_eq_true rfl) (fun H locs ls hM hS hl => ?_)
  replace hl : lvh ls 4 [(0, vr x0), (1, vi x1)] := hl
  unfold f_X0_take at hrun
  refine lv_iload_n hx hb dX0_take_0 rfl (la hl 1 rfl) ?_
  refine t_istore_n (lv' := [(2, vi x1), (0, vr x0), (1, vi x1)]) hx hb dX0_take_1 rfl hl (by decide) rfl (fun ls hl => ?_)
  exact lp2 fuel h x0 x1 x1 H locs ls i_x1 i_x1 hM hS (lsub hl [1, 2, 0] rfl) hrun
def f_X0_isFree_j26 (h : Hp) (s0 : Int) : Option (Int × Hp) :=
  rtB s0 h
def f_X0_isFree_j25 (h : Hp) : Option (Int × Hp) :=
  f_X0_isFree_j26 h 0
def f_X0_isFree (h : Hp) (x0 x1 x2 : Int) : Option (Int × Hp) :=
  if x1 < 0 then (
    f_X0_isFree_j25 h
  ) else (
    if 256 ≤ x1 then (
      f_X0_isFree_j25 h
    ) else (
      Option.bind (gtf h 0 0 x0) fun v1 =>
      Option.bind (ald h 8 v1 x1) fun v2 =>
      if v2 ≠ x2 then (
        f_X0_isFree_j25 h
      ) else (
        f_X0_isFree_j26 h 1
      )
    )
  )
abbrev w_X0_isFree : List Cond := Cond.code yX0_isFree cX0_isFree 3 (some .boolean) :: BW
abbrev rm_X0_isFree : Room := { frames := 0, cells := 0, slots := 0, locals := 0 }
set_option maxHeartbeats 4000000 in
set_option maxRecDepth 100000 in
theorem c_X0_isFree (l : Launch) (D : va_G) (G : Nat → ClassId) (base : Nat) (h h' : Hp) (x0 x1 x2 : Int) (rv : Int) (i_x1 : inr x1) (i_x2 : inr x2) (hrun : f_X0_isFree h x0 x1 x2 = some (rv, h')) : Met l yX0_isFree w_X0_isFree rm_X0_isFree (PC l D G base h [vr x0, vi x1, vi x2]) (QR D G base (some (vi rv)) (inr rv) h') rm_X0_isFree.cells rm_X0_isFree.slots (Ab base) := by
  refine Met.ofW (cc := cX0_isFree) (maxL := 3) (ret := (some .boolean)) (by decide) rfl ?_
  intro p e s m args below meth c s₁ B hml hv
  obtain ⟨hargs, hE, hM⟩ := hv
  have hx := B.exec
  have hb := B.bytes
  have hr := B.returns
  have hts0 := atoms_spec (ws := w_X0_isFree) B.pre
  have hts : ∀ w ∈ BW, w.before args s = true := fun w hw => hts0 w (List.mem_cons_of_mem _ hw)
  have hown : s.vm.findClass RX0 = some m.cls := findClass_of_methodNamed B.named
  have hlocks := B.notSynchronized
  have j26 : ∀ (h : Hp) (s0 : Int) (H : Heap) (locs : List Loc) (ls : Array Slot), inr s0 → SM D G base h H → va_S (Ab base) s.heap H locs → lvh ls 3 [] → f_X0_isFree_j26 h s0 = some (rv, h') → W p l e (headSpec w_X0_isFree rm_X0_isFree).room s m args below meth c H locs 0 0 (QI D G base rv h' below args s 0 0) (F0 m 26 ls [vi s0]) := by
    intro h s0 H locs ls i_s0 hM hS hl hrun
    unfold f_X0_isFree_j26 at hrun
    exact s_zret hx hb hr hlocks hM hS i_s0 hrun (Nat.le_of_ble_eq_true rfl) (Nat.le_of_ble_eq_true rfl) dX0_isFree_26
  have j25 : ∀ (h : Hp) (H : Heap) (locs : List Loc) (ls : Array Slot), SM D G base h H → va_S (Ab base) s.heap H locs → lvh ls 3 [] → f_X0_isFree_j25 h = some (rv, h') → W p l e (headSpec w_X0_isFree rm_X0_isFree).room s m args below meth c H locs 0 0 (QI D G base rv h' below args s 0 0) (F0 m 25 ls []) := by
    intro h H locs ls hM hS hl hrun
    unfold f_X0_isFree_j25 at hrun
    refine lv_iconst (v := Int32.ofInt 0) hx hb dX0_isFree_25 rfl ?_
    exact j26 h 0 H locs ls (by decide) hM hS (lsub hl [] rfl) hrun
  refine s_entry hargs hM (c_r (c_i (c_i c_0))) (Nat.le_of_ble_eq_true rfl) (fun H locs ls hM hS hl => ?_)
  replace hl : lvh ls 3 [(0, vr x0), (1, vi x1), (2, vi x2)] := hl
  unfold f_X0_isFree at hrun
  refine lv_iload_n hx hb dX0_isFree_0 rfl (la hl 1 rfl) ?_
  refine s_if_lt (tgt := 25) hx hb dX0_isFree_1 (by decide) i_x1 (fun cd => ?_) (fun cd => ?_)
  · replace hrun := it_pos cd hrun
    exact j25 h H locs ls hM hS (lsub hl [] rfl) hrun
  · replace hrun := it_neg cd hrun
    refine lv_iload_n hx hb dX0_isFree_4 rfl (la hl 1 rfl) ?_
    refine lv_sipush (v := Int32.ofInt 256) hx hb dX0_isFree_5 (by decide) ?_
    refine s_icmp_ge (tgt := 25) hx hb dX0_isFree_8 (by decide) i_x1 (by decide) (fun cd => ?_) (fun cd => ?_)
    · replace hrun := it_pos cd hrun
      exact j25 h H locs ls hM hS (lsub hl [] rfl) hrun
    · replace hrun := it_neg cd hrun
      refine s_aload_n hx hb dX0_isFree_11 rfl (la hl 0 rfl) ?_
      obtain ⟨v1, g1, hrun⟩ := bd hrun
      refine s_getfr hx hb hts kl_0 hown hE.1 hM (ci := 0) rfl (by decide) rfl (k := 0) (by decide) rfl (hts _ kw_70) g1 dX0_isFree_12 ?_
      refine lv_iload_n hx hb dX0_isFree_15 rfl (la hl 1 rfl) ?_
      obtain ⟨v2, g2, hrun⟩ := bd hrun
      refine s_iald hx hb hE.1 hM i_x1 g2 dX0_isFree_16 ?_
      have i_v2 : inr v2 := ald_i hM g2 (by decide) (by decide)
      refine lv_iload_n hx hb dX0_isFree_17 rfl (la hl 2 rfl) ?_
      refine s_icmp_ne (tgt := 25) hx hb dX0_isFree_18 (by decide) i_v2 i_x2 (fun cd => ?_) (fun cd => ?_)
      · replace hrun := it_pos cd hrun
        exact j25 h H locs ls hM hS (lsub hl [] rfl) hrun
      · replace hrun := it_neg cd hrun
        refine lv_iconst (v := Int32.ofInt 1) hx hb dX0_isFree_21 rfl ?_
        refine lv_goto (tgt := 26) hx hb dX0_isFree_22 (by decide) ?_
        exact j26 h 1 H locs ls (by decide) hM hS (lsub hl [] rfl) hrun
def f_X0_giveBack_j53 (h : Hp) (x0 x2 x3 x4 : Int) : Option (Int × Hp) :=
  Option.bind (ckd h 0 x0) fun u6 =>
  Option.bind (f_X0_setFree h x0 x3 x4) fun r5 =>
  Option.bind (gtf r5.2 0 1 x0) fun v7 =>
  Option.bind (ptf r5.2 0 1 x0 (wr (v7 + (ish 1 x2)))) fun h8 =>
  some (0, h8)
def f_X0_giveBack_s5 (k5 : Hp → Int → Int → Int → Int → Option (Int × Hp)) (h : Hp) (x0 x2 x3 x4 : Int) : Option (Int × Hp) :=
  if 6 ≤ x4 then (
    f_X0_giveBack_j53 h x0 x2 x3 x4
  ) else (
    Option.bind (ckd h 0 x0) fun u2 =>
    Option.bind (f_X0_isFree h x0 (ixr x3 (ish 1 x4)) x4) fun r1 =>
    if r1.1 = 0 then (
      f_X0_giveBack_j53 r1.2 x0 x2 x3 x4
    ) else (
      Option.bind (ckd r1.2 0 x0) fun u4 =>
      Option.bind (f_X0_setFree r1.2 x0 (ixr x3 (ish 1 x4)) (-1)) fun r3 =>
      k5 r3.2 x0 x2 (ian x3 (ixr (ish 1 x4) (-1))) (wr (x4 + 1))
    )
  )
def f_X0_giveBack_b5 : Nat → Hp → Int → Int → Int → Int → Option (Int × Hp)
  | 0, _, _, _, _, _ => none
  | n + 1, h, x0, x2, x3, x4 => f_X0_giveBack_s5 (f_X0_giveBack_b5 n) h x0 x2 x3 x4
def f_X0_giveBack (h : Hp) (x0 x1 x2 : Int) : Option (Int × Hp) :=
  f_X0_giveBack_b5 fuel h x0 x2 x1 x2
abbrev w_X0_giveBack : List Cond := Cond.code yX0_giveBack cX0_giveBack 5 none :: BW
abbrev rm_X0_giveBack : Room := { frames := 1, cells := 0, slots := 0, locals := 22 }
set_option maxHeartbeats 4000000 in
set_option maxRecDepth 100000 in
theorem c_X0_giveBack (l : Launch) (D : va_G) (G : Nat → ClassId) (base : Nat) (h h' : Hp) (x0 x1 x2 : Int) (rv : Int) (i_x1 : inr x1) (i_x2 : inr x2) (hrun : f_X0_giveBack h x0 x1 x2 = some (rv, h')) : Met l yX0_giveBack w_X0_giveBack rm_X0_giveBack (PC l D G base h [vr x0, vi x1, vi x2]) (QR D G base none True h') rm_X0_giveBack.cells rm_X0_giveBack.slots (Ab base) := by
  refine Met.ofW (cc := cX0_giveBack) (maxL := 5) (ret := none) (by decide) rfl ?_
  intro p e s m args below meth c s₁ B hml hv
  obtain ⟨hargs, hE, hM⟩ := hv
  have hx := B.exec
  have hb := B.bytes
  have hr := B.returns
  have hts0 := atoms_spec (ws := w_X0_giveBack) B.pre
  have hts : ∀ w ∈ BW, w.before args s = true := fun w hw => hts0 w (List.mem_cons_of_mem _ hw)
  have hown : s.vm.findClass RX0 = some m.cls := findClass_of_methodNamed B.named
  have hlocks := B.notSynchronized
  have j53 : ∀ (h : Hp) (x0 x2 x3 x4 : Int) (H : Heap) (locs : List Loc) (ls : Array Slot), inr x2 → inr x3 → inr x4 → SM D G base h H → va_S (Ab base) s.heap H locs → lvh ls 5 [(0, vr x0), (2, vi x2), (3, vi x3), (4, vi x4)] → f_X0_giveBack_j53 h x0 x2 x3 x4 = some (rv, h') → W p l e (headSpec w_X0_giveBack rm_X0_giveBack).room s m args below meth c H locs 0 0 (QV D G base rv h' below args s 0 0) (F0 m 53 ls []) := by
    intro h x0 x2 x3 x4 H locs ls i_x2 i_x3 i_x4 hM hS hl hrun
    unfold f_X0_giveBack_j53 at hrun
    refine s_aload_n hx hb dX0_giveBack_53 rfl (la hl 0 rfl) ?_
    refine lv_iload_n hx hb dX0_giveBack_54 rfl (la hl 2 rfl) ?_
    refine lv_iload hx hb dX0_giveBack_55 (la hl 3 rfl) ?_
    obtain ⟨u6, g6, hrun⟩ := bd hrun
    obtain ⟨r5, g5, hrun⟩ := bd hrun
    refine s_callV (n := 2) (rest := []) [vi x3, vi x4] hx hb hml hown hts hE hM hS (c_X0_setFree l D G base h r5.2 x0 x3 x4 r5.1 i_x3 i_x4 g5) kw_130 kw_127 kw_38 kw_129 kw_3 (by decide +kernel) ⟨Nat.le_of_ble_eq_true rfl, Nat.le_of_ble_eq_true rfl⟩ rfl rfl (by decide) g6 rfl hl.1.1 rfl (c8 c_0 (Nat.le_of_ble_eq_true rfl)) dX0_giveBack_57 ⟨Nat.le_of_ble_eq_true rfl, Nat.le_of_ble_eq_true rfl⟩ (fun H locs i_r5 hM hS => ?_)
    refine W.eq (g2 := F0 m 60 ls []) rfl ?_
    refine s_aload_n hx hb dX0_giveBack_60 rfl (la hl 0 rfl) ?_
    refine lv_dup hx hb dX0_giveBack_61 (vr_cat _) ?_
    obtain ⟨v7, g7, hrun⟩ := bd hrun
    refine s_getfi hx hb hts kl_0 hown hE.1 hM (ci := 0) rfl (by decide) rfl (k := 1) (by decide) rfl (hts _ kw_71) g7 dX0_giveBack_62 ?_
    have i_v7 : inr v7 := gtf_i hM g7 (by decide) rfl
    refine lv_iconst (v := Int32.ofInt 1) hx hb dX0_giveBack_65 rfl ?_
    refine lv_iload_n hx hb dX0_giveBack_66 rfl (la hl 1 rfl) ?_
    refine s_ishl hx hb dX0_giveBack_67 ?_
    refine s_iadd hx hb dX0_giveBack_68 ?_
    obtain ⟨h8, g8, hrun⟩ := bd hrun
    refine s_put (b := false) hx hb hts kl_0 tyX0 tyX0_ok nmX0 hown hE.1 hM hS (ci := 0) rfl (by decide) rfl (k := 1) (by decide) rfl (hts _ kw_71) rfl (vp_nar_int _) rfl (fun _ => (inr_wr _)) g8 dX0_giveBack_69 (fun H locs hM hS => ?_)
    exact s_vret hx hb hr hlocks hM hS hrun (Nat.le_of_ble_eq_true rfl) (Nat.le_of_ble_eq_true rfl) dX0_giveBack_72
  have lp5 : ∀ (n5 : Nat) (h : Hp) (x0 x2 x3 x4 : Int) (H : Heap) (locs : List Loc) (ls : Array Slot), inr x2 → inr x3 → inr x4 → SM D G base h H → va_S (Ab base) s.heap H locs → lvh ls 5 [(0, vr x0), (2, vi x2), (3, vi x3), (4, vi x4)] → f_X0_giveBack_b5 n5 h x0 x2 x3 x4 = some (rv, h') → W p l e (headSpec w_X0_giveBack rm_X0_giveBack).room s m args below meth c H locs 0 0 (QV D G base rv h' below args s 0 0) (F0 m 5 ls []) := by
    intro n5
    induction n5 with
    | zero => intro h x0 x2 x3 x4 H locs ls i_x2 i_x3 i_x4 hM hS hl hrun; exact absurd hrun (fun q => nomatch (show (none : Option (Int × Hp)) = some (rv, h') from q))
    | succ n5 ih5 =>
      intro h x0 x2 x3 x4 H locs ls i_x2 i_x3 i_x4 hM hS hl hrun
      replace hrun : f_X0_giveBack_s5 (f_X0_giveBack_b5 n5) h x0 x2 x3 x4 = some (rv, h') := hrun
      unfold f_X0_giveBack_s5 at hrun
      refine lv_iload hx hb dX0_giveBack_5 (la hl 3 rfl) ?_
      refine lv_bipush (v := Int32.ofInt 6) hx hb dX0_giveBack_7 (by decide) ?_
      refine s_icmp_ge (tgt := 53) hx hb dX0_giveBack_9 (by decide) i_x4 (by decide) (fun cd => ?_) (fun cd => ?_)
      · replace hrun := it_pos cd hrun
        exact j53 h x0 x2 x3 x4 H locs ls i_x2 i_x3 i_x4 hM hS (lsub hl [0, 1, 2, 3] rfl) hrun
      · replace hrun := it_neg cd hrun
        refine s_aload_n hx hb dX0_giveBack_12 rfl (la hl 0 rfl) ?_
        refine lv_iload_n hx hb dX0_giveBack_13 rfl (la hl 2 rfl) ?_
        refine lv_iconst (v := Int32.ofInt 1) hx hb dX0_giveBack_14 rfl ?_
        refine lv_iload hx hb dX0_giveBack_15 (la hl 3 rfl) ?_
        refine s_ishl hx hb dX0_giveBack_17 ?_
        refine s_ixor hx hb dX0_giveBack_18 ?_
        refine lv_iload hx hb dX0_giveBack_19 (la hl 3 rfl) ?_
        obtain ⟨u2, g2, hrun⟩ := bd hrun
        obtain ⟨r1, g1, hrun⟩ := bd hrun
        refine s_callV (n := 2) (rest := []) [vi (ixr x3 (ish 1 x4)), vi x4] hx hb hml hown hts hE hM hS (c_X0_isFree l D G base h r1.2 x0 (ixr x3 (ish 1 x4)) x4 r1.1 (inr_xr _ _) i_x4 g1) kw_126 kw_123 kw_38 kw_125 kw_2 (by decide +kernel) ⟨Nat.le_of_ble_eq_true rfl, Nat.le_of_ble_eq_true rfl⟩ rfl rfl (by decide) g2 rfl hl.1.1 rfl (c8 c_0 (Nat.le_of_ble_eq_true rfl)) dX0_giveBack_21 ⟨Nat.le_of_ble_eq_true rfl, Nat.le_of_ble_eq_true rfl⟩ (fun H locs i_r1 hM hS => ?_)
        refine W.eq (g2 := F0 m 24 ls [vi r1.1]) rfl ?_
        refine s_if_eq (tgt := 53) hx hb dX0_giveBack_24 (by decide) i_r1 (fun cd => ?_) (fun cd => ?_)
        · replace hrun := it_pos cd hrun
          exact j53 r1.2 x0 x2 x3 x4 H locs ls i_x2 i_x3 i_x4 hM hS (lsub hl [0, 1, 2, 3] rfl) hrun
        · replace hrun := it_neg cd hrun
          refine s_aload_n hx hb dX0_giveBack_27 rfl (la hl 0 rfl) ?_
          refine lv_iload_n hx hb dX0_giveBack_28 rfl (la hl 2 rfl) ?_
          refine lv_iconst (v := Int32.ofInt 1) hx hb dX0_giveBack_29 rfl ?_
          refine lv_iload hx hb dX0_giveBack_30 (la hl 3 rfl) ?_
          refine s_ishl hx hb dX0_giveBack_32 ?_
          refine s_ixor hx hb dX0_giveBack_33 ?_
          refine lv_iconst (v := Int32.ofInt (-1)) hx hb dX0_giveBack_34 rfl ?_
          obtain ⟨u4, g4, hrun⟩ := bd hrun
          obtain ⟨r3, g3, hrun⟩ := bd hrun
          refine s_callV (n := 2) (rest := []) [vi (ixr x3 (ish 1 x4)), vi (-1)] hx hb hml hown hts hE hM hS (c_X0_setFree l D G base r1.2 r3.2 x0 (ixr x3 (ish 1 x4)) (-1) r3.1 (inr_xr _ _) (by decide) g3) kw_130 kw_127 kw_38 kw_129 kw_3 (by decide +kernel) ⟨Nat.le_of_ble_eq_true rfl, Nat.le_of_ble_eq_true rfl⟩ rfl rfl (by decide) g4 rfl hl.1.1 rfl (c8 c_0 (Nat.le_of_ble_eq_true rfl)) dX0_giveBack_35 ⟨Nat.le_of_ble_eq_true rfl, Nat.le_of_ble_eq_true rfl⟩ (fun H locs i_r3 hM hS => ?_)
          refine W.eq (g2 := F0 m 38 ls []) rfl ?_
          refine lv_iload_n hx hb dX0_giveBack_38 rfl (la hl 2 rfl) ?_
          refine lv_iconst (v := Int32.ofInt 1) hx hb dX0_giveBack_39 rfl ?_
          refine lv_iload hx hb dX0_giveBack_40 (la hl 3 rfl) ?_
          refine s_ishl hx hb dX0_giveBack_42 ?_
          refine lv_iconst (v := Int32.ofInt (-1)) hx hb dX0_giveBack_43 rfl ?_
          refine s_ixor hx hb dX0_giveBack_44 ?_
          refine s_iand hx hb dX0_giveBack_45 ?_
          refine t_istore_n (lv' := [(3, vi (ian x3 (ixr (ish 1 x4) (-1)))), (0, vr x0), (2, vi x2), (4, vi x4)]) hx hb dX0_giveBack_46 rfl hl (by decide) rfl (fun ls hl => ?_)
          refine t_iinc (lv' := [(4, vi (wr (x4 + 1))), (3, vi (ian x3 (ixr (ish 1 x4) (-1)))), (0, vr x0), (2, vi x2)]) hx hb dX0_giveBack_47 hl (k := 3) rfl (by decide) rfl rfl (fun ls hl => ?_)
          refine lv_goto (tgt := 5) hx hb dX0_giveBack_50 (by decide) ?_
          exact ih5 r3.2 x0 x2 (ian x3 (ixr (ish 1 x4) (-1))) (wr (x4 + 1)) H locs ls i_x2 (inr_an _ _) (inr_wr _) hM hS (lsub hl [2, 3, 1, 0] rfl) hrun
  refine s_entry hargs hM (c_r (c_i (c_i c_0))) (Nat.le_of_ble_eq_true rfl) (fun H locs ls hM hS hl => ?_)
  replace hl : lvh ls 5 [(0, vr x0), (1, vi x1), (2, vi x2)] := hl
  unfold f_X0_giveBack at hrun
  refine lv_iload_n hx hb dX0_giveBack_0 rfl (la hl 1 rfl) ?_
  refine t_istore_n (lv' := [(3, vi x1), (0, vr x0), (1, vi x1), (2, vi x2)]) hx hb dX0_giveBack_1 rfl hl (by decide) rfl (fun ls hl => ?_)
  refine lv_iload_n hx hb dX0_giveBack_2 rfl (la hl 3 rfl) ?_
  refine t_istore (lv' := [(4, vi x2), (3, vi x1), (0, vr x0), (1, vi x1), (2, vi x2)]) hx hb dX0_giveBack_3 hl (by decide) rfl (fun ls hl => ?_)
  exact lp5 fuel h x0 x2 x1 x2 H locs ls i_x2 i_x1 i_x2 hM hS (lsub hl [2, 4, 1, 0] rfl) hrun
def f_X2_init (h : Hp) (x0 : Int) : Option (Int × Hp) :=
  Option.bind (ckd h 2 x0) fun u1 =>
  Option.bind (nwa h 8 4 4) fun h2 =>
  Option.bind (ptf h2 2 0 x0 (hN h : Int)) fun h3 =>
  some (0, h3)
abbrev w_X2_init : List Cond := Cond.code yX2_init cX2_init 1 none :: BW
abbrev rm_X2_init : Room := { frames := 1, cells := 1, slots := 4, locals := 12 }
set_option maxHeartbeats 4000000 in
set_option maxRecDepth 100000 in
theorem c_X2_init (l : Launch) (D : va_G) (G : Nat → ClassId) (base : Nat) (h h' : Hp) (x0 : Int) (rv : Int) (hrun : f_X2_init h x0 = some (rv, h')) : Met l yX2_init w_X2_init rm_X2_init (PC l D G base h [vr x0]) (QR D G base none True h') rm_X2_init.cells rm_X2_init.slots (Ab base) := by
  refine Met.ofW (cc := cX2_init) (maxL := 1) (ret := none) (by decide) rfl ?_
  intro p e s m args below meth c s₁ B hml hv
  obtain ⟨hargs, hE, hM⟩ := hv
  have hx := B.exec
  have hb := B.bytes
  have hr := B.returns
  have hts0 := atoms_spec (ws := w_X2_init) B.pre
  have hts : ∀ w ∈ BW, w.before args s = true := fun w hw => hts0 w (List.mem_cons_of_mem _ hw)
  have hown : s.vm.findClass RX2 = some m.cls := findClass_of_methodNamed B.named
  have hlocks := B.notSynchronized
  have hin : meth.name = "<init>" := (name_of_methodNamed B.named B.method).1
  refine s_entry hargs hM (c_r c_0) (Nat.le_of_ble_eq_true rfl) (fun H locs ls hM hS hl => ?_)
  replace hl : lvh ls 1 [(0, vr x0)] := hl
  unfold f_X2_init at hrun
  refine s_aload_n hx hb dX2_init_0 rfl (la hl 0 rfl) ?_
  obtain ⟨u1, g1, hrun⟩ := bd hrun
  refine s_objInit hx hb hml hown hts kw_276 kw_59 kw_60 g1 hl.1.1 dX2_init_1 (Nat.le_of_ble_eq_true rfl) (cN c_0 (Nat.le_of_ble_eq_true rfl)) ?_
  refine s_aload_n hx hb dX2_init_4 rfl (la hl 0 rfl) ?_
  refine lv_iconst (v := Int32.ofInt 4) hx hb dX2_init_5 rfl ?_
  obtain ⟨h2, g2, hrun⟩ := bd hrun
  refine s_newa hx hb (atype := .int) (kd := 8) (bound := 4) (hts _ kw_78) hE.1 (Or.inl ⟨rfl, rfl⟩) hM hS hE.2.1 (by decide) g2 (by decide) (Nat.le_of_ble_eq_true rfl) (Nat.le_of_ble_eq_true rfl) dX2_init_6 (fun H hM hS => ?_)
  obtain ⟨h3, g3, hrun⟩ := bd hrun
  refine s_putF (b := true) hx hb hts kl_2 tyX2 tyX2_ok nmX2 hown hE.1 hM hS (ci := 2) rfl (by decide) rfl (k := 0) (by decide) rfl (hts _ kw_277) rfl hin rfl (nar_a _) (fit_a _) (fun q => by cases q) g3 dX2_init_8 (fun H locs hM hS => ?_)
  exact s_vret hx hb hr hlocks hM hS hrun (Nat.le_of_ble_eq_true rfl) (Nat.le_of_ble_eq_true rfl) dX2_init_11
def f_X2_isFull_j13 (h : Hp) (s0 : Int) : Option (Int × Hp) :=
  rtB s0 h
def f_X2_isFull (h : Hp) (x0 : Int) : Option (Int × Hp) :=
  Option.bind (gtf h 2 1 x0) fun v1 =>
  if v1 < 4 then (
    f_X2_isFull_j13 h 0
  ) else (
    f_X2_isFull_j13 h 1
  )
abbrev w_X2_isFull : List Cond := Cond.code yX2_isFull cX2_isFull 1 (some .boolean) :: BW
abbrev rm_X2_isFull : Room := { frames := 0, cells := 0, slots := 0, locals := 0 }
set_option maxHeartbeats 4000000 in
set_option maxRecDepth 100000 in
theorem c_X2_isFull (l : Launch) (D : va_G) (G : Nat → ClassId) (base : Nat) (h h' : Hp) (x0 : Int) (rv : Int) (hrun : f_X2_isFull h x0 = some (rv, h')) : Met l yX2_isFull w_X2_isFull rm_X2_isFull (PC l D G base h [vr x0]) (QR D G base (some (vi rv)) (inr rv) h') rm_X2_isFull.cells rm_X2_isFull.slots (Ab base) := by
  refine Met.ofW (cc := cX2_isFull) (maxL := 1) (ret := (some .boolean)) (by decide) rfl ?_
  intro p e s m args below meth c s₁ B hml hv
  obtain ⟨hargs, hE, hM⟩ := hv
  have hx := B.exec
  have hb := B.bytes
  have hr := B.returns
  have hts0 := atoms_spec (ws := w_X2_isFull) B.pre
  have hts : ∀ w ∈ BW, w.before args s = true := fun w hw => hts0 w (List.mem_cons_of_mem _ hw)
  have hown : s.vm.findClass RX2 = some m.cls := findClass_of_methodNamed B.named
  have hlocks := B.notSynchronized
  have j13 : ∀ (h : Hp) (s0 : Int) (H : Heap) (locs : List Loc) (ls : Array Slot), inr s0 → SM D G base h H → va_S (Ab base) s.heap H locs → lvh ls 1 [] → f_X2_isFull_j13 h s0 = some (rv, h') → W p l e (headSpec w_X2_isFull rm_X2_isFull).room s m args below meth c H locs 0 0 (QI D G base rv h' below args s 0 0) (F0 m 13 ls [vi s0]) := by
    intro h s0 H locs ls i_s0 hM hS hl hrun
    unfold f_X2_isFull_j13 at hrun
    exact s_zret hx hb hr hlocks hM hS i_s0 hrun (Nat.le_of_ble_eq_true rfl) (Nat.le_of_ble_eq_true rfl) dX2_isFull_13
  refine s_entry hargs hM (c_r c_0) (Nat.le_of_ble_eq_true rfl) (fun H locs ls hM hS hl => ?_)
  replace hl : lvh ls 1 [(0, vr x0)] := hl
  unfold f_X2_isFull at hrun
  refine s_aload_n hx hb dX2_isFull_0 rfl (la hl 0 rfl) ?_
  obtain ⟨v1, g1, hrun⟩ := bd hrun
  refine s_getfi hx hb hts kl_2 hown hE.1 hM (ci := 2) rfl (by decide) rfl (k := 1) (by decide) rfl (hts _ kw_278) g1 dX2_isFull_1 ?_
  have i_v1 : inr v1 := gtf_i hM g1 (by decide) rfl
  refine lv_iconst (v := Int32.ofInt 4) hx hb dX2_isFull_4 rfl ?_
  refine s_icmp_lt (tgt := 12) hx hb dX2_isFull_5 (by decide) i_v1 (by decide) (fun cd => ?_) (fun cd => ?_)
  · replace hrun := it_pos cd hrun
    refine lv_iconst (v := Int32.ofInt 0) hx hb dX2_isFull_12 rfl ?_
    exact j13 h 0 H locs ls (by decide) hM hS (lsub hl [] rfl) hrun
  · replace hrun := it_neg cd hrun
    refine lv_iconst (v := Int32.ofInt 1) hx hb dX2_isFull_8 rfl ?_
    refine lv_goto (tgt := 13) hx hb dX2_isFull_9 (by decide) ?_
    exact j13 h 1 H locs ls (by decide) hM hS (lsub hl [] rfl) hrun
def f_X2_put (h : Hp) (x0 x1 : Int) : Option (Int × Hp) :=
  Option.bind (ckd h 2 x0) fun u2 =>
  Option.bind (f_X2_isFull h x0) fun r1 =>
  if r1.1 = 0 then (
    Option.bind (gtf r1.2 2 0 x0) fun v3 =>
    Option.bind (gtf r1.2 2 1 x0) fun v4 =>
    Option.bind (ast r1.2 8 v3 v4 x1) fun h5 =>
    Option.bind (gtf h5 2 1 x0) fun v6 =>
    Option.bind (ptf h5 2 1 x0 (wr (v6 + 1))) fun h7 =>
    rtB 1 h7
  ) else (
    rtB 0 r1.2
  )
abbrev w_X2_put : List Cond := Cond.code yX2_put cX2_put 2 (some .boolean) :: BW
abbrev rm_X2_put : Room := { frames := 1, cells := 0, slots := 0, locals := 20 }
set_option maxHeartbeats 4000000 in
set_option maxRecDepth 100000 in
theorem c_X2_put (l : Launch) (D : va_G) (G : Nat → ClassId) (base : Nat) (h h' : Hp) (x0 x1 : Int) (rv : Int) (i_x1 : inr x1) (hrun : f_X2_put h x0 x1 = some (rv, h')) : Met l yX2_put w_X2_put rm_X2_put (PC l D G base h [vr x0, vi x1]) (QR D G base (some (vi rv)) (inr rv) h') rm_X2_put.cells rm_X2_put.slots (Ab base) := by
  refine Met.ofW (cc := cX2_put) (maxL := 2) (ret := (some .boolean)) (by decide) rfl ?_
  intro p e s m args below meth c s₁ B hml hv
  obtain ⟨hargs, hE, hM⟩ := hv
  have hx := B.exec
  have hb := B.bytes
  have hr := B.returns
  have hts0 := atoms_spec (ws := w_X2_put) B.pre
  have hts : ∀ w ∈ BW, w.before args s = true := fun w hw => hts0 w (List.mem_cons_of_mem _ hw)
  have hown : s.vm.findClass RX2 = some m.cls := findClass_of_methodNamed B.named
  have hlocks := B.notSynchronized
  refine s_entry hargs hM (c_r (c_i c_0)) (Nat.le_of_ble_eq_true rfl) (fun H locs ls hM hS hl => ?_)
  replace hl : lvh ls 2 [(0, vr x0), (1, vi x1)] := hl
  unfold f_X2_put at hrun
  refine s_aload_n hx hb dX2_put_0 rfl (la hl 0 rfl) ?_
  obtain ⟨u2, g2, hrun⟩ := bd hrun
  obtain ⟨r1, g1, hrun⟩ := bd hrun
  refine s_callV (n := 0) (rest := []) [] hx hb hml hown hts hE hM hS (c_X2_isFull l D G base h r1.2 x0 r1.1 g1) kw_563 kw_568 kw_47 kw_561 kw_562 (by decide +kernel) ⟨Nat.le_of_ble_eq_true rfl, Nat.le_of_ble_eq_true rfl⟩ rfl rfl (by decide) g2 rfl hl.1.1 rfl (c8 c_0 (Nat.le_of_ble_eq_true rfl)) dX2_put_1 ⟨Nat.le_of_ble_eq_true rfl, Nat.le_of_ble_eq_true rfl⟩ (fun H locs i_r1 hM hS => ?_)
  refine W.eq (g2 := F0 m 4 ls [vi r1.1]) rfl ?_
  refine s_if_eq (tgt := 9) hx hb dX2_put_4 (by decide) i_r1 (fun cd => ?_) (fun cd => ?_)
  · replace hrun := it_pos cd hrun
    refine s_aload_n hx hb dX2_put_9 rfl (la hl 0 rfl) ?_
    obtain ⟨v3, g3, hrun⟩ := bd hrun
    refine s_getfr hx hb hts kl_2 hown hE.1 hM (ci := 2) rfl (by decide) rfl (k := 0) (by decide) rfl (hts _ kw_277) g3 dX2_put_10 ?_
    refine s_aload_n hx hb dX2_put_13 rfl (la hl 0 rfl) ?_
    obtain ⟨v4, g4, hrun⟩ := bd hrun
    refine s_getfi hx hb hts kl_2 hown hE.1 hM (ci := 2) rfl (by decide) rfl (k := 1) (by decide) rfl (hts _ kw_278) g4 dX2_put_14 ?_
    have i_v4 : inr v4 := gtf_i hM g4 (by decide) rfl
    refine lv_iload_n hx hb dX2_put_17 rfl (la hl 1 rfl) ?_
    obtain ⟨h5, g5, hrun⟩ := bd hrun
    refine s_iast hx hb hE.1 hM hS i_v4 i_x1 g5 dX2_put_18 (fun H locs hM hS => ?_)
    refine s_aload_n hx hb dX2_put_19 rfl (la hl 0 rfl) ?_
    refine lv_dup hx hb dX2_put_20 (vr_cat _) ?_
    obtain ⟨v6, g6, hrun⟩ := bd hrun
    refine s_getfi hx hb hts kl_2 hown hE.1 hM (ci := 2) rfl (by decide) rfl (k := 1) (by decide) rfl (hts _ kw_278) g6 dX2_put_21 ?_
    have i_v6 : inr v6 := gtf_i hM g6 (by decide) rfl
    refine lv_iconst (v := Int32.ofInt 1) hx hb dX2_put_24 rfl ?_
    refine s_iadd hx hb dX2_put_25 ?_
    obtain ⟨h7, g7, hrun⟩ := bd hrun
    refine s_put (b := false) hx hb hts kl_2 tyX2 tyX2_ok nmX2 hown hE.1 hM hS (ci := 2) rfl (by decide) rfl (k := 1) (by decide) rfl (hts _ kw_278) rfl (vp_nar_int _) rfl (fun _ => (inr_wr _)) g7 dX2_put_26 (fun H locs hM hS => ?_)
    refine lv_iconst (v := Int32.ofInt 1) hx hb dX2_put_29 rfl ?_
    exact s_zret hx hb hr hlocks hM hS (by decide) hrun (Nat.le_of_ble_eq_true rfl) (Nat.le_of_ble_eq_true rfl) dX2_put_30
  · replace hrun := it_neg cd hrun
    refine lv_iconst (v := Int32.ofInt 0) hx hb dX2_put_7 rfl ?_
    exact s_zret hx hb hr hlocks hM hS (by decide) hrun (Nat.le_of_ble_eq_true rfl) (Nat.le_of_ble_eq_true rfl) dX2_put_8
def f_X2_takeLast (h : Hp) (x0 : Int) : Option (Int × Hp) :=
  Option.bind (gtf h 2 1 x0) fun v1 =>
  if 0 < v1 then (
    Option.bind (gtf h 2 1 x0) fun v2 =>
    Option.bind (ptf h 2 1 x0 (wr (v2 - 1))) fun h3 =>
    Option.bind (gtf h3 2 0 x0) fun v4 =>
    Option.bind (gtf h3 2 1 x0) fun v5 =>
    Option.bind (ald h3 8 v4 v5) fun v6 =>
    some (v6, h3)
  ) else (
    some ((-1), h)
  )
abbrev w_X2_takeLast : List Cond := Cond.code yX2_takeLast cX2_takeLast 1 (some .int) :: BW
abbrev rm_X2_takeLast : Room := { frames := 0, cells := 0, slots := 0, locals := 0 }
set_option maxHeartbeats 4000000 in
set_option maxRecDepth 100000 in
theorem c_X2_takeLast (l : Launch) (D : va_G) (G : Nat → ClassId) (base : Nat) (h h' : Hp) (x0 : Int) (rv : Int) (hrun : f_X2_takeLast h x0 = some (rv, h')) : Met l yX2_takeLast w_X2_takeLast rm_X2_takeLast (PC l D G base h [vr x0]) (QR D G base (some (vi rv)) (inr rv) h') rm_X2_takeLast.cells rm_X2_takeLast.slots (Ab base) := by
  refine Met.ofW (cc := cX2_takeLast) (maxL := 1) (ret := (some .int)) (by decide) rfl ?_
  intro p e s m args below meth c s₁ B hml hv
  obtain ⟨hargs, hE, hM⟩ := hv
  have hx := B.exec
  have hb := B.bytes
  have hr := B.returns
  have hts0 := atoms_spec (ws := w_X2_takeLast) B.pre
  have hts : ∀ w ∈ BW, w.before args s = true := fun w hw => hts0 w (List.mem_cons_of_mem _ hw)
  have hown : s.vm.findClass RX2 = some m.cls := findClass_of_methodNamed B.named
  have hlocks := B.notSynchronized
  refine s_entry hargs hM (c_r c_0) (Nat.le_of_ble_eq_true rfl) (fun H locs ls hM hS hl => ?_)
  replace hl : lvh ls 1 [(0, vr x0)] := hl
  unfold f_X2_takeLast at hrun
  refine s_aload_n hx hb dX2_takeLast_0 rfl (la hl 0 rfl) ?_
  obtain ⟨v1, g1, hrun⟩ := bd hrun
  refine s_getfi hx hb hts kl_2 hown hE.1 hM (ci := 2) rfl (by decide) rfl (k := 1) (by decide) rfl (hts _ kw_278) g1 dX2_takeLast_1 ?_
  have i_v1 : inr v1 := gtf_i hM g1 (by decide) rfl
  refine s_if_gt (tgt := 9) hx hb dX2_takeLast_4 (by decide) i_v1 (fun cd => ?_) (fun cd => ?_)
  · replace hrun := it_pos cd hrun
    refine s_aload_n hx hb dX2_takeLast_9 rfl (la hl 0 rfl) ?_
    refine lv_dup hx hb dX2_takeLast_10 (vr_cat _) ?_
    obtain ⟨v2, g2, hrun⟩ := bd hrun
    refine s_getfi hx hb hts kl_2 hown hE.1 hM (ci := 2) rfl (by decide) rfl (k := 1) (by decide) rfl (hts _ kw_278) g2 dX2_takeLast_11 ?_
    have i_v2 : inr v2 := gtf_i hM g2 (by decide) rfl
    refine lv_iconst (v := Int32.ofInt 1) hx hb dX2_takeLast_14 rfl ?_
    refine s_isub hx hb dX2_takeLast_15 ?_
    obtain ⟨h3, g3, hrun⟩ := bd hrun
    refine s_put (b := false) hx hb hts kl_2 tyX2 tyX2_ok nmX2 hown hE.1 hM hS (ci := 2) rfl (by decide) rfl (k := 1) (by decide) rfl (hts _ kw_278) rfl (vp_nar_int _) rfl (fun _ => (inr_wr _)) g3 dX2_takeLast_16 (fun H locs hM hS => ?_)
    refine s_aload_n hx hb dX2_takeLast_19 rfl (la hl 0 rfl) ?_
    obtain ⟨v4, g4, hrun⟩ := bd hrun
    refine s_getfr hx hb hts kl_2 hown hE.1 hM (ci := 2) rfl (by decide) rfl (k := 0) (by decide) rfl (hts _ kw_277) g4 dX2_takeLast_20 ?_
    refine s_aload_n hx hb dX2_takeLast_23 rfl (la hl 0 rfl) ?_
    obtain ⟨v5, g5, hrun⟩ := bd hrun
    refine s_getfi hx hb hts kl_2 hown hE.1 hM (ci := 2) rfl (by decide) rfl (k := 1) (by decide) rfl (hts _ kw_278) g5 dX2_takeLast_24 ?_
    have i_v5 : inr v5 := gtf_i hM g5 (by decide) rfl
    obtain ⟨v6, g6, hrun⟩ := bd hrun
    refine s_iald hx hb hE.1 hM i_v5 g6 dX2_takeLast_27 ?_
    have i_v6 : inr v6 := ald_i hM g6 (by decide) (by decide)
    exact s_iret hx hb hr hlocks hM hS i_v6 hrun (Nat.le_of_ble_eq_true rfl) (Nat.le_of_ble_eq_true rfl) dX2_takeLast_28
  · replace hrun := it_neg cd hrun
    refine lv_iconst (v := Int32.ofInt (-1)) hx hb dX2_takeLast_7 rfl ?_
    exact s_iret hx hb hr hlocks hM hS (by decide) hrun (Nat.le_of_ble_eq_true rfl) (Nat.le_of_ble_eq_true rfl) dX2_takeLast_8
def f_X4_init (h : Hp) (x0 : Int) : Option (Int × Hp) :=
  Option.bind (ckd h 4 x0) fun u1 =>
  some (0, h)
abbrev w_X4_init : List Cond := Cond.code yX4_init cX4_init 1 none :: BW
abbrev rm_X4_init : Room := { frames := 1, cells := 0, slots := 0, locals := 12 }
set_option maxHeartbeats 4000000 in
set_option maxRecDepth 100000 in
theorem c_X4_init (l : Launch) (D : va_G) (G : Nat → ClassId) (base : Nat) (h h' : Hp) (x0 : Int) (rv : Int) (hrun : f_X4_init h x0 = some (rv, h')) : Met l yX4_init w_X4_init rm_X4_init (PC l D G base h [vr x0]) (QR D G base none True h') rm_X4_init.cells rm_X4_init.slots (Ab base) := by
  refine Met.ofW (cc := cX4_init) (maxL := 1) (ret := none) (by decide) rfl ?_
  intro p e s m args below meth c s₁ B hml hv
  obtain ⟨hargs, hE, hM⟩ := hv
  have hx := B.exec
  have hb := B.bytes
  have hr := B.returns
  have hts0 := atoms_spec (ws := w_X4_init) B.pre
  have hts : ∀ w ∈ BW, w.before args s = true := fun w hw => hts0 w (List.mem_cons_of_mem _ hw)
  have hown : s.vm.findClass RX4 = some m.cls := findClass_of_methodNamed B.named
  have hlocks := B.notSynchronized
  have hin : meth.name = "<init>" := (name_of_methodNamed B.named B.method).1
  refine s_entry hargs hM (c_r c_0) (Nat.le_of_ble_eq_true rfl) (fun H locs ls hM hS hl => ?_)
  replace hl : lvh ls 1 [(0, vr x0)] := hl
  unfold f_X4_init at hrun
  refine s_aload_n hx hb dX4_init_0 rfl (la hl 0 rfl) ?_
  obtain ⟨u1, g1, hrun⟩ := bd hrun
  refine s_objInit hx hb hml hown hts kw_266 kw_59 kw_60 g1 hl.1.1 dX4_init_1 (Nat.le_of_ble_eq_true rfl) (cN c_0 (Nat.le_of_ble_eq_true rfl)) ?_
  exact s_vret hx hb hr hlocks hM hS hrun (Nat.le_of_ble_eq_true rfl) (Nat.le_of_ble_eq_true rfl) dX4_init_4
def f_X4_putFirst_j28 (h : Hp) (x0 x1 : Int) : Option (Int × Hp) :=
  Option.bind (ptf h 4 0 x0 x1) fun h7 =>
  some (0, h7)
def f_X4_putFirst (h : Hp) (x0 x1 : Int) : Option (Int × Hp) :=
  Option.bind (ptf h 3 5 x1 (-1)) fun h1 =>
  Option.bind (gtf h1 4 0 x0) fun v2 =>
  Option.bind (ptf h1 3 6 x1 v2) fun h3 =>
  Option.bind (gtf h3 4 0 x0) fun v4 =>
  if v4 < 0 then (
    f_X4_putFirst_j28 h3 x0 x1
  ) else (
    Option.bind (gtf h3 4 0 x0) fun v5 =>
    Option.bind (ptf h3 3 5 v5 x1) fun h6 =>
    f_X4_putFirst_j28 h6 x0 x1
  )
abbrev w_X4_putFirst : List Cond := Cond.code yX4_putFirst cX4_putFirst 2 none :: BW
abbrev rm_X4_putFirst : Room := { frames := 0, cells := 0, slots := 0, locals := 0 }
set_option maxHeartbeats 4000000 in
set_option maxRecDepth 100000 in
theorem c_X4_putFirst (l : Launch) (D : va_G) (G : Nat → ClassId) (base : Nat) (h h' : Hp) (x0 x1 : Int) (rv : Int) (hrun : f_X4_putFirst h x0 x1 = some (rv, h')) : Met l yX4_putFirst w_X4_putFirst rm_X4_putFirst (PC l D G base h [vr x0, vr x1]) (QR D G base none True h') rm_X4_putFirst.cells rm_X4_putFirst.slots (Ab base) := by
  refine Met.ofW (cc := cX4_putFirst) (maxL := 2) (ret := none) (by decide) rfl ?_
  intro p e s m args below meth c s₁ B hml hv
  obtain ⟨hargs, hE, hM⟩ := hv
  have hx := B.exec
  have hb := B.bytes
  have hr := B.returns
  have hts0 := atoms_spec (ws := w_X4_putFirst) B.pre
  have hts : ∀ w ∈ BW, w.before args s = true := fun w hw => hts0 w (List.mem_cons_of_mem _ hw)
  have hown : s.vm.findClass RX4 = some m.cls := findClass_of_methodNamed B.named
  have hlocks := B.notSynchronized
  have j28 : ∀ (h : Hp) (x0 x1 : Int) (H : Heap) (locs : List Loc) (ls : Array Slot), SM D G base h H → va_S (Ab base) s.heap H locs → lvh ls 2 [(0, vr x0), (1, vr x1)] → f_X4_putFirst_j28 h x0 x1 = some (rv, h') → W p l e (headSpec w_X4_putFirst rm_X4_putFirst).room s m args below meth c H locs 0 0 (QV D G base rv h' below args s 0 0) (F0 m 28 ls []) := by
    intro h x0 x1 H locs ls hM hS hl hrun
    unfold f_X4_putFirst_j28 at hrun
    refine s_aload_n hx hb dX4_putFirst_28 rfl (la hl 0 rfl) ?_
    refine s_aload_n hx hb dX4_putFirst_29 rfl (la hl 1 rfl) ?_
    obtain ⟨h7, g7, hrun⟩ := bd hrun
    refine s_put (b := true) hx hb hts kl_4 tyX4 tyX4_ok nmX4 hown hE.1 hM hS (ci := 4) rfl (by decide) rfl (k := 0) (by decide) rfl (hts _ kw_267) rfl (nar_o _) (fit_o _) (fun q => by cases q) g7 dX4_putFirst_30 (fun H locs hM hS => ?_)
    exact s_vret hx hb hr hlocks hM hS hrun (Nat.le_of_ble_eq_true rfl) (Nat.le_of_ble_eq_true rfl) dX4_putFirst_33
  refine s_entry hargs hM (c_r (c_r c_0)) (Nat.le_of_ble_eq_true rfl) (fun H locs ls hM hS hl => ?_)
  replace hl : lvh ls 2 [(0, vr x0), (1, vr x1)] := hl
  unfold f_X4_putFirst at hrun
  refine s_aload_n hx hb dX4_putFirst_0 rfl (la hl 1 rfl) ?_
  refine s_null hx hb dX4_putFirst_1 ?_
  obtain ⟨h1, g1, hrun⟩ := bd hrun
  refine s_put (b := true) hx hb hts kl_3 tyX3 tyX3_ok nmX3 hown hE.1 hM hS (ci := 3) rfl (by decide) rfl (k := 5) (by decide) rfl (hts _ kw_464) rfl (nar_o _) (fit_o _) (fun q => by cases q) g1 dX4_putFirst_2 (fun H locs hM hS => ?_)
  refine s_aload_n hx hb dX4_putFirst_5 rfl (la hl 1 rfl) ?_
  refine s_aload_n hx hb dX4_putFirst_6 rfl (la hl 0 rfl) ?_
  obtain ⟨v2, g2, hrun⟩ := bd hrun
  refine s_getfr hx hb hts kl_4 hown hE.1 hM (ci := 4) rfl (by decide) rfl (k := 0) (by decide) rfl (hts _ kw_267) g2 dX4_putFirst_7 ?_
  obtain ⟨h3, g3, hrun⟩ := bd hrun
  refine s_put (b := true) hx hb hts kl_3 tyX3 tyX3_ok nmX3 hown hE.1 hM hS (ci := 3) rfl (by decide) rfl (k := 6) (by decide) rfl (hts _ kw_465) rfl (nar_o _) (fit_o _) (fun q => by cases q) g3 dX4_putFirst_10 (fun H locs hM hS => ?_)
  refine s_aload_n hx hb dX4_putFirst_13 rfl (la hl 0 rfl) ?_
  obtain ⟨v4, g4, hrun⟩ := bd hrun
  refine s_getfr hx hb hts kl_4 hown hE.1 hM (ci := 4) rfl (by decide) rfl (k := 0) (by decide) rfl (hts _ kw_267) g4 dX4_putFirst_14 ?_
  refine s_ifnull (tgt := 28) hx hb dX4_putFirst_17 (by decide) (fun cd => ?_) (fun cd => ?_)
  · replace hrun := it_pos cd hrun
    exact j28 h3 x0 x1 H locs ls hM hS (lsub hl [0, 1] rfl) hrun
  · replace hrun := it_neg cd hrun
    refine s_aload_n hx hb dX4_putFirst_20 rfl (la hl 0 rfl) ?_
    obtain ⟨v5, g5, hrun⟩ := bd hrun
    refine s_getfr hx hb hts kl_4 hown hE.1 hM (ci := 4) rfl (by decide) rfl (k := 0) (by decide) rfl (hts _ kw_267) g5 dX4_putFirst_21 ?_
    refine s_aload_n hx hb dX4_putFirst_24 rfl (la hl 1 rfl) ?_
    obtain ⟨h6, g6, hrun⟩ := bd hrun
    refine s_put (b := true) hx hb hts kl_3 tyX3 tyX3_ok nmX3 hown hE.1 hM hS (ci := 3) rfl (by decide) rfl (k := 5) (by decide) rfl (hts _ kw_464) rfl (nar_o _) (fit_o _) (fun q => by cases q) g6 dX4_putFirst_25 (fun H locs hM hS => ?_)
    exact j28 h6 x0 x1 H locs ls hM hS (lsub hl [0, 1] rfl) hrun
def f_X4_remove_j47 (h : Hp) (x1 : Int) : Option (Int × Hp) :=
  Option.bind (ptf h 3 5 x1 (-1)) fun h11 =>
  Option.bind (ptf h11 3 6 x1 (-1)) fun h12 =>
  some (0, h12)
def f_X4_remove_j29 (h : Hp) (x1 : Int) : Option (Int × Hp) :=
  Option.bind (gtf h 3 6 x1) fun v7 =>
  if v7 < 0 then (
    f_X4_remove_j47 h x1
  ) else (
    Option.bind (gtf h 3 6 x1) fun v8 =>
    Option.bind (gtf h 3 5 x1) fun v9 =>
    Option.bind (ptf h 3 5 v8 v9) fun h10 =>
    f_X4_remove_j47 h10 x1
  )
def f_X4_remove (h : Hp) (x0 x1 : Int) : Option (Int × Hp) :=
  Option.bind (gtf h 3 5 x1) fun v1 =>
  if 0 ≤ v1 then (
    Option.bind (gtf h 3 5 x1) fun v2 =>
    Option.bind (gtf h 3 6 x1) fun v3 =>
    Option.bind (ptf h 3 6 v2 v3) fun h4 =>
    f_X4_remove_j29 h4 x1
  ) else (
    Option.bind (gtf h 3 6 x1) fun v5 =>
    Option.bind (ptf h 4 0 x0 v5) fun h6 =>
    f_X4_remove_j29 h6 x1
  )
abbrev w_X4_remove : List Cond := Cond.code yX4_remove cX4_remove 2 none :: BW
abbrev rm_X4_remove : Room := { frames := 0, cells := 0, slots := 0, locals := 0 }
set_option maxHeartbeats 4000000 in
set_option maxRecDepth 100000 in
theorem c_X4_remove (l : Launch) (D : va_G) (G : Nat → ClassId) (base : Nat) (h h' : Hp) (x0 x1 : Int) (rv : Int) (hrun : f_X4_remove h x0 x1 = some (rv, h')) : Met l yX4_remove w_X4_remove rm_X4_remove (PC l D G base h [vr x0, vr x1]) (QR D G base none True h') rm_X4_remove.cells rm_X4_remove.slots (Ab base) := by
  refine Met.ofW (cc := cX4_remove) (maxL := 2) (ret := none) (by decide) rfl ?_
  intro p e s m args below meth c s₁ B hml hv
  obtain ⟨hargs, hE, hM⟩ := hv
  have hx := B.exec
  have hb := B.bytes
  have hr := B.returns
  have hts0 := atoms_spec (ws := w_X4_remove) B.pre
  have hts : ∀ w ∈ BW, w.before args s = true := fun w hw => hts0 w (List.mem_cons_of_mem _ hw)
  have hown : s.vm.findClass RX4 = some m.cls := findClass_of_methodNamed B.named
  have hlocks := B.notSynchronized
  have j47 : ∀ (h : Hp) (x1 : Int) (H : Heap) (locs : List Loc) (ls : Array Slot), SM D G base h H → va_S (Ab base) s.heap H locs → lvh ls 2 [(1, vr x1)] → f_X4_remove_j47 h x1 = some (rv, h') → W p l e (headSpec w_X4_remove rm_X4_remove).room s m args below meth c H locs 0 0 (QV D G base rv h' below args s 0 0) (F0 m 47 ls []) := by
    intro h x1 H locs ls hM hS hl hrun
    unfold f_X4_remove_j47 at hrun
    refine s_aload_n hx hb dX4_remove_47 rfl (la hl 0 rfl) ?_
    refine s_null hx hb dX4_remove_48 ?_
    obtain ⟨h11, g11, hrun⟩ := bd hrun
    refine s_put (b := true) hx hb hts kl_3 tyX3 tyX3_ok nmX3 hown hE.1 hM hS (ci := 3) rfl (by decide) rfl (k := 5) (by decide) rfl (hts _ kw_464) rfl (nar_o _) (fit_o _) (fun q => by cases q) g11 dX4_remove_49 (fun H locs hM hS => ?_)
    refine s_aload_n hx hb dX4_remove_52 rfl (la hl 0 rfl) ?_
    refine s_null hx hb dX4_remove_53 ?_
    obtain ⟨h12, g12, hrun⟩ := bd hrun
    refine s_put (b := true) hx hb hts kl_3 tyX3 tyX3_ok nmX3 hown hE.1 hM hS (ci := 3) rfl (by decide) rfl (k := 6) (by decide) rfl (hts _ kw_465) rfl (nar_o _) (fit_o _) (fun q => by cases q) g12 dX4_remove_54 (fun H locs hM hS => ?_)
    exact s_vret hx hb hr hlocks hM hS hrun (Nat.le_of_ble_eq_true rfl) (Nat.le_of_ble_eq_true rfl) dX4_remove_57
  have j29 : ∀ (h : Hp) (x1 : Int) (H : Heap) (locs : List Loc) (ls : Array Slot), SM D G base h H → va_S (Ab base) s.heap H locs → lvh ls 2 [(1, vr x1)] → f_X4_remove_j29 h x1 = some (rv, h') → W p l e (headSpec w_X4_remove rm_X4_remove).room s m args below meth c H locs 0 0 (QV D G base rv h' below args s 0 0) (F0 m 29 ls []) := by
    intro h x1 H locs ls hM hS hl hrun
    unfold f_X4_remove_j29 at hrun
    refine s_aload_n hx hb dX4_remove_29 rfl (la hl 0 rfl) ?_
    obtain ⟨v7, g7, hrun⟩ := bd hrun
    refine s_getfr hx hb hts kl_3 hown hE.1 hM (ci := 3) rfl (by decide) rfl (k := 6) (by decide) rfl (hts _ kw_465) g7 dX4_remove_30 ?_
    refine s_ifnull (tgt := 47) hx hb dX4_remove_33 (by decide) (fun cd => ?_) (fun cd => ?_)
    · replace hrun := it_pos cd hrun
      exact j47 h x1 H locs ls hM hS (lsub hl [0] rfl) hrun
    · replace hrun := it_neg cd hrun
      refine s_aload_n hx hb dX4_remove_36 rfl (la hl 0 rfl) ?_
      obtain ⟨v8, g8, hrun⟩ := bd hrun
      refine s_getfr hx hb hts kl_3 hown hE.1 hM (ci := 3) rfl (by decide) rfl (k := 6) (by decide) rfl (hts _ kw_465) g8 dX4_remove_37 ?_
      refine s_aload_n hx hb dX4_remove_40 rfl (la hl 0 rfl) ?_
      obtain ⟨v9, g9, hrun⟩ := bd hrun
      refine s_getfr hx hb hts kl_3 hown hE.1 hM (ci := 3) rfl (by decide) rfl (k := 5) (by decide) rfl (hts _ kw_464) g9 dX4_remove_41 ?_
      obtain ⟨h10, g10, hrun⟩ := bd hrun
      refine s_put (b := true) hx hb hts kl_3 tyX3 tyX3_ok nmX3 hown hE.1 hM hS (ci := 3) rfl (by decide) rfl (k := 5) (by decide) rfl (hts _ kw_464) rfl (nar_o _) (fit_o _) (fun q => by cases q) g10 dX4_remove_44 (fun H locs hM hS => ?_)
      exact j47 h10 x1 H locs ls hM hS (lsub hl [0] rfl) hrun
  refine s_entry hargs hM (c_r (c_r c_0)) (Nat.le_of_ble_eq_true rfl) (fun H locs ls hM hS hl => ?_)
  replace hl : lvh ls 2 [(0, vr x0), (1, vr x1)] := hl
  unfold f_X4_remove at hrun
  refine s_aload_n hx hb dX4_remove_0 rfl (la hl 1 rfl) ?_
  obtain ⟨v1, g1, hrun⟩ := bd hrun
  refine s_getfr hx hb hts kl_3 hown hE.1 hM (ci := 3) rfl (by decide) rfl (k := 5) (by decide) rfl (hts _ kw_464) g1 dX4_remove_1 ?_
  refine s_ifnonnull (tgt := 18) hx hb dX4_remove_4 (by decide) (fun cd => ?_) (fun cd => ?_)
  · replace hrun := it_pos cd hrun
    refine s_aload_n hx hb dX4_remove_18 rfl (la hl 1 rfl) ?_
    obtain ⟨v2, g2, hrun⟩ := bd hrun
    refine s_getfr hx hb hts kl_3 hown hE.1 hM (ci := 3) rfl (by decide) rfl (k := 5) (by decide) rfl (hts _ kw_464) g2 dX4_remove_19 ?_
    refine s_aload_n hx hb dX4_remove_22 rfl (la hl 1 rfl) ?_
    obtain ⟨v3, g3, hrun⟩ := bd hrun
    refine s_getfr hx hb hts kl_3 hown hE.1 hM (ci := 3) rfl (by decide) rfl (k := 6) (by decide) rfl (hts _ kw_465) g3 dX4_remove_23 ?_
    obtain ⟨h4, g4, hrun⟩ := bd hrun
    refine s_put (b := true) hx hb hts kl_3 tyX3 tyX3_ok nmX3 hown hE.1 hM hS (ci := 3) rfl (by decide) rfl (k := 6) (by decide) rfl (hts _ kw_465) rfl (nar_o _) (fit_o _) (fun q => by cases q) g4 dX4_remove_26 (fun H locs hM hS => ?_)
    exact j29 h4 x1 H locs ls hM hS (lsub hl [1] rfl) hrun
  · replace hrun := it_neg cd hrun
    refine s_aload_n hx hb dX4_remove_7 rfl (la hl 0 rfl) ?_
    refine s_aload_n hx hb dX4_remove_8 rfl (la hl 1 rfl) ?_
    obtain ⟨v5, g5, hrun⟩ := bd hrun
    refine s_getfr hx hb hts kl_3 hown hE.1 hM (ci := 3) rfl (by decide) rfl (k := 6) (by decide) rfl (hts _ kw_465) g5 dX4_remove_9 ?_
    obtain ⟨h6, g6, hrun⟩ := bd hrun
    refine s_put (b := true) hx hb hts kl_4 tyX4 tyX4_ok nmX4 hown hE.1 hM hS (ci := 4) rfl (by decide) rfl (k := 0) (by decide) rfl (hts _ kw_267) rfl (nar_o _) (fit_o _) (fun q => by cases q) g6 dX4_remove_12 (fun H locs hM hS => ?_)
    refine lv_goto (tgt := 29) hx hb dX4_remove_15 (by decide) ?_
    exact j29 h6 x1 H locs ls hM hS (lsub hl [1] rfl) hrun
def f_X4_slabAtPlace_j32 (h : Hp) (x3 : Int) : Option (Int × Hp) :=
  some (x3, h)
def f_X4_slabAtPlace_s13 (k13 : Hp → Int → Int → Option (Int × Hp)) (h : Hp) (x2 x3 : Int) : Option (Int × Hp) :=
  if x3 < 0 then (
    f_X4_slabAtPlace_j32 h x3
  ) else (
    if x2 ≤ 0 then (
      f_X4_slabAtPlace_j32 h x3
    ) else (
      Option.bind (gtf h 3 6 x3) fun v2 =>
      k13 h (wr (x2 + (-1))) v2
    )
  )
def f_X4_slabAtPlace_b13 : Nat → Hp → Int → Int → Option (Int × Hp)
  | 0, _, _, _ => none
  | n + 1, h, x2, x3 => f_X4_slabAtPlace_s13 (f_X4_slabAtPlace_b13 n) h x2 x3
def f_X4_slabAtPlace (h : Hp) (x0 x1 : Int) : Option (Int × Hp) :=
  if 0 ≤ x1 then (
    Option.bind (gtf h 4 0 x0) fun v1 =>
    f_X4_slabAtPlace_b13 fuel h x1 v1
  ) else (
    some ((-1), h)
  )
abbrev w_X4_slabAtPlace : List Cond := Cond.code yX4_slabAtPlace cX4_slabAtPlace 4 (some (.object "SlabHouse$Slab")) :: BW
abbrev rm_X4_slabAtPlace : Room := { frames := 0, cells := 0, slots := 0, locals := 0 }
set_option maxHeartbeats 4000000 in
set_option maxRecDepth 100000 in
theorem c_X4_slabAtPlace (l : Launch) (D : va_G) (G : Nat → ClassId) (base : Nat) (h h' : Hp) (x0 x1 : Int) (rv : Int) (i_x1 : inr x1) (hrun : f_X4_slabAtPlace h x0 x1 = some (rv, h')) : Met l yX4_slabAtPlace w_X4_slabAtPlace rm_X4_slabAtPlace (PC l D G base h [vr x0, vi x1]) (QR D G base (some (vr rv)) True h') rm_X4_slabAtPlace.cells rm_X4_slabAtPlace.slots (Ab base) := by
  refine Met.ofW (cc := cX4_slabAtPlace) (maxL := 4) (ret := (some (.object "SlabHouse$Slab"))) (by decide) rfl ?_
  intro p e s m args below meth c s₁ B hml hv
  obtain ⟨hargs, hE, hM⟩ := hv
  have hx := B.exec
  have hb := B.bytes
  have hr := B.returns
  have hts0 := atoms_spec (ws := w_X4_slabAtPlace) B.pre
  have hts : ∀ w ∈ BW, w.before args s = true := fun w hw => hts0 w (List.mem_cons_of_mem _ hw)
  have hown : s.vm.findClass RX4 = some m.cls := findClass_of_methodNamed B.named
  have hlocks := B.notSynchronized
  have j32 : ∀ (h : Hp) (x3 : Int) (H : Heap) (locs : List Loc) (ls : Array Slot), SM D G base h H → va_S (Ab base) s.heap H locs → lvh ls 4 [(3, vr x3)] → f_X4_slabAtPlace_j32 h x3 = some (rv, h') → W p l e (headSpec w_X4_slabAtPlace rm_X4_slabAtPlace).room s m args below meth c H locs 0 0 (QF D G base rv h' below args s 0 0) (F0 m 32 ls []) := by
    intro h x3 H locs ls hM hS hl hrun
    unfold f_X4_slabAtPlace_j32 at hrun
    refine s_aload_n hx hb dX4_slabAtPlace_32 rfl (la hl 0 rfl) ?_
    exact s_aret hx hb hr (Or.inl ⟨_, rfl⟩) hlocks hM hS hrun (Nat.le_of_ble_eq_true rfl) (Nat.le_of_ble_eq_true rfl) dX4_slabAtPlace_33
  have lp13 : ∀ (n13 : Nat) (h : Hp) (x2 x3 : Int) (H : Heap) (locs : List Loc) (ls : Array Slot), inr x2 → SM D G base h H → va_S (Ab base) s.heap H locs → lvh ls 4 [(2, vi x2), (3, vr x3)] → f_X4_slabAtPlace_b13 n13 h x2 x3 = some (rv, h') → W p l e (headSpec w_X4_slabAtPlace rm_X4_slabAtPlace).room s m args below meth c H locs 0 0 (QF D G base rv h' below args s 0 0) (F0 m 13 ls []) := by
    intro n13
    induction n13 with
    | zero => intro h x2 x3 H locs ls i_x2 hM hS hl hrun; exact absurd hrun (fun q => nomatch (show (none : Option (Int × Hp)) = some (rv, h') from q))
    | succ n13 ih13 =>
      intro h x2 x3 H locs ls i_x2 hM hS hl hrun
      replace hrun : f_X4_slabAtPlace_s13 (f_X4_slabAtPlace_b13 n13) h x2 x3 = some (rv, h') := hrun
      unfold f_X4_slabAtPlace_s13 at hrun
      refine s_aload_n hx hb dX4_slabAtPlace_13 rfl (la hl 1 rfl) ?_
      refine s_ifnull (tgt := 32) hx hb dX4_slabAtPlace_14 (by decide) (fun cd => ?_) (fun cd => ?_)
      · replace hrun := it_pos cd hrun
        exact j32 h x3 H locs ls hM hS (lsub hl [1] rfl) hrun
      · replace hrun := it_neg cd hrun
        refine lv_iload_n hx hb dX4_slabAtPlace_17 rfl (la hl 0 rfl) ?_
        refine s_if_le (tgt := 32) hx hb dX4_slabAtPlace_18 (by decide) i_x2 (fun cd => ?_) (fun cd => ?_)
        · replace hrun := it_pos cd hrun
          exact j32 h x3 H locs ls hM hS (lsub hl [1] rfl) hrun
        · replace hrun := it_neg cd hrun
          refine s_aload_n hx hb dX4_slabAtPlace_21 rfl (la hl 1 rfl) ?_
          obtain ⟨v2, g2, hrun⟩ := bd hrun
          refine s_getfr hx hb hts kl_3 hown hE.1 hM (ci := 3) rfl (by decide) rfl (k := 6) (by decide) rfl (hts _ kw_465) g2 dX4_slabAtPlace_22 ?_
          refine t_astore_n (lv' := [(3, vr v2), (2, vi x2)]) hx hb dX4_slabAtPlace_25 rfl hl (by decide) rfl (fun ls hl => ?_)
          refine t_iinc (lv' := [(2, vi (wr (x2 + (-1)))), (3, vr v2)]) hx hb dX4_slabAtPlace_26 hl (k := 1) rfl (by decide) rfl rfl (fun ls hl => ?_)
          refine lv_goto (tgt := 13) hx hb dX4_slabAtPlace_29 (by decide) ?_
          exact ih13 h (wr (x2 + (-1))) v2 H locs ls (inr_wr _) hM hS (lsub hl [0, 1] rfl) hrun
  refine s_entry hargs hM (c_r (c_i c_0)) (Nat.le_of_ble_eq_true rfl) (fun H locs ls hM hS hl => ?_)
  replace hl : lvh ls 4 [(0, vr x0), (1, vi x1)] := hl
  unfold f_X4_slabAtPlace at hrun
  refine lv_iload_n hx hb dX4_slabAtPlace_0 rfl (la hl 1 rfl) ?_
  refine s_if_ge (tgt := 6) hx hb dX4_slabAtPlace_1 (by decide) i_x1 (fun cd => ?_) (fun cd => ?_)
  · replace hrun := it_pos cd hrun
    refine lv_iload_n hx hb dX4_slabAtPlace_6 rfl (la hl 1 rfl) ?_
    refine t_istore_n (lv' := [(2, vi x1), (0, vr x0), (1, vi x1)]) hx hb dX4_slabAtPlace_7 rfl hl (by decide) rfl (fun ls hl => ?_)
    refine s_aload_n hx hb dX4_slabAtPlace_8 rfl (la hl 1 rfl) ?_
    obtain ⟨v1, g1, hrun⟩ := bd hrun
    refine s_getfr hx hb hts kl_4 hown hE.1 hM (ci := 4) rfl (by decide) rfl (k := 0) (by decide) rfl (hts _ kw_267) g1 dX4_slabAtPlace_9 ?_
    refine t_astore_n (lv' := [(3, vr v1), (2, vi x1), (0, vr x0), (1, vi x1)]) hx hb dX4_slabAtPlace_12 rfl hl (by decide) rfl (fun ls hl => ?_)
    exact lp13 fuel h x1 v1 H locs ls i_x1 hM hS (lsub hl [1, 0] rfl) hrun
  · replace hrun := it_neg cd hrun
    refine s_null hx hb dX4_slabAtPlace_4 ?_
    exact s_aret hx hb hr (Or.inl ⟨_, rfl⟩) hlocks hM hS hrun (Nat.le_of_ble_eq_true rfl) (Nat.le_of_ble_eq_true rfl) dX4_slabAtPlace_5
