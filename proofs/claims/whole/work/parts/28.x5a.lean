def f_X5_init (h : Hp) (x0 : Int) : Option (Int × Hp) :=
  Option.bind (ckd h 5 x0) fun u1 =>
  Option.bind (nwo h 0) fun h2 =>
  Option.bind (ckd h2 0 (hN h : Int)) fun u4 =>
  Option.bind (f_X0_init h2 (hN h : Int)) fun r3 =>
  Option.bind (ptf r3.2 5 0 x0 (hN h : Int)) fun h5 =>
  Option.bind (nwa h5 13 256 256) fun h6 =>
  Option.bind (ptf h6 5 1 x0 (hN h5 : Int)) fun h7 =>
  Option.bind (nwa h7 11 8 8) fun h8 =>
  Option.bind (ptf h8 5 2 x0 (hN h7 : Int)) fun h9 =>
  some (0, h9)
abbrev w_X5_init : List Cond := Cond.code yX5_init cX5_init 1 none :: BW
abbrev rm_X5_init : Room := { frames := 2, cells := 4, slots := 522, locals := 44 }
set_option maxHeartbeats 4000000 in
set_option maxRecDepth 100000 in
theorem c_X5_init (l : Launch) (D : va_G) (G : Nat → ClassId) (base : Nat) (h h' : Hp) (x0 : Int) (rv : Int) (hrun : f_X5_init h x0 = some (rv, h')) : Met l yX5_init w_X5_init rm_X5_init (PC l D G base h [vr x0]) (QR D G base none True h') rm_X5_init.cells rm_X5_init.slots (Ab base) := by
  refine Met.ofW (cc := cX5_init) (maxL := 1) (ret := none) (by decide) rfl ?_
  intro p e s m args below meth c s₁ B hml hv
  obtain ⟨hargs, hE, hM⟩ := hv
  have hx := B.exec
  have hb := B.bytes
  have hr := B.returns
  have hts0 := atoms_spec (ws := w_X5_init) B.pre
  have hts : ∀ w ∈ BW, w.before args s = true := fun w hw => hts0 w (List.mem_cons_of_mem _ hw)
  have hown : s.vm.findClass RX5 = some m.cls := findClass_of_methodNamed B.named
  have hlocks := B.notSynchronized
  have hin : meth.name = "<init>" := (name_of_methodNamed B.named B.method).1
  refine s_entry hargs hM (c_r c_0) (Nat.le_of_ble_eq_true rfl) (fun H locs ls hM hS hl => ?_)
  replace hl : lvh ls 1 [(0, vr x0)] := hl
  unfold f_X5_init at hrun
  refine s_aload_n hx hb dX5_init_0 rfl (la hl 0 rfl) ?_
  obtain ⟨u1, g1, hrun⟩ := bd hrun
  refine s_objInit hx hb hml hown hts kw_58 kw_59 kw_60 g1 hl.1.1 dX5_init_1 (Nat.le_of_ble_eq_true rfl) (cN c_0 (Nat.le_of_ble_eq_true rfl)) ?_
  refine s_aload_n hx hb dX5_init_4 rfl (la hl 0 rfl) ?_
  obtain ⟨h2, g2, hrun⟩ := bd hrun
  refine s_new hx hb hts kl_0 tyX0 tyX0_ok hown (hts _ kw_61) (hts _ kw_62) (hts _ kw_38) hE.1 hM hS hE.2.1 (ci := 0) rfl (by decide) rfl (by decide) g2 (Nat.le_of_ble_eq_true rfl) (Nat.le_of_ble_eq_true rfl) dX5_init_5 (fun H hM hS => ?_)
  refine lv_dup hx hb dX5_init_8 (vr_cat _) ?_
  obtain ⟨u4, g4, hrun⟩ := bd hrun
  obtain ⟨r3, g3, hrun⟩ := bd hrun
  refine s_callI (n := 0) (rest := [vr (hN h : Int), vr x0]) [] hx hb hml hown hts hE hM hS (c_X0_init l D G base h2 r3.2 (hN h : Int) r3.1 g3) kw_65 kw_63 kw_38 kw_64 rfl (by decide +kernel) ⟨Nat.le_of_ble_eq_true rfl, Nat.le_of_ble_eq_true rfl⟩ g4 rfl hl.1.1 rfl (c8 (c_r (c_r c_0)) (Nat.le_of_ble_eq_true rfl)) dX5_init_9 ⟨Nat.le_of_ble_eq_true rfl, Nat.le_of_ble_eq_true rfl⟩ (fun H locs i_r3 hM hS => ?_)
  refine W.eq (g2 := F0 m 12 ls [vr (hN h : Int), vr x0]) rfl ?_
  obtain ⟨h5, g5, hrun⟩ := bd hrun
  refine s_putF (b := true) hx hb hts kl_5 tyX5 tyX5_ok nmX5 hown hE.1 hM hS (ci := 5) rfl (by decide) rfl (k := 0) (by decide) rfl (hts _ kw_83) rfl hin rfl (nar_o _) (fit_o _) (fun q => by cases q) g5 dX5_init_12 (fun H locs hM hS => ?_)
  refine s_aload_n hx hb dX5_init_15 rfl (la hl 0 rfl) ?_
  refine lv_sipush (v := Int32.ofInt 256) hx hb dX5_init_16 (by decide) ?_
  obtain ⟨h6, g6, hrun⟩ := bd hrun
  refine s_newq hx hb (kd := 13) (bound := 256) hown (hts _ kw_79) hE.2.2.2.1.1 hE.1 (by decide) (by decide) rfl hM hS hE.2.1 (by decide) g6 (by decide) (Nat.le_of_ble_eq_true rfl) (Nat.le_of_ble_eq_true rfl) dX5_init_19 (fun H hM hS => ?_)
  obtain ⟨h7, g7, hrun⟩ := bd hrun
  refine s_putF (b := true) hx hb hts kl_5 tyX5 tyX5_ok nmX5 hown hE.1 hM hS (ci := 5) rfl (by decide) rfl (k := 1) (by decide) rfl (hts _ kw_84) rfl hin rfl (nar_a _) (fit_a _) (fun q => by cases q) g7 dX5_init_22 (fun H locs hM hS => ?_)
  refine s_aload_n hx hb dX5_init_25 rfl (la hl 0 rfl) ?_
  refine lv_bipush (v := Int32.ofInt 8) hx hb dX5_init_26 (by decide) ?_
  obtain ⟨h8, g8, hrun⟩ := bd hrun
  refine s_newq hx hb (kd := 11) (bound := 8) hown (hts _ kw_81) hE.2.2.2.1.2.1 hE.1 (by decide) (by decide) rfl hM hS hE.2.1 (by decide) g8 (by decide) (Nat.le_of_ble_eq_true rfl) (Nat.le_of_ble_eq_true rfl) dX5_init_28 (fun H hM hS => ?_)
  obtain ⟨h9, g9, hrun⟩ := bd hrun
  refine s_putF (b := true) hx hb hts kl_5 tyX5 tyX5_ok nmX5 hown hE.1 hM hS (ci := 5) rfl (by decide) rfl (k := 2) (by decide) rfl (hts _ kw_85) rfl hin rfl (nar_a _) (fit_a _) (fun q => by cases q) g9 dX5_init_31 (fun H locs hM hS => ?_)
  exact s_vret hx hb hr hlocks hM hS hrun (Nat.le_of_ble_eq_true rfl) (Nat.le_of_ble_eq_true rfl) dX5_init_34
def f_X5_slabAt_j24 (h : Hp) (s0 : Int) : Option (Int × Hp) :=
  some (s0, h)
def f_X5_slabAt_j10 (h : Hp) : Option (Int × Hp) :=
  f_X5_slabAt_j24 h (-1)
def f_X5_slabAt (h : Hp) (x0 x1 : Int) : Option (Int × Hp) :=
  if x1 < 0 then (
    f_X5_slabAt_j10 h
  ) else (
    if x1 < 262144 then (
      Option.bind (gtf h 5 1 x0) fun v1 =>
      Option.bind (idv x1 1024) fun v2 =>
      Option.bind (ald h 13 v1 v2) fun v3 =>
      f_X5_slabAt_j24 h v3
    ) else (
      f_X5_slabAt_j10 h
    )
  )
abbrev w_X5_slabAt : List Cond := Cond.code yX5_slabAt cX5_slabAt 2 (some (.object "SlabHouse$Slab")) :: BW
abbrev rm_X5_slabAt : Room := { frames := 0, cells := 0, slots := 0, locals := 0 }
set_option maxHeartbeats 4000000 in
set_option maxRecDepth 100000 in
theorem c_X5_slabAt (l : Launch) (D : va_G) (G : Nat → ClassId) (base : Nat) (h h' : Hp) (x0 x1 : Int) (rv : Int) (i_x1 : inr x1) (hrun : f_X5_slabAt h x0 x1 = some (rv, h')) : Met l yX5_slabAt w_X5_slabAt rm_X5_slabAt (PC l D G base h [vr x0, vi x1]) (QR D G base (some (vr rv)) True h') rm_X5_slabAt.cells rm_X5_slabAt.slots (Ab base) := by
  refine Met.ofW (cc := cX5_slabAt) (maxL := 2) (ret := (some (.object "SlabHouse$Slab"))) (by decide) rfl ?_
  intro p e s m args below meth c s₁ B hml hv
  obtain ⟨hargs, hE, hM⟩ := hv
  have hx := B.exec
  have hb := B.bytes
  have hr := B.returns
  have hts0 := atoms_spec (ws := w_X5_slabAt) B.pre
  have hts : ∀ w ∈ BW, w.before args s = true := fun w hw => hts0 w (List.mem_cons_of_mem _ hw)
  have hown : s.vm.findClass RX5 = some m.cls := findClass_of_methodNamed B.named
  have hlocks := B.notSynchronized
  have j24 : ∀ (h : Hp) (s0 : Int) (H : Heap) (locs : List Loc) (ls : Array Slot), SM D G base h H → va_S (Ab base) s.heap H locs → lvh ls 2 [] → f_X5_slabAt_j24 h s0 = some (rv, h') → W p l e (headSpec w_X5_slabAt rm_X5_slabAt).room s m args below meth c H locs 0 0 (QF D G base rv h' below args s 0 0) (F0 m 24 ls [vr s0]) := by
    intro h s0 H locs ls hM hS hl hrun
    unfold f_X5_slabAt_j24 at hrun
    exact s_aret hx hb hr (Or.inl ⟨_, rfl⟩) hlocks hM hS hrun (Nat.le_of_ble_eq_true rfl) (Nat.le_of_ble_eq_true rfl) dX5_slabAt_24
  have j10 : ∀ (h : Hp) (H : Heap) (locs : List Loc) (ls : Array Slot), SM D G base h H → va_S (Ab base) s.heap H locs → lvh ls 2 [] → f_X5_slabAt_j10 h = some (rv, h') → W p l e (headSpec w_X5_slabAt rm_X5_slabAt).room s m args below meth c H locs 0 0 (QF D G base rv h' below args s 0 0) (F0 m 10 ls []) := by
    intro h H locs ls hM hS hl hrun
    unfold f_X5_slabAt_j10 at hrun
    refine s_null hx hb dX5_slabAt_10 ?_
    refine lv_goto (tgt := 24) hx hb dX5_slabAt_11 (by decide) ?_
    exact j24 h (-1) H locs ls hM hS (lsub hl [] rfl) hrun
  refine s_entry hargs hM (c_r (c_i c_0)) (Nat.le_of_ble_eq_true rfl) (fun H locs ls hM hS hl => ?_)
  replace hl : lvh ls 2 [(0, vr x0), (1, vi x1)] := hl
  unfold f_X5_slabAt at hrun
  refine lv_iload_n hx hb dX5_slabAt_0 rfl (la hl 1 rfl) ?_
  refine s_if_lt (tgt := 10) hx hb dX5_slabAt_1 (by decide) i_x1 (fun cd => ?_) (fun cd => ?_)
  · replace hrun := it_pos cd hrun
    exact j10 h H locs ls hM hS (lsub hl [] rfl) hrun
  · replace hrun := it_neg cd hrun
    refine lv_iload_n hx hb dX5_slabAt_4 rfl (la hl 1 rfl) ?_
    refine s_ldc (n := 262144) hx hb hown (hts _ kw_139) (by decide) dX5_slabAt_5 ?_
    refine s_icmp_lt (tgt := 14) hx hb dX5_slabAt_7 (by decide) i_x1 (by decide) (fun cd => ?_) (fun cd => ?_)
    · replace hrun := it_pos cd hrun
      refine s_aload_n hx hb dX5_slabAt_14 rfl (la hl 0 rfl) ?_
      obtain ⟨v1, g1, hrun⟩ := bd hrun
      refine s_getfr hx hb hts kl_5 hown hE.1 hM (ci := 5) rfl (by decide) rfl (k := 1) (by decide) rfl (hts _ kw_84) g1 dX5_slabAt_15 ?_
      refine lv_iload_n hx hb dX5_slabAt_18 rfl (la hl 1 rfl) ?_
      refine lv_sipush (v := Int32.ofInt 1024) hx hb dX5_slabAt_19 (by decide) ?_
      obtain ⟨v2, g2, hrun⟩ := bd hrun
      refine s_idiv hx hb i_x1 (by decide) g2 dX5_slabAt_22 ?_
      have i_v2 : inr v2 := inr_dv g2
      obtain ⟨v3, g3, hrun⟩ := bd hrun
      refine s_aald hx hb hE.1 hM (kd := 13) (by decide) rfl i_v2 g3 dX5_slabAt_23 ?_
      exact j24 h v3 H locs ls hM hS (lsub hl [] rfl) hrun
    · replace hrun := it_neg cd hrun
      exact j10 h H locs ls hM hS (lsub hl [] rfl) hrun
def f_X5_setPages_s27 (k27 : Hp → Int → Int → Int → Int → Option (Int × Hp)) (h : Hp) (x0 x2 x3 x4 : Int) : Option (Int × Hp) :=
  if x3 ≤ x4 then (
    some (0, h)
  ) else (
    Option.bind (gtf h 5 1 x0) fun v5 =>
    Option.bind (asr h 13 v5 x4 x2) fun h6 =>
    k27 h6 x0 x2 x3 (wr (x4 + 1))
  )
def f_X5_setPages_b27 : Nat → Hp → Int → Int → Int → Int → Option (Int × Hp)
  | 0, _, _, _, _, _ => none
  | n + 1, h, x0, x2, x3, x4 => f_X5_setPages_s27 (f_X5_setPages_b27 n) h x0 x2 x3 x4
def f_X5_setPages (h : Hp) (x0 x1 x2 : Int) : Option (Int × Hp) :=
  Option.bind (gtf h 3 1 x1) fun v1 =>
  Option.bind (gtf h 3 0 x1) fun v2 =>
  Option.bind (gtf h 1 3 v2) fun v3 =>
  Option.bind (gtf h 3 1 x1) fun v4 =>
  f_X5_setPages_b27 fuel h x0 x2 (imn (wr (v1 + (ish 1 v3))) 256) v4
abbrev w_X5_setPages : List Cond := Cond.code yX5_setPages cX5_setPages 5 none :: BW
abbrev rm_X5_setPages : Room := { frames := 1, cells := 0, slots := 0, locals := 13 }
set_option maxHeartbeats 4000000 in
set_option maxRecDepth 100000 in
theorem c_X5_setPages (l : Launch) (D : va_G) (G : Nat → ClassId) (base : Nat) (h h' : Hp) (x0 x1 x2 : Int) (rv : Int) (hrun : f_X5_setPages h x0 x1 x2 = some (rv, h')) : Met l yX5_setPages w_X5_setPages rm_X5_setPages (PC l D G base h [vr x0, vr x1, vr x2]) (QR D G base none True h') rm_X5_setPages.cells rm_X5_setPages.slots (Ab base) := by
  refine Met.ofW (cc := cX5_setPages) (maxL := 5) (ret := none) (by decide) rfl ?_
  intro p e s m args below meth c s₁ B hml hv
  obtain ⟨hargs, hE, hM⟩ := hv
  have hx := B.exec
  have hb := B.bytes
  have hr := B.returns
  have hts0 := atoms_spec (ws := w_X5_setPages) B.pre
  have hts : ∀ w ∈ BW, w.before args s = true := fun w hw => hts0 w (List.mem_cons_of_mem _ hw)
  have hown : s.vm.findClass RX5 = some m.cls := findClass_of_methodNamed B.named
  have hlocks := B.notSynchronized
  have lp27 : ∀ (n27 : Nat) (h : Hp) (x0 x2 x3 x4 : Int) (H : Heap) (locs : List Loc) (ls : Array Slot), inr x3 → inr x4 → SM D G base h H → va_S (Ab base) s.heap H locs → lvh ls 5 [(0, vr x0), (2, vr x2), (3, vi x3), (4, vi x4)] → f_X5_setPages_b27 n27 h x0 x2 x3 x4 = some (rv, h') → W p l e (headSpec w_X5_setPages rm_X5_setPages).room s m args below meth c H locs 0 0 (QV D G base rv h' below args s 0 0) (F0 m 27 ls []) := by
    intro n27
    induction n27 with
    | zero => intro h x0 x2 x3 x4 H locs ls i_x3 i_x4 hM hS hl hrun; exact absurd hrun (fun q => nomatch (show (none : Option (Int × Hp)) = some (rv, h') from q))
    | succ n27 ih27 =>
      intro h x0 x2 x3 x4 H locs ls i_x3 i_x4 hM hS hl hrun
      replace hrun : f_X5_setPages_s27 (f_X5_setPages_b27 n27) h x0 x2 x3 x4 = some (rv, h') := hrun
      unfold f_X5_setPages_s27 at hrun
      refine lv_iload hx hb dX5_setPages_27 (la hl 3 rfl) ?_
      refine lv_iload_n hx hb dX5_setPages_29 rfl (la hl 2 rfl) ?_
      refine s_icmp_ge (tgt := 47) hx hb dX5_setPages_30 (by decide) i_x4 i_x3 (fun cd => ?_) (fun cd => ?_)
      · replace hrun := it_pos cd hrun
        exact s_vret hx hb hr hlocks hM hS hrun (Nat.le_of_ble_eq_true rfl) (Nat.le_of_ble_eq_true rfl) dX5_setPages_47
      · replace hrun := it_neg cd hrun
        refine s_aload_n hx hb dX5_setPages_33 rfl (la hl 0 rfl) ?_
        obtain ⟨v5, g5, hrun⟩ := bd hrun
        refine s_getfr hx hb hts kl_5 hown hE.1 hM (ci := 5) rfl (by decide) rfl (k := 1) (by decide) rfl (hts _ kw_84) g5 dX5_setPages_34 ?_
        refine lv_iload hx hb dX5_setPages_37 (la hl 3 rfl) ?_
        refine s_aload_n hx hb dX5_setPages_39 rfl (la hl 1 rfl) ?_
        obtain ⟨h6, g6, hrun⟩ := bd hrun
        refine s_aast hx hb hE.1 hM hS (kd := 13) (ci := 3) (by decide) (by decide) rfl rfl rfl i_x4 g6 dX5_setPages_40 (fun H locs hM hS => ?_)
        refine t_iinc (lv' := [(4, vi (wr (x4 + 1))), (0, vr x0), (2, vr x2), (3, vi x3)]) hx hb dX5_setPages_41 hl (k := 3) rfl (by decide) rfl rfl (fun ls hl => ?_)
        refine lv_goto (tgt := 27) hx hb dX5_setPages_44 (by decide) ?_
        exact ih27 h6 x0 x2 x3 (wr (x4 + 1)) H locs ls i_x3 (inr_wr _) hM hS (lsub hl [1, 2, 3, 0] rfl) hrun
  refine s_entry hargs hM (c_r (c_r (c_r c_0))) (Nat.le_of_ble_eq_true rfl) (fun H locs ls hM hS hl => ?_)
  replace hl : lvh ls 5 [(0, vr x0), (1, vr x1), (2, vr x2)] := hl
  unfold f_X5_setPages at hrun
  refine s_aload_n hx hb dX5_setPages_0 rfl (la hl 1 rfl) ?_
  obtain ⟨v1, g1, hrun⟩ := bd hrun
  refine s_getfi hx hb hts kl_3 hown hE.1 hM (ci := 3) rfl (by decide) rfl (k := 1) (by decide) rfl (hts _ kw_457) g1 dX5_setPages_1 ?_
  have i_v1 : inr v1 := gtf_i hM g1 (by decide) rfl
  refine lv_iconst (v := Int32.ofInt 1) hx hb dX5_setPages_4 rfl ?_
  refine s_aload_n hx hb dX5_setPages_5 rfl (la hl 1 rfl) ?_
  obtain ⟨v2, g2, hrun⟩ := bd hrun
  refine s_getfr hx hb hts kl_3 hown hE.1 hM (ci := 3) rfl (by decide) rfl (k := 0) (by decide) rfl (hts _ kw_455) g2 dX5_setPages_6 ?_
  obtain ⟨v3, g3, hrun⟩ := bd hrun
  refine s_getfi hx hb hts kl_1 hown hE.1 hM (ci := 1) rfl (by decide) rfl (k := 3) (by decide) rfl (hts _ kw_293) g3 dX5_setPages_9 ?_
  have i_v3 : inr v3 := gtf_i hM g3 (by decide) rfl
  refine s_ishl hx hb dX5_setPages_12 ?_
  refine s_iadd hx hb dX5_setPages_13 ?_
  refine lv_sipush (v := Int32.ofInt 256) hx hb dX5_setPages_14 (by decide) ?_
  refine s_min hx hb hml hl.1.1 hown hts kw_116 kw_117 kw_50 kw_118 (Nat.le_of_ble_eq_true rfl) (cN c_0 (Nat.le_of_ble_eq_true rfl)) (Nat.le_of_ble_eq_true rfl) (Nat.le_of_ble_eq_true rfl) (inr_wr _) (by decide) dX5_setPages_17 ?_
  refine t_istore_n (lv' := [(3, vi (imn (wr (v1 + (ish 1 v3))) 256)), (0, vr x0), (1, vr x1), (2, vr x2)]) hx hb dX5_setPages_20 rfl hl (by decide) rfl (fun ls hl => ?_)
  refine s_aload_n hx hb dX5_setPages_21 rfl (la hl 2 rfl) ?_
  obtain ⟨v4, g4, hrun⟩ := bd hrun
  refine s_getfi hx hb hts kl_3 hown hE.1 hM (ci := 3) rfl (by decide) rfl (k := 1) (by decide) rfl (hts _ kw_457) g4 dX5_setPages_22 ?_
  have i_v4 : inr v4 := gtf_i hM g4 (by decide) rfl
  refine t_istore (lv' := [(4, vi v4), (3, vi (imn (wr (v1 + (ish 1 v3))) 256)), (0, vr x0), (1, vr x1), (2, vr x2)]) hx hb dX5_setPages_25 hl (by decide) rfl (fun ls hl => ?_)
  exact lp27 fuel h x0 x2 (imn (wr (v1 + (ish 1 v3))) 256) v4 H locs ls (inr_mn (inr_wr _) (by decide)) i_v4 hM hS (lsub hl [2, 4, 1, 0] rfl) hrun
def f_X5_giveBack (h : Hp) (x0 x1 : Int) : Option (Int × Hp) :=
  Option.bind (gtf h 3 0 x1) fun v1 =>
  Option.bind (ckd h 1 v1) fun u3 =>
  Option.bind (f_X1_unlist h v1 x1) fun r2 =>
  Option.bind (gtf r2.2 3 0 x1) fun v4 =>
  Option.bind (gtf r2.2 1 9 v4) fun v5 =>
  Option.bind (ptf r2.2 1 9 v4 (wr (v5 - 1))) fun h6 =>
  Option.bind (ckd h6 5 x0) fun u8 =>
  Option.bind (f_X5_setPages h6 x0 x1 (-1)) fun r7 =>
  Option.bind (gtf r7.2 5 0 x0) fun v9 =>
  Option.bind (gtf r7.2 3 1 x1) fun v10 =>
  Option.bind (gtf r7.2 3 0 x1) fun v11 =>
  Option.bind (gtf r7.2 1 3 v11) fun v12 =>
  Option.bind (ckd r7.2 0 v9) fun u14 =>
  Option.bind (f_X0_giveBack r7.2 v9 v10 v12) fun r13 =>
  Option.bind (gtf r13.2 3 0 x1) fun v15 =>
  Option.bind (gtf r13.2 1 3 v15) fun v16 =>
  some (ish 1 v16, r13.2)
abbrev w_X5_giveBack : List Cond := Cond.code yX5_giveBack cX5_giveBack 2 (some .int) :: BW
abbrev rm_X5_giveBack : Room := { frames := 2, cells := 0, slots := 0, locals := 46 }
set_option maxHeartbeats 4000000 in
set_option maxRecDepth 100000 in
theorem c_X5_giveBack (l : Launch) (D : va_G) (G : Nat → ClassId) (base : Nat) (h h' : Hp) (x0 x1 : Int) (rv : Int) (hrun : f_X5_giveBack h x0 x1 = some (rv, h')) : Met l yX5_giveBack w_X5_giveBack rm_X5_giveBack (PC l D G base h [vr x0, vr x1]) (QR D G base (some (vi rv)) (inr rv) h') rm_X5_giveBack.cells rm_X5_giveBack.slots (Ab base) := by
  refine Met.ofW (cc := cX5_giveBack) (maxL := 2) (ret := (some .int)) (by decide) rfl ?_
  intro p e s m args below meth c s₁ B hml hv
  obtain ⟨hargs, hE, hM⟩ := hv
  have hx := B.exec
  have hb := B.bytes
  have hr := B.returns
  have hts0 := atoms_spec (ws := w_X5_giveBack) B.pre
  have hts : ∀ w ∈ BW, w.before args s = true := fun w hw => hts0 w (List.mem_cons_of_mem _ hw)
  have hown : s.vm.findClass RX5 = some m.cls := findClass_of_methodNamed B.named
  have hlocks := B.notSynchronized
  refine s_entry hargs hM (c_r (c_r c_0)) (Nat.le_of_ble_eq_true rfl) (fun H locs ls hM hS hl => ?_)
  replace hl : lvh ls 2 [(0, vr x0), (1, vr x1)] := hl
  unfold f_X5_giveBack at hrun
  refine s_aload_n hx hb dX5_giveBack_0 rfl (la hl 1 rfl) ?_
  obtain ⟨v1, g1, hrun⟩ := bd hrun
  refine s_getfr hx hb hts kl_3 hown hE.1 hM (ci := 3) rfl (by decide) rfl (k := 0) (by decide) rfl (hts _ kw_455) g1 dX5_giveBack_1 ?_
  refine s_aload_n hx hb dX5_giveBack_4 rfl (la hl 1 rfl) ?_
  obtain ⟨u3, g3, hrun⟩ := bd hrun
  obtain ⟨r2, g2, hrun⟩ := bd hrun
  refine s_callV (n := 1) (rest := []) [vr x1] hx hb hml hown hts hE hM hS (c_X1_unlist l D G base h r2.2 v1 x1 r2.1 g2) kw_107 kw_104 kw_45 kw_105 kw_106 (by decide +kernel) ⟨Nat.le_of_ble_eq_true rfl, Nat.le_of_ble_eq_true rfl⟩ rfl rfl (by decide) g3 rfl hl.1.1 rfl (c8 c_0 (Nat.le_of_ble_eq_true rfl)) dX5_giveBack_5 ⟨Nat.le_of_ble_eq_true rfl, Nat.le_of_ble_eq_true rfl⟩ (fun H locs i_r2 hM hS => ?_)
  refine W.eq (g2 := F0 m 8 ls []) rfl ?_
  refine s_aload_n hx hb dX5_giveBack_8 rfl (la hl 1 rfl) ?_
  obtain ⟨v4, g4, hrun⟩ := bd hrun
  refine s_getfr hx hb hts kl_3 hown hE.1 hM (ci := 3) rfl (by decide) rfl (k := 0) (by decide) rfl (hts _ kw_455) g4 dX5_giveBack_9 ?_
  refine lv_dup hx hb dX5_giveBack_12 (vr_cat _) ?_
  obtain ⟨v5, g5, hrun⟩ := bd hrun
  refine s_getfi hx hb hts kl_1 hown hE.1 hM (ci := 1) rfl (by decide) rfl (k := 9) (by decide) rfl (hts _ kw_306) g5 dX5_giveBack_13 ?_
  have i_v5 : inr v5 := gtf_i hM g5 (by decide) rfl
  refine lv_iconst (v := Int32.ofInt 1) hx hb dX5_giveBack_16 rfl ?_
  refine s_isub hx hb dX5_giveBack_17 ?_
  obtain ⟨h6, g6, hrun⟩ := bd hrun
  refine s_put (b := false) hx hb hts kl_1 tyX1 tyX1_ok nmX1 hown hE.1 hM hS (ci := 1) rfl (by decide) rfl (k := 9) (by decide) rfl (hts _ kw_306) rfl (vp_nar_int _) rfl (fun _ => (inr_wr _)) g6 dX5_giveBack_18 (fun H locs hM hS => ?_)
  refine s_aload_n hx hb dX5_giveBack_21 rfl (la hl 0 rfl) ?_
  refine s_aload_n hx hb dX5_giveBack_22 rfl (la hl 1 rfl) ?_
  refine s_null hx hb dX5_giveBack_23 ?_
  obtain ⟨u8, g8, hrun⟩ := bd hrun
  obtain ⟨r7, g7, hrun⟩ := bd hrun
  refine s_callV (n := 2) (rest := []) [vr x1, vr (-1)] hx hb hml hown hts hE hM hS (c_X5_setPages l D G base h6 r7.2 x0 x1 (-1) r7.1 g7) kw_115 kw_112 kw_37 kw_114 kw_1 (by decide +kernel) ⟨Nat.le_of_ble_eq_true rfl, Nat.le_of_ble_eq_true rfl⟩ rfl rfl (by decide) g8 rfl hl.1.1 rfl (c8 c_0 (Nat.le_of_ble_eq_true rfl)) dX5_giveBack_24 ⟨Nat.le_of_ble_eq_true rfl, Nat.le_of_ble_eq_true rfl⟩ (fun H locs i_r7 hM hS => ?_)
  refine W.eq (g2 := F0 m 27 ls []) rfl ?_
  refine s_aload_n hx hb dX5_giveBack_27 rfl (la hl 0 rfl) ?_
  obtain ⟨v9, g9, hrun⟩ := bd hrun
  refine s_getfr hx hb hts kl_5 hown hE.1 hM (ci := 5) rfl (by decide) rfl (k := 0) (by decide) rfl (hts _ kw_83) g9 dX5_giveBack_28 ?_
  refine s_aload_n hx hb dX5_giveBack_31 rfl (la hl 1 rfl) ?_
  obtain ⟨v10, g10, hrun⟩ := bd hrun
  refine s_getfi hx hb hts kl_3 hown hE.1 hM (ci := 3) rfl (by decide) rfl (k := 1) (by decide) rfl (hts _ kw_457) g10 dX5_giveBack_32 ?_
  have i_v10 : inr v10 := gtf_i hM g10 (by decide) rfl
  refine s_aload_n hx hb dX5_giveBack_35 rfl (la hl 1 rfl) ?_
  obtain ⟨v11, g11, hrun⟩ := bd hrun
  refine s_getfr hx hb hts kl_3 hown hE.1 hM (ci := 3) rfl (by decide) rfl (k := 0) (by decide) rfl (hts _ kw_455) g11 dX5_giveBack_36 ?_
  obtain ⟨v12, g12, hrun⟩ := bd hrun
  refine s_getfi hx hb hts kl_1 hown hE.1 hM (ci := 1) rfl (by decide) rfl (k := 3) (by decide) rfl (hts _ kw_293) g12 dX5_giveBack_39 ?_
  have i_v12 : inr v12 := gtf_i hM g12 (by decide) rfl
  obtain ⟨u14, g14, hrun⟩ := bd hrun
  obtain ⟨r13, g13, hrun⟩ := bd hrun
  refine s_callV (n := 2) (rest := []) [vi v10, vi v12] hx hb hml hown hts hE hM hS (c_X0_giveBack l D G base r7.2 r13.2 v9 v10 v12 r13.1 i_v10 i_v12 g13) kw_122 kw_119 kw_38 kw_120 kw_121 (by decide +kernel) ⟨Nat.le_of_ble_eq_true rfl, Nat.le_of_ble_eq_true rfl⟩ rfl rfl (by decide) g14 rfl hl.1.1 rfl (c8 c_0 (Nat.le_of_ble_eq_true rfl)) dX5_giveBack_42 ⟨Nat.le_of_ble_eq_true rfl, Nat.le_of_ble_eq_true rfl⟩ (fun H locs i_r13 hM hS => ?_)
  refine W.eq (g2 := F0 m 45 ls []) rfl ?_
  refine lv_iconst (v := Int32.ofInt 1) hx hb dX5_giveBack_45 rfl ?_
  refine s_aload_n hx hb dX5_giveBack_46 rfl (la hl 1 rfl) ?_
  obtain ⟨v15, g15, hrun⟩ := bd hrun
  refine s_getfr hx hb hts kl_3 hown hE.1 hM (ci := 3) rfl (by decide) rfl (k := 0) (by decide) rfl (hts _ kw_455) g15 dX5_giveBack_47 ?_
  obtain ⟨v16, g16, hrun⟩ := bd hrun
  refine s_getfi hx hb hts kl_1 hown hE.1 hM (ci := 1) rfl (by decide) rfl (k := 3) (by decide) rfl (hts _ kw_293) g16 dX5_giveBack_50 ?_
  have i_v16 : inr v16 := gtf_i hM g16 (by decide) rfl
  refine s_ishl hx hb dX5_giveBack_53 ?_
  exact s_iret hx hb hr hlocks hM hS (inr_sh _ _) hrun (Nat.le_of_ble_eq_true rfl) (Nat.le_of_ble_eq_true rfl) dX5_giveBack_54
def f_X5_reap_s38 (k4 : Hp → Int → Int → Int → Option (Int × Hp)) (k38 : Hp → Int → Int → Int → Int → Option (Int × Hp)) (h : Hp) (x0 x1 x2 x3 : Int) : Option (Int × Hp) :=
  if x3 < 0 then (
    k4 h x0 x1 (wr (x2 + 1))
  ) else (
    Option.bind (gtf h 3 6 x3) fun v8 =>
    Option.bind (ckd h 5 x0) fun u10 =>
    Option.bind (f_X5_giveBack h x0 x3) fun r9 =>
    k38 r9.2 x0 (wr (x1 + r9.1)) x2 v8
  )
def f_X5_reap_b38 (k4 : Hp → Int → Int → Int → Option (Int × Hp)) : Nat → Hp → Int → Int → Int → Int → Option (Int × Hp)
  | 0, _, _, _, _, _ => none
  | n + 1, h, x0, x1, x2, x3 => f_X5_reap_s38 k4 (f_X5_reap_b38 k4 n) h x0 x1 x2 x3
def f_X5_reap_j37 (k4 : Hp → Int → Int → Int → Option (Int × Hp)) (h : Hp) (x0 x1 x2 s0 : Int) : Option (Int × Hp) :=
  f_X5_reap_b38 k4 fuel h x0 x1 x2 s0
def f_X5_reap_s4 (k4 : Hp → Int → Int → Int → Option (Int × Hp)) (h : Hp) (x0 x1 x2 : Int) : Option (Int × Hp) :=
  if 8 ≤ x2 then (
    some (x1, h)
  ) else (
    Option.bind (gtf h 5 2 x0) fun v1 =>
    Option.bind (ald h 11 v1 x2) fun v2 =>
    if 0 ≤ v2 then (
      Option.bind (gtf h 5 2 x0) fun v3 =>
      Option.bind (ald h 11 v3 x2) fun v4 =>
      Option.bind (gtf h 1 12 v4) fun v5 =>
      Option.bind (ald h 14 v5 2) fun v6 =>
      Option.bind (gtf h 4 0 v6) fun v7 =>
      f_X5_reap_j37 k4 h x0 x1 x2 v7
    ) else (
      f_X5_reap_j37 k4 h x0 x1 x2 (-1)
    )
  )
def f_X5_reap_b4 : Nat → Hp → Int → Int → Int → Option (Int × Hp)
  | 0, _, _, _, _ => none
  | n + 1, h, x0, x1, x2 => f_X5_reap_s4 (f_X5_reap_b4 n) h x0 x1 x2
def f_X5_reap (h : Hp) (x0 : Int) : Option (Int × Hp) :=
  f_X5_reap_b4 fuel h x0 0 0
abbrev w_X5_reap : List Cond := Cond.code yX5_reap cX5_reap 5 (some .int) :: BW
abbrev rm_X5_reap : Room := { frames := 3, cells := 0, slots := 0, locals := 67 }
set_option maxHeartbeats 4000000 in
set_option maxRecDepth 100000 in
theorem c_X5_reap (l : Launch) (D : va_G) (G : Nat → ClassId) (base : Nat) (h h' : Hp) (x0 : Int) (rv : Int) (hrun : f_X5_reap h x0 = some (rv, h')) : Met l yX5_reap w_X5_reap rm_X5_reap (PC l D G base h [vr x0]) (QR D G base (some (vi rv)) (inr rv) h') rm_X5_reap.cells rm_X5_reap.slots (Ab base) := by
  refine Met.ofW (cc := cX5_reap) (maxL := 5) (ret := (some .int)) (by decide) rfl ?_
  intro p e s m args below meth c s₁ B hml hv
  obtain ⟨hargs, hE, hM⟩ := hv
  have hx := B.exec
  have hb := B.bytes
  have hr := B.returns
  have hts0 := atoms_spec (ws := w_X5_reap) B.pre
  have hts : ∀ w ∈ BW, w.before args s = true := fun w hw => hts0 w (List.mem_cons_of_mem _ hw)
  have hown : s.vm.findClass RX5 = some m.cls := findClass_of_methodNamed B.named
  have hlocks := B.notSynchronized
  have lp4 : ∀ (n4 : Nat) (h : Hp) (x0 x1 x2 : Int) (H : Heap) (locs : List Loc) (ls : Array Slot), inr x1 → inr x2 → SM D G base h H → va_S (Ab base) s.heap H locs → lvh ls 5 [(0, vr x0), (1, vi x1), (2, vi x2)] → f_X5_reap_b4 n4 h x0 x1 x2 = some (rv, h') → W p l e (headSpec w_X5_reap rm_X5_reap).room s m args below meth c H locs 0 0 (QI D G base rv h' below args s 0 0) (F0 m 4 ls []) := by
    intro n4
    induction n4 with
    | zero => intro h x0 x1 x2 H locs ls i_x1 i_x2 hM hS hl hrun; exact absurd hrun (fun q => nomatch (show (none : Option (Int × Hp)) = some (rv, h') from q))
    | succ n4 ih4 =>
      have lp38 : ∀ (n38 : Nat) (h : Hp) (x0 x1 x2 x3 : Int) (H : Heap) (locs : List Loc) (ls : Array Slot), inr x1 → inr x2 → SM D G base h H → va_S (Ab base) s.heap H locs → lvh ls 5 [(0, vr x0), (1, vi x1), (2, vi x2), (3, vr x3)] → f_X5_reap_b38 (f_X5_reap_b4 n4) n38 h x0 x1 x2 x3 = some (rv, h') → W p l e (headSpec w_X5_reap rm_X5_reap).room s m args below meth c H locs 0 0 (QI D G base rv h' below args s 0 0) (F0 m 38 ls []) := by
        intro n38
        induction n38 with
        | zero => intro h x0 x1 x2 x3 H locs ls i_x1 i_x2 hM hS hl hrun; exact absurd hrun (fun q => nomatch (show (none : Option (Int × Hp)) = some (rv, h') from q))
        | succ n38 ih38 =>
          intro h x0 x1 x2 x3 H locs ls i_x1 i_x2 hM hS hl hrun
          replace hrun : f_X5_reap_s38 (f_X5_reap_b4 n4) (f_X5_reap_b38 (f_X5_reap_b4 n4) n38) h x0 x1 x2 x3 = some (rv, h') := hrun
          unfold f_X5_reap_s38 at hrun
          refine s_aload_n hx hb dX5_reap_38 rfl (la hl 3 rfl) ?_
          refine s_ifnull (tgt := 63) hx hb dX5_reap_39 (by decide) (fun cd => ?_) (fun cd => ?_)
          · replace hrun := it_pos cd hrun
            refine t_iinc (lv' := [(2, vi (wr (x2 + 1))), (0, vr x0), (1, vi x1), (3, vr x3)]) hx hb dX5_reap_63 hl (k := 2) rfl (by decide) rfl rfl (fun ls hl => ?_)
            refine lv_goto (tgt := 4) hx hb dX5_reap_66 (by decide) ?_
            exact ih4 h x0 x1 (wr (x2 + 1)) H locs ls i_x1 (inr_wr _) hM hS (lsub hl [1, 2, 0] rfl) hrun
          · replace hrun := it_neg cd hrun
            refine s_aload_n hx hb dX5_reap_42 rfl (la hl 3 rfl) ?_
            refine t_astore (lv' := [(4, vr x3), (0, vr x0), (1, vi x1), (2, vi x2), (3, vr x3)]) hx hb dX5_reap_43 hl (by decide) rfl (fun ls hl => ?_)
            refine s_aload hx hb dX5_reap_45 (la hl 0 rfl) ?_
            obtain ⟨v8, g8, hrun⟩ := bd hrun
            refine s_getfr hx hb hts kl_3 hown hE.1 hM (ci := 3) rfl (by decide) rfl (k := 6) (by decide) rfl (hts _ kw_466) g8 dX5_reap_47 ?_
            refine t_astore_n (lv' := [(3, vr v8), (4, vr x3), (0, vr x0), (1, vi x1), (2, vi x2)]) hx hb dX5_reap_50 rfl hl (by decide) rfl (fun ls hl => ?_)
            refine lv_iload_n hx hb dX5_reap_51 rfl (la hl 3 rfl) ?_
            refine s_aload_n hx hb dX5_reap_52 rfl (la hl 2 rfl) ?_
            refine s_aload hx hb dX5_reap_53 (la hl 1 rfl) ?_
            obtain ⟨u10, g10, hrun⟩ := bd hrun
            obtain ⟨r9, g9, hrun⟩ := bd hrun
            refine s_callV (n := 1) (rest := [vi x1]) [vr x3] hx hb hml hown hts hE hM hS (c_X5_giveBack l D G base h r9.2 x0 x3 r9.1 g9) kw_103 kw_100 kw_37 kw_102 kw_0 (by decide +kernel) ⟨Nat.le_of_ble_eq_true rfl, Nat.le_of_ble_eq_true rfl⟩ rfl rfl (by decide) g10 rfl hl.1.1 rfl (c8 (c_i c_0) (Nat.le_of_ble_eq_true rfl)) dX5_reap_55 ⟨Nat.le_of_ble_eq_true rfl, Nat.le_of_ble_eq_true rfl⟩ (fun H locs i_r9 hM hS => ?_)
            refine W.eq (g2 := F0 m 58 ls [vi r9.1, vi x1]) rfl ?_
            refine s_iadd hx hb dX5_reap_58 ?_
            refine t_istore_n (lv' := [(1, vi (wr (x1 + r9.1))), (3, vr v8), (4, vr x3), (0, vr x0), (2, vi x2)]) hx hb dX5_reap_59 rfl hl (by decide) rfl (fun ls hl => ?_)
            refine lv_goto (tgt := 38) hx hb dX5_reap_60 (by decide) ?_
            exact ih38 r9.2 x0 (wr (x1 + r9.1)) x2 v8 H locs ls (inr_wr _) i_x2 hM hS (lsub hl [3, 0, 4, 1] rfl) hrun
      have j37 : ∀ (h : Hp) (x0 x1 x2 s0 : Int) (H : Heap) (locs : List Loc) (ls : Array Slot), inr x1 → inr x2 → SM D G base h H → va_S (Ab base) s.heap H locs → lvh ls 5 [(0, vr x0), (1, vi x1), (2, vi x2)] → f_X5_reap_j37 (f_X5_reap_b4 n4) h x0 x1 x2 s0 = some (rv, h') → W p l e (headSpec w_X5_reap rm_X5_reap).room s m args below meth c H locs 0 0 (QI D G base rv h' below args s 0 0) (F0 m 37 ls [vr s0]) := by
        intro h x0 x1 x2 s0 H locs ls i_x1 i_x2 hM hS hl hrun
        unfold f_X5_reap_j37 at hrun
        refine t_astore_n (lv' := [(3, vr s0), (0, vr x0), (1, vi x1), (2, vi x2)]) hx hb dX5_reap_37 rfl hl (by decide) rfl (fun ls hl => ?_)
        exact lp38 fuel h x0 x1 x2 s0 H locs ls i_x1 i_x2 hM hS (lsub hl [1, 2, 3, 0] rfl) hrun
      intro h x0 x1 x2 H locs ls i_x1 i_x2 hM hS hl hrun
      replace hrun : f_X5_reap_s4 (f_X5_reap_b4 n4) h x0 x1 x2 = some (rv, h') := hrun
      unfold f_X5_reap_s4 at hrun
      refine lv_iload_n hx hb dX5_reap_4 rfl (la hl 2 rfl) ?_
      refine lv_bipush (v := Int32.ofInt 8) hx hb dX5_reap_5 (by decide) ?_
      refine s_icmp_ge (tgt := 69) hx hb dX5_reap_7 (by decide) i_x2 (by decide) (fun cd => ?_) (fun cd => ?_)
      · replace hrun := it_pos cd hrun
        refine lv_iload_n hx hb dX5_reap_69 rfl (la hl 1 rfl) ?_
        exact s_iret hx hb hr hlocks hM hS i_x1 hrun (Nat.le_of_ble_eq_true rfl) (Nat.le_of_ble_eq_true rfl) dX5_reap_70
      · replace hrun := it_neg cd hrun
        refine s_aload_n hx hb dX5_reap_10 rfl (la hl 0 rfl) ?_
        obtain ⟨v1, g1, hrun⟩ := bd hrun
        refine s_getfr hx hb hts kl_5 hown hE.1 hM (ci := 5) rfl (by decide) rfl (k := 2) (by decide) rfl (hts _ kw_85) g1 dX5_reap_11 ?_
        refine lv_iload_n hx hb dX5_reap_14 rfl (la hl 2 rfl) ?_
        obtain ⟨v2, g2, hrun⟩ := bd hrun
        refine s_aald hx hb hE.1 hM (kd := 11) (by decide) rfl i_x2 g2 dX5_reap_15 ?_
        refine s_ifnonnull (tgt := 23) hx hb dX5_reap_16 (by decide) (fun cd => ?_) (fun cd => ?_)
        · replace hrun := it_pos cd hrun
          refine s_aload_n hx hb dX5_reap_23 rfl (la hl 0 rfl) ?_
          obtain ⟨v3, g3, hrun⟩ := bd hrun
          refine s_getfr hx hb hts kl_5 hown hE.1 hM (ci := 5) rfl (by decide) rfl (k := 2) (by decide) rfl (hts _ kw_85) g3 dX5_reap_24 ?_
          refine lv_iload_n hx hb dX5_reap_27 rfl (la hl 2 rfl) ?_
          obtain ⟨v4, g4, hrun⟩ := bd hrun
          refine s_aald hx hb hE.1 hM (kd := 11) (by decide) rfl i_x2 g4 dX5_reap_28 ?_
          obtain ⟨v5, g5, hrun⟩ := bd hrun
          refine s_getfr hx hb hts kl_1 hown hE.1 hM (ci := 1) rfl (by decide) rfl (k := 12) (by decide) rfl (hts _ kw_310) g5 dX5_reap_29 ?_
          refine lv_iconst (v := Int32.ofInt 2) hx hb dX5_reap_32 rfl ?_
          obtain ⟨v6, g6, hrun⟩ := bd hrun
          refine s_aald hx hb hE.1 hM (kd := 14) (by decide) rfl (by decide) g6 dX5_reap_33 ?_
          obtain ⟨v7, g7, hrun⟩ := bd hrun
          refine s_getfr hx hb hts kl_4 hown hE.1 hM (ci := 4) rfl (by decide) rfl (k := 0) (by decide) rfl (hts _ kw_268) g7 dX5_reap_34 ?_
          exact j37 h x0 x1 x2 v7 H locs ls i_x1 i_x2 hM hS (lsub hl [0, 1, 2] rfl) hrun
        · replace hrun := it_neg cd hrun
          refine s_null hx hb dX5_reap_19 ?_
          refine lv_goto (tgt := 37) hx hb dX5_reap_20 (by decide) ?_
          exact j37 h x0 x1 x2 (-1) H locs ls i_x1 i_x2 hM hS (lsub hl [0, 1, 2] rfl) hrun
  refine s_entry hargs hM (c_r c_0) (Nat.le_of_ble_eq_true rfl) (fun H locs ls hM hS hl => ?_)
  replace hl : lvh ls 5 [(0, vr x0)] := hl
  unfold f_X5_reap at hrun
  refine lv_iconst (v := Int32.ofInt 0) hx hb dX5_reap_0 rfl ?_
  refine t_istore_n (lv' := [(1, vi 0), (0, vr x0)]) hx hb dX5_reap_1 rfl hl (by decide) rfl (fun ls hl => ?_)
  refine lv_iconst (v := Int32.ofInt 0) hx hb dX5_reap_2 rfl ?_
  refine t_istore_n (lv' := [(2, vi 0), (1, vi 0), (0, vr x0)]) hx hb dX5_reap_3 rfl hl (by decide) rfl (fun ls hl => ?_)
  exact lp4 fuel h x0 0 0 H locs ls (by decide) (by decide) hM hS (lsub hl [2, 1, 0] rfl) hrun
def f_X5_makeSlab_j79 (h : Hp) (x0 x1 x3 s0 s1 : Int) : Option (Int × Hp) :=
  Option.bind (ptf h 1 8 s0 s1) fun h18 =>
  Option.bind (gtf h18 1 9 x1) fun v19 =>
  Option.bind (ptf h18 1 9 x1 (wr (v19 + 1))) fun h20 =>
  Option.bind (ckd h20 1 x1) fun u22 =>
  Option.bind (f_X1_relist h20 x1 x3) fun r21 =>
  Option.bind (ckd r21.2 5 x0) fun u24 =>
  Option.bind (f_X5_setPages r21.2 x0 x3 x3) fun r23 =>
  some (x3, r23.2)
def f_X5_makeSlab_j34 (h : Hp) (x0 x1 x2 : Int) : Option (Int × Hp) :=
  if x2 ≠ (-1) then (
    Option.bind (nwo h 3) fun h11 =>
    Option.bind (gtf h11 1 8 x1) fun v12 =>
    Option.bind (ckd h11 3 (hN h : Int)) fun u14 =>
    Option.bind (f_X3_init h11 (hN h : Int) x1 x2 v12) fun r13 =>
    Option.bind (gtf r13.2 1 8 x1) fun v15 =>
    Option.bind (gtf r13.2 1 7 x1) fun v16 =>
    if v16 ≤ (wr (v15 + 1)) then (
      f_X5_makeSlab_j79 r13.2 x0 x1 (hN h : Int) x1 0
    ) else (
      Option.bind (gtf r13.2 1 8 x1) fun v17 =>
      f_X5_makeSlab_j79 r13.2 x0 x1 (hN h : Int) x1 (wr (v17 + 1))
    )
  ) else (
    some ((-1), h)
  )
def f_X5_makeSlab (h : Hp) (x0 x1 : Int) : Option (Int × Hp) :=
  Option.bind (gtf h 5 0 x0) fun v1 =>
  Option.bind (gtf h 1 3 x1) fun v2 =>
  Option.bind (ckd h 0 v1) fun u4 =>
  Option.bind (f_X0_take h v1 v2) fun r3 =>
  if r3.1 ≠ (-1) then (
    f_X5_makeSlab_j34 r3.2 x0 x1 r3.1
  ) else (
    Option.bind (ckd r3.2 5 x0) fun u6 =>
    Option.bind (f_X5_reap r3.2 x0) fun r5 =>
    Option.bind (gtf r5.2 5 0 x0) fun v7 =>
    Option.bind (gtf r5.2 1 3 x1) fun v8 =>
    Option.bind (ckd r5.2 0 v7) fun u10 =>
    Option.bind (f_X0_take r5.2 v7 v8) fun r9 =>
    f_X5_makeSlab_j34 r9.2 x0 x1 r9.1
  )
abbrev w_X5_makeSlab : List Cond := Cond.code yX5_makeSlab cX5_makeSlab 4 (some (.object "SlabHouse$Slab")) :: BW
abbrev rm_X5_makeSlab : Room := { frames := 4, cells := 3, slots := 19, locals := 91 }
set_option maxHeartbeats 4000000 in
set_option maxRecDepth 100000 in
theorem c_X5_makeSlab (l : Launch) (D : va_G) (G : Nat → ClassId) (base : Nat) (h h' : Hp) (x0 x1 : Int) (rv : Int) (hrun : f_X5_makeSlab h x0 x1 = some (rv, h')) : Met l yX5_makeSlab w_X5_makeSlab rm_X5_makeSlab (PC l D G base h [vr x0, vr x1]) (QR D G base (some (vr rv)) True h') rm_X5_makeSlab.cells rm_X5_makeSlab.slots (Ab base) := by
  refine Met.ofW (cc := cX5_makeSlab) (maxL := 4) (ret := (some (.object "SlabHouse$Slab"))) (by decide) rfl ?_
  intro p e s m args below meth c s₁ B hml hv
  obtain ⟨hargs, hE, hM⟩ := hv
  have hx := B.exec
  have hb := B.bytes
  have hr := B.returns
  have hts0 := atoms_spec (ws := w_X5_makeSlab) B.pre
  have hts : ∀ w ∈ BW, w.before args s = true := fun w hw => hts0 w (List.mem_cons_of_mem _ hw)
  have hown : s.vm.findClass RX5 = some m.cls := findClass_of_methodNamed B.named
  have hlocks := B.notSynchronized
  have j79 : ∀ (h : Hp) (x0 x1 x3 s0 s1 : Int) (H : Heap) (locs : List Loc) (ls : Array Slot), inr s1 → SM D G base h H → va_S (Ab base) s.heap H locs → lvh ls 4 [(0, vr x0), (1, vr x1), (3, vr x3)] → f_X5_makeSlab_j79 h x0 x1 x3 s0 s1 = some (rv, h') → W p l e (headSpec w_X5_makeSlab rm_X5_makeSlab).room s m args below meth c H locs 3 19 (QF D G base rv h' below args s 3 19) (F0 m 79 ls [vi s1, vr s0]) := by
    intro h x0 x1 x3 s0 s1 H locs ls i_s1 hM hS hl hrun
    unfold f_X5_makeSlab_j79 at hrun
    obtain ⟨h18, g18, hrun⟩ := bd hrun
    refine s_put (b := false) hx hb hts kl_1 tyX1 tyX1_ok nmX1 hown hE.1 hM hS (ci := 1) rfl (by decide) rfl (k := 8) (by decide) rfl (hts _ kw_305) rfl (vp_nar_int _) rfl (fun _ => i_s1) g18 dX5_makeSlab_79 (fun H locs hM hS => ?_)
    refine s_aload_n hx hb dX5_makeSlab_82 rfl (la hl 1 rfl) ?_
    refine lv_dup hx hb dX5_makeSlab_83 (vr_cat _) ?_
    obtain ⟨v19, g19, hrun⟩ := bd hrun
    refine s_getfi hx hb hts kl_1 hown hE.1 hM (ci := 1) rfl (by decide) rfl (k := 9) (by decide) rfl (hts _ kw_306) g19 dX5_makeSlab_84 ?_
    have i_v19 : inr v19 := gtf_i hM g19 (by decide) rfl
    refine lv_iconst (v := Int32.ofInt 1) hx hb dX5_makeSlab_87 rfl ?_
    refine s_iadd hx hb dX5_makeSlab_88 ?_
    obtain ⟨h20, g20, hrun⟩ := bd hrun
    refine s_put (b := false) hx hb hts kl_1 tyX1 tyX1_ok nmX1 hown hE.1 hM hS (ci := 1) rfl (by decide) rfl (k := 9) (by decide) rfl (hts _ kw_306) rfl (vp_nar_int _) rfl (fun _ => (inr_wr _)) g20 dX5_makeSlab_89 (fun H locs hM hS => ?_)
    refine s_aload_n hx hb dX5_makeSlab_92 rfl (la hl 1 rfl) ?_
    refine s_aload_n hx hb dX5_makeSlab_93 rfl (la hl 2 rfl) ?_
    obtain ⟨u22, g22, hrun⟩ := bd hrun
    obtain ⟨r21, g21, hrun⟩ := bd hrun
    refine s_callV (n := 1) (rest := []) [vr x3] hx hb hml hown hts hE hM hS (c_X1_relist l D G base h20 r21.2 x1 x3 r21.1 g21) kw_497 kw_494 kw_45 kw_495 kw_496 (by decide +kernel) ⟨Nat.le_of_ble_eq_true rfl, Nat.le_of_ble_eq_true rfl⟩ rfl rfl (by decide) g22 rfl hl.1.1 rfl (c8 c_0 (Nat.le_of_ble_eq_true rfl)) dX5_makeSlab_94 ⟨Nat.le_of_ble_eq_true rfl, Nat.le_of_ble_eq_true rfl⟩ (fun H locs i_r21 hM hS => ?_)
    refine W.eq (g2 := F0 m 97 ls []) rfl ?_
    refine s_aload_n hx hb dX5_makeSlab_97 rfl (la hl 0 rfl) ?_
    refine s_aload_n hx hb dX5_makeSlab_98 rfl (la hl 2 rfl) ?_
    refine s_aload_n hx hb dX5_makeSlab_99 rfl (la hl 2 rfl) ?_
    obtain ⟨u24, g24, hrun⟩ := bd hrun
    obtain ⟨r23, g23, hrun⟩ := bd hrun
    refine s_callV (n := 2) (rest := []) [vr x3, vr x3] hx hb hml hown hts hE hM hS (c_X5_setPages l D G base r21.2 r23.2 x0 x3 x3 r23.1 g23) kw_115 kw_112 kw_37 kw_114 kw_1 (by decide +kernel) ⟨Nat.le_of_ble_eq_true rfl, Nat.le_of_ble_eq_true rfl⟩ rfl rfl (by decide) g24 rfl hl.1.1 rfl (c8 c_0 (Nat.le_of_ble_eq_true rfl)) dX5_makeSlab_100 ⟨Nat.le_of_ble_eq_true rfl, Nat.le_of_ble_eq_true rfl⟩ (fun H locs i_r23 hM hS => ?_)
    refine W.eq (g2 := F0 m 103 ls []) rfl ?_
    refine s_aload_n hx hb dX5_makeSlab_103 rfl (la hl 2 rfl) ?_
    exact s_aret hx hb hr (Or.inl ⟨_, rfl⟩) hlocks hM hS hrun (Nat.le_of_ble_eq_true rfl) (Nat.le_of_ble_eq_true rfl) dX5_makeSlab_104
  have j34 : ∀ (h : Hp) (x0 x1 x2 : Int) (H : Heap) (locs : List Loc) (ls : Array Slot), inr x2 → SM D G base h H → va_S (Ab base) s.heap H locs → lvh ls 4 [(0, vr x0), (1, vr x1), (2, vi x2)] → f_X5_makeSlab_j34 h x0 x1 x2 = some (rv, h') → W p l e (headSpec w_X5_makeSlab rm_X5_makeSlab).room s m args below meth c H locs 0 0 (QF D G base rv h' below args s 3 19) (F0 m 34 ls []) := by
    intro h x0 x1 x2 H locs ls i_x2 hM hS hl hrun
    unfold f_X5_makeSlab_j34 at hrun
    refine lv_iload_n hx hb dX5_makeSlab_34 rfl (la hl 2 rfl) ?_
    refine lv_iconst (v := Int32.ofInt (-1)) hx hb dX5_makeSlab_35 rfl ?_
    refine s_icmp_ne (tgt := 41) hx hb dX5_makeSlab_36 (by decide) i_x2 (by decide) (fun cd => ?_) (fun cd => ?_)
    · replace hrun := it_pos cd hrun
      obtain ⟨h11, g11, hrun⟩ := bd hrun
      refine s_new hx hb hts kl_3 tyX3 tyX3_ok hown (hts _ kw_79) (hts _ kw_163) (hts _ kw_51) hE.1 hM hS hE.2.1 (ci := 3) rfl (by decide) rfl (by decide) g11 (Nat.le_of_ble_eq_true rfl) (Nat.le_of_ble_eq_true rfl) dX5_makeSlab_41 (fun H hM hS => ?_)
      refine lv_dup hx hb dX5_makeSlab_44 (vr_cat _) ?_
      refine s_aload_n hx hb dX5_makeSlab_45 rfl (la hl 1 rfl) ?_
      refine lv_iload_n hx hb dX5_makeSlab_46 rfl (la hl 2 rfl) ?_
      refine s_aload_n hx hb dX5_makeSlab_47 rfl (la hl 1 rfl) ?_
      obtain ⟨v12, g12, hrun⟩ := bd hrun
      refine s_getfi hx hb hts kl_1 hown hE.1 hM (ci := 1) rfl (by decide) rfl (k := 8) (by decide) rfl (hts _ kw_305) g12 dX5_makeSlab_48 ?_
      have i_v12 : inr v12 := gtf_i hM g12 (by decide) rfl
      obtain ⟨u14, g14, hrun⟩ := bd hrun
      obtain ⟨r13, g13, hrun⟩ := bd hrun
      refine s_callI (n := 3) (rest := [vr (hN h : Int)]) [vr x1, vi x2, vi v12] hx hb hml hown hts hE hM hS (c_X3_init l D G base h11 r13.2 (hN h : Int) x1 x2 v12 r13.1 i_x2 i_v12 g13) kw_448 kw_446 kw_51 kw_447 rfl (by decide +kernel) ⟨Nat.le_of_ble_eq_true rfl, Nat.le_of_ble_eq_true rfl⟩ g14 rfl hl.1.1 rfl (c8 (c_r c_0) (Nat.le_of_ble_eq_true rfl)) dX5_makeSlab_51 ⟨Nat.le_of_ble_eq_true rfl, Nat.le_of_ble_eq_true rfl⟩ (fun H locs i_r13 hM hS => ?_)
      refine W.eq (g2 := F0 m 54 ls [vr (hN h : Int)]) rfl ?_
      refine t_astore_n (lv' := [(3, vr (hN h : Int)), (0, vr x0), (1, vr x1), (2, vi x2)]) hx hb dX5_makeSlab_54 rfl hl (by decide) rfl (fun ls hl => ?_)
      refine s_aload_n hx hb dX5_makeSlab_55 rfl (la hl 2 rfl) ?_
      refine s_aload_n hx hb dX5_makeSlab_56 rfl (la hl 2 rfl) ?_
      obtain ⟨v15, g15, hrun⟩ := bd hrun
      refine s_getfi hx hb hts kl_1 hown hE.1 hM (ci := 1) rfl (by decide) rfl (k := 8) (by decide) rfl (hts _ kw_305) g15 dX5_makeSlab_57 ?_
      have i_v15 : inr v15 := gtf_i hM g15 (by decide) rfl
      refine lv_iconst (v := Int32.ofInt 1) hx hb dX5_makeSlab_60 rfl ?_
      refine s_iadd hx hb dX5_makeSlab_61 ?_
      refine s_aload_n hx hb dX5_makeSlab_62 rfl (la hl 2 rfl) ?_
      obtain ⟨v16, g16, hrun⟩ := bd hrun
      refine s_getfi hx hb hts kl_1 hown hE.1 hM (ci := 1) rfl (by decide) rfl (k := 7) (by decide) rfl (hts _ kw_304) g16 dX5_makeSlab_63 ?_
      have i_v16 : inr v16 := gtf_i hM g16 (by decide) rfl
      refine s_icmp_ge (tgt := 78) hx hb dX5_makeSlab_66 (by decide) (inr_wr _) i_v16 (fun cd => ?_) (fun cd => ?_)
      · replace hrun := it_pos cd hrun
        refine lv_iconst (v := Int32.ofInt 0) hx hb dX5_makeSlab_78 rfl ?_
        exact j79 r13.2 x0 x1 (hN h : Int) x1 0 H locs ls (by decide) hM hS (lsub hl [1, 2, 0] rfl) hrun
      · replace hrun := it_neg cd hrun
        refine s_aload_n hx hb dX5_makeSlab_69 rfl (la hl 2 rfl) ?_
        obtain ⟨v17, g17, hrun⟩ := bd hrun
        refine s_getfi hx hb hts kl_1 hown hE.1 hM (ci := 1) rfl (by decide) rfl (k := 8) (by decide) rfl (hts _ kw_305) g17 dX5_makeSlab_70 ?_
        have i_v17 : inr v17 := gtf_i hM g17 (by decide) rfl
        refine lv_iconst (v := Int32.ofInt 1) hx hb dX5_makeSlab_73 rfl ?_
        refine s_iadd hx hb dX5_makeSlab_74 ?_
        refine lv_goto (tgt := 79) hx hb dX5_makeSlab_75 (by decide) ?_
        exact j79 r13.2 x0 x1 (hN h : Int) x1 (wr (v17 + 1)) H locs ls (inr_wr _) hM hS (lsub hl [1, 2, 0] rfl) hrun
    · replace hrun := it_neg cd hrun
      refine s_null hx hb dX5_makeSlab_39 ?_
      exact s_aret hx hb hr (Or.inl ⟨_, rfl⟩) hlocks hM hS hrun (Nat.le_of_ble_eq_true rfl) (Nat.le_of_ble_eq_true rfl) dX5_makeSlab_40
  refine s_entry hargs hM (c_r (c_r c_0)) (Nat.le_of_ble_eq_true rfl) (fun H locs ls hM hS hl => ?_)
  replace hl : lvh ls 4 [(0, vr x0), (1, vr x1)] := hl
  unfold f_X5_makeSlab at hrun
  refine s_aload_n hx hb dX5_makeSlab_0 rfl (la hl 0 rfl) ?_
  obtain ⟨v1, g1, hrun⟩ := bd hrun
  refine s_getfr hx hb hts kl_5 hown hE.1 hM (ci := 5) rfl (by decide) rfl (k := 0) (by decide) rfl (hts _ kw_83) g1 dX5_makeSlab_1 ?_
  refine s_aload_n hx hb dX5_makeSlab_4 rfl (la hl 1 rfl) ?_
  obtain ⟨v2, g2, hrun⟩ := bd hrun
  refine s_getfi hx hb hts kl_1 hown hE.1 hM (ci := 1) rfl (by decide) rfl (k := 3) (by decide) rfl (hts _ kw_293) g2 dX5_makeSlab_5 ?_
  have i_v2 : inr v2 := gtf_i hM g2 (by decide) rfl
  obtain ⟨u4, g4, hrun⟩ := bd hrun
  obtain ⟨r3, g3, hrun⟩ := bd hrun
  refine s_callV (n := 1) (rest := []) [vi v2] hx hb hml hown hts hE hM hS (c_X0_take l D G base h r3.2 v1 v2 r3.1 i_v2 g3) kw_436 kw_433 kw_38 kw_434 kw_435 (by decide +kernel) ⟨Nat.le_of_ble_eq_true rfl, Nat.le_of_ble_eq_true rfl⟩ rfl rfl (by decide) g4 rfl hl.1.1 rfl (c8 c_0 (Nat.le_of_ble_eq_true rfl)) dX5_makeSlab_8 ⟨Nat.le_of_ble_eq_true rfl, Nat.le_of_ble_eq_true rfl⟩ (fun H locs i_r3 hM hS => ?_)
  refine W.eq (g2 := F0 m 11 ls [vi r3.1]) rfl ?_
  refine t_istore_n (lv' := [(2, vi r3.1), (0, vr x0), (1, vr x1)]) hx hb dX5_makeSlab_11 rfl hl (by decide) rfl (fun ls hl => ?_)
  refine lv_iload_n hx hb dX5_makeSlab_12 rfl (la hl 0 rfl) ?_
  refine lv_iconst (v := Int32.ofInt (-1)) hx hb dX5_makeSlab_13 rfl ?_
  refine s_icmp_ne (tgt := 34) hx hb dX5_makeSlab_14 (by decide) i_r3 (by decide) (fun cd => ?_) (fun cd => ?_)
  · replace hrun := it_pos cd hrun
    exact j34 r3.2 x0 x1 r3.1 H locs ls i_r3 hM hS (lsub hl [1, 2, 0] rfl) hrun
  · replace hrun := it_neg cd hrun
    refine s_aload_n hx hb dX5_makeSlab_17 rfl (la hl 1 rfl) ?_
    obtain ⟨u6, g6, hrun⟩ := bd hrun
    obtain ⟨r5, g5, hrun⟩ := bd hrun
    refine s_callV (n := 0) (rest := []) [] hx hb hml hown hts hE hM hS (c_X5_reap l D G base r3.2 r5.2 x0 r5.1 g5) kw_99 kw_445 kw_37 kw_97 kw_98 (by decide +kernel) ⟨Nat.le_of_ble_eq_true rfl, Nat.le_of_ble_eq_true rfl⟩ rfl rfl (by decide) g6 rfl hl.1.1 rfl (c8 c_0 (Nat.le_of_ble_eq_true rfl)) dX5_makeSlab_18 ⟨Nat.le_of_ble_eq_true rfl, Nat.le_of_ble_eq_true rfl⟩ (fun H locs i_r5 hM hS => ?_)
    refine W.eq (g2 := F0 m 21 ls [vi r5.1]) rfl ?_
    refine lv_pop hx hb dX5_makeSlab_21 rfl ?_
    refine s_aload_n hx hb dX5_makeSlab_22 rfl (la hl 1 rfl) ?_
    obtain ⟨v7, g7, hrun⟩ := bd hrun
    refine s_getfr hx hb hts kl_5 hown hE.1 hM (ci := 5) rfl (by decide) rfl (k := 0) (by decide) rfl (hts _ kw_83) g7 dX5_makeSlab_23 ?_
    refine s_aload_n hx hb dX5_makeSlab_26 rfl (la hl 2 rfl) ?_
    obtain ⟨v8, g8, hrun⟩ := bd hrun
    refine s_getfi hx hb hts kl_1 hown hE.1 hM (ci := 1) rfl (by decide) rfl (k := 3) (by decide) rfl (hts _ kw_293) g8 dX5_makeSlab_27 ?_
    have i_v8 : inr v8 := gtf_i hM g8 (by decide) rfl
    obtain ⟨u10, g10, hrun⟩ := bd hrun
    obtain ⟨r9, g9, hrun⟩ := bd hrun
    refine s_callV (n := 1) (rest := []) [vi v8] hx hb hml hown hts hE hM hS (c_X0_take l D G base r5.2 r9.2 v7 v8 r9.1 i_v8 g9) kw_436 kw_433 kw_38 kw_434 kw_435 (by decide +kernel) ⟨Nat.le_of_ble_eq_true rfl, Nat.le_of_ble_eq_true rfl⟩ rfl rfl (by decide) g10 rfl hl.1.1 rfl (c8 c_0 (Nat.le_of_ble_eq_true rfl)) dX5_makeSlab_30 ⟨Nat.le_of_ble_eq_true rfl, Nat.le_of_ble_eq_true rfl⟩ (fun H locs i_r9 hM hS => ?_)
    refine W.eq (g2 := F0 m 33 ls [vi r9.1]) rfl ?_
    refine t_istore_n (lv' := [(2, vi r9.1), (0, vr x0), (1, vr x1)]) hx hb dX5_makeSlab_33 rfl hl (by decide) rfl (fun ls hl => ?_)
    exact j34 r9.2 x0 x1 r9.1 H locs ls i_r9 hM hS (lsub hl [1, 2, 0] rfl) hrun
def f_X5_takeFromSlabs_j64 (h : Hp) (s0 : Int) : Option (Int × Hp) :=
  some (s0, h)
def f_X5_takeFromSlabs_j34 (h : Hp) (x1 x2 : Int) : Option (Int × Hp) :=
  if 0 ≤ x2 then (
    Option.bind (ckd h 3 x2) fun u10 =>
    Option.bind (f_X3_takeFirst h x2) fun r9 =>
    Option.bind (ckd r9.2 1 x1) fun u12 =>
    Option.bind (f_X1_relist r9.2 x1 x2) fun r11 =>
    if r9.1 ≠ (-1) then (
      Option.bind (ckd r11.2 3 x2) fun u14 =>
      Option.bind (f_X3_beginOf r11.2 x2 r9.1) fun r13 =>
      f_X5_takeFromSlabs_j64 r13.2 r13.1
    ) else (
      f_X5_takeFromSlabs_j64 r11.2 (-1)
    )
  ) else (
    some ((-1), h)
  )
def f_X5_takeFromSlabs_j24 (h : Hp) (x0 x1 x2 : Int) : Option (Int × Hp) :=
  if 0 ≤ x2 then (
    f_X5_takeFromSlabs_j34 h x1 x2
  ) else (
    Option.bind (ckd h 5 x0) fun u8 =>
    Option.bind (f_X5_makeSlab h x0 x1) fun r7 =>
    f_X5_takeFromSlabs_j34 r7.2 x1 r7.1
  )
def f_X5_takeFromSlabs (h : Hp) (x0 x1 : Int) : Option (Int × Hp) :=
  Option.bind (gtf h 1 12 x1) fun v1 =>
  Option.bind (ald h 14 v1 1) fun v2 =>
  Option.bind (gtf h 4 0 v2) fun v3 =>
  if 0 ≤ v3 then (
    f_X5_takeFromSlabs_j24 h x0 x1 v3
  ) else (
    Option.bind (gtf h 1 12 x1) fun v4 =>
    Option.bind (ald h 14 v4 2) fun v5 =>
    Option.bind (gtf h 4 0 v5) fun v6 =>
    f_X5_takeFromSlabs_j24 h x0 x1 v6
  )
abbrev w_X5_takeFromSlabs : List Cond := Cond.code yX5_takeFromSlabs cX5_takeFromSlabs 4 (some .int) :: BW
abbrev rm_X5_takeFromSlabs : Room := { frames := 5, cells := 5, slots := 2067, locals := 124 }
set_option maxHeartbeats 4000000 in
set_option maxRecDepth 100000 in
theorem c_X5_takeFromSlabs (l : Launch) (D : va_G) (G : Nat → ClassId) (base : Nat) (h h' : Hp) (x0 x1 : Int) (rv : Int) (hrun : f_X5_takeFromSlabs h x0 x1 = some (rv, h')) : Met l yX5_takeFromSlabs w_X5_takeFromSlabs rm_X5_takeFromSlabs (PC l D G base h [vr x0, vr x1]) (QR D G base (some (vi rv)) (inr rv) h') rm_X5_takeFromSlabs.cells rm_X5_takeFromSlabs.slots (Ab base) := by
  refine Met.ofW (cc := cX5_takeFromSlabs) (maxL := 4) (ret := (some .int)) (by decide) rfl ?_
  intro p e s m args below meth c s₁ B hml hv
  obtain ⟨hargs, hE, hM⟩ := hv
  have hx := B.exec
  have hb := B.bytes
  have hr := B.returns
  have hts0 := atoms_spec (ws := w_X5_takeFromSlabs) B.pre
  have hts : ∀ w ∈ BW, w.before args s = true := fun w hw => hts0 w (List.mem_cons_of_mem _ hw)
  have hown : s.vm.findClass RX5 = some m.cls := findClass_of_methodNamed B.named
  have hlocks := B.notSynchronized
  have j64 : ∀ (h : Hp) (s0 : Int) (H : Heap) (locs : List Loc) (ls : Array Slot), inr s0 → SM D G base h H → va_S (Ab base) s.heap H locs → lvh ls 4 [] → f_X5_takeFromSlabs_j64 h s0 = some (rv, h') → W p l e (headSpec w_X5_takeFromSlabs rm_X5_takeFromSlabs).room s m args below meth c H locs 5 2067 (QI D G base rv h' below args s 5 2067) (F0 m 64 ls [vi s0]) := by
    intro h s0 H locs ls i_s0 hM hS hl hrun
    unfold f_X5_takeFromSlabs_j64 at hrun
    exact s_iret hx hb hr hlocks hM hS i_s0 hrun (Nat.le_of_ble_eq_true rfl) (Nat.le_of_ble_eq_true rfl) dX5_takeFromSlabs_64
  have j34 : ∀ (h : Hp) (x1 x2 : Int) (H : Heap) (locs : List Loc) (ls : Array Slot), SM D G base h H → va_S (Ab base) s.heap H locs → lvh ls 4 [(1, vr x1), (2, vr x2)] → f_X5_takeFromSlabs_j34 h x1 x2 = some (rv, h') → W p l e (headSpec w_X5_takeFromSlabs rm_X5_takeFromSlabs).room s m args below meth c H locs 3 19 (QI D G base rv h' below args s 5 2067) (F0 m 34 ls []) := by
    intro h x1 x2 H locs ls hM hS hl hrun
    unfold f_X5_takeFromSlabs_j34 at hrun
    refine s_aload_n hx hb dX5_takeFromSlabs_34 rfl (la hl 1 rfl) ?_
    refine s_ifnonnull (tgt := 40) hx hb dX5_takeFromSlabs_35 (by decide) (fun cd => ?_) (fun cd => ?_)
    · replace hrun := it_pos cd hrun
      refine s_aload_n hx hb dX5_takeFromSlabs_40 rfl (la hl 1 rfl) ?_
      obtain ⟨u10, g10, hrun⟩ := bd hrun
      obtain ⟨r9, g9, hrun⟩ := bd hrun
      refine s_callV (n := 0) (rest := []) [] hx hb hml hown hts hE hM hS (c_X3_takeFirst l D G base h r9.2 x2 r9.1 g9) kw_510 kw_507 kw_51 kw_508 kw_509 (by decide +kernel) ⟨Nat.le_of_ble_eq_true rfl, Nat.le_of_ble_eq_true rfl⟩ rfl rfl (by decide) g10 rfl hl.1.1 rfl (c8 c_0 (Nat.le_of_ble_eq_true rfl)) dX5_takeFromSlabs_41 ⟨Nat.le_of_ble_eq_true rfl, Nat.le_of_ble_eq_true rfl⟩ (fun H locs i_r9 hM hS => ?_)
      refine W.eq (g2 := F0 m 44 ls [vi r9.1]) rfl ?_
      refine t_istore_n (lv' := [(3, vi r9.1), (1, vr x1), (2, vr x2)]) hx hb dX5_takeFromSlabs_44 rfl hl (by decide) rfl (fun ls hl => ?_)
      refine s_aload_n hx hb dX5_takeFromSlabs_45 rfl (la hl 1 rfl) ?_
      refine s_aload_n hx hb dX5_takeFromSlabs_46 rfl (la hl 2 rfl) ?_
      obtain ⟨u12, g12, hrun⟩ := bd hrun
      obtain ⟨r11, g11, hrun⟩ := bd hrun
      refine s_callV (n := 1) (rest := []) [vr x2] hx hb hml hown hts hE hM hS (c_X1_relist l D G base r9.2 r11.2 x1 x2 r11.1 g11) kw_497 kw_494 kw_45 kw_495 kw_496 (by decide +kernel) ⟨Nat.le_of_ble_eq_true rfl, Nat.le_of_ble_eq_true rfl⟩ rfl rfl (by decide) g12 rfl hl.1.1 rfl (c8 c_0 (Nat.le_of_ble_eq_true rfl)) dX5_takeFromSlabs_47 ⟨Nat.le_of_ble_eq_true rfl, Nat.le_of_ble_eq_true rfl⟩ (fun H locs i_r11 hM hS => ?_)
      refine W.eq (g2 := F0 m 50 ls []) rfl ?_
      refine lv_iload_n hx hb dX5_takeFromSlabs_50 rfl (la hl 0 rfl) ?_
      refine lv_iconst (v := Int32.ofInt (-1)) hx hb dX5_takeFromSlabs_51 rfl ?_
      refine s_icmp_ne (tgt := 59) hx hb dX5_takeFromSlabs_52 (by decide) i_r9 (by decide) (fun cd => ?_) (fun cd => ?_)
      · replace hrun := it_pos cd hrun
        refine s_aload_n hx hb dX5_takeFromSlabs_59 rfl (la hl 2 rfl) ?_
        refine lv_iload_n hx hb dX5_takeFromSlabs_60 rfl (la hl 0 rfl) ?_
        obtain ⟨u14, g14, hrun⟩ := bd hrun
        obtain ⟨r13, g13, hrun⟩ := bd hrun
        refine s_callV (n := 1) (rest := []) [vi r9.1] hx hb hml hown hts hE hM hS (c_X3_beginOf l D G base r11.2 r13.2 x2 r9.1 r13.1 i_r9 g13) kw_151 kw_165 kw_51 kw_149 kw_150 (by decide +kernel) ⟨Nat.le_of_ble_eq_true rfl, Nat.le_of_ble_eq_true rfl⟩ rfl rfl (by decide) g14 rfl hl.1.1 rfl (c8 c_0 (Nat.le_of_ble_eq_true rfl)) dX5_takeFromSlabs_61 ⟨Nat.le_of_ble_eq_true rfl, Nat.le_of_ble_eq_true rfl⟩ (fun H locs i_r13 hM hS => ?_)
        refine W.eq (g2 := F0 m 64 ls [vi r13.1]) rfl ?_
        exact j64 r13.2 r13.1 H locs ls i_r13 hM hS (lsub hl [] rfl) hrun
      · replace hrun := it_neg cd hrun
        refine lv_iconst (v := Int32.ofInt (-1)) hx hb dX5_takeFromSlabs_55 rfl ?_
        refine lv_goto (tgt := 64) hx hb dX5_takeFromSlabs_56 (by decide) ?_
        exact j64 r11.2 (-1) H locs ls (by decide) hM hS (lsub hl [] rfl) hrun
    · replace hrun := it_neg cd hrun
      refine lv_iconst (v := Int32.ofInt (-1)) hx hb dX5_takeFromSlabs_38 rfl ?_
      exact s_iret hx hb hr hlocks hM hS (by decide) hrun (Nat.le_of_ble_eq_true rfl) (Nat.le_of_ble_eq_true rfl) dX5_takeFromSlabs_39
  have j24 : ∀ (h : Hp) (x0 x1 x2 : Int) (H : Heap) (locs : List Loc) (ls : Array Slot), SM D G base h H → va_S (Ab base) s.heap H locs → lvh ls 4 [(0, vr x0), (1, vr x1), (2, vr x2)] → f_X5_takeFromSlabs_j24 h x0 x1 x2 = some (rv, h') → W p l e (headSpec w_X5_takeFromSlabs rm_X5_takeFromSlabs).room s m args below meth c H locs 0 0 (QI D G base rv h' below args s 5 2067) (F0 m 24 ls []) := by
    intro h x0 x1 x2 H locs ls hM hS hl hrun
    unfold f_X5_takeFromSlabs_j24 at hrun
    refine s_aload_n hx hb dX5_takeFromSlabs_24 rfl (la hl 2 rfl) ?_
    refine s_ifnonnull (tgt := 34) hx hb dX5_takeFromSlabs_25 (by decide) (fun cd => ?_) (fun cd => ?_)
    · replace hrun := it_pos cd hrun
      refine W.widen (k := 3) (n := 19) (Nat.le_of_ble_eq_true rfl) (Nat.le_of_ble_eq_true rfl) ?_
      exact j34 h x1 x2 H locs ls hM hS (lsub hl [1, 2] rfl) hrun
    · replace hrun := it_neg cd hrun
      refine s_aload_n hx hb dX5_takeFromSlabs_28 rfl (la hl 0 rfl) ?_
      refine s_aload_n hx hb dX5_takeFromSlabs_29 rfl (la hl 1 rfl) ?_
      obtain ⟨u8, g8, hrun⟩ := bd hrun
      obtain ⟨r7, g7, hrun⟩ := bd hrun
      refine s_callV (n := 1) (rest := []) [vr x1] hx hb hml hown hts hE hM hS (c_X5_makeSlab l D G base h r7.2 x0 x1 r7.1 g7) kw_432 kw_429 kw_37 kw_431 kw_10 (by decide +kernel) ⟨Nat.le_of_ble_eq_true rfl, Nat.le_of_ble_eq_true rfl⟩ rfl rfl (by decide) g8 rfl hl.1.1 rfl (c8 c_0 (Nat.le_of_ble_eq_true rfl)) dX5_takeFromSlabs_30 ⟨Nat.le_of_ble_eq_true rfl, Nat.le_of_ble_eq_true rfl⟩ (fun H locs i_r7 hM hS => ?_)
      refine W.eq (g2 := F0 m 33 ls [vr r7.1]) rfl ?_
      refine t_astore_n (lv' := [(2, vr r7.1), (0, vr x0), (1, vr x1)]) hx hb dX5_takeFromSlabs_33 rfl hl (by decide) rfl (fun ls hl => ?_)
      exact j34 r7.2 x1 r7.1 H locs ls hM hS (lsub hl [2, 0] rfl) hrun
  refine s_entry hargs hM (c_r (c_r c_0)) (Nat.le_of_ble_eq_true rfl) (fun H locs ls hM hS hl => ?_)
  replace hl : lvh ls 4 [(0, vr x0), (1, vr x1)] := hl
  unfold f_X5_takeFromSlabs at hrun
  refine s_aload_n hx hb dX5_takeFromSlabs_0 rfl (la hl 1 rfl) ?_
  obtain ⟨v1, g1, hrun⟩ := bd hrun
  refine s_getfr hx hb hts kl_1 hown hE.1 hM (ci := 1) rfl (by decide) rfl (k := 12) (by decide) rfl (hts _ kw_310) g1 dX5_takeFromSlabs_1 ?_
  refine lv_iconst (v := Int32.ofInt 1) hx hb dX5_takeFromSlabs_4 rfl ?_
  obtain ⟨v2, g2, hrun⟩ := bd hrun
  refine s_aald hx hb hE.1 hM (kd := 14) (by decide) rfl (by decide) g2 dX5_takeFromSlabs_5 ?_
  obtain ⟨v3, g3, hrun⟩ := bd hrun
  refine s_getfr hx hb hts kl_4 hown hE.1 hM (ci := 4) rfl (by decide) rfl (k := 0) (by decide) rfl (hts _ kw_268) g3 dX5_takeFromSlabs_6 ?_
  refine t_astore_n (lv' := [(2, vr v3), (0, vr x0), (1, vr x1)]) hx hb dX5_takeFromSlabs_9 rfl hl (by decide) rfl (fun ls hl => ?_)
  refine s_aload_n hx hb dX5_takeFromSlabs_10 rfl (la hl 0 rfl) ?_
  refine s_ifnonnull (tgt := 24) hx hb dX5_takeFromSlabs_11 (by decide) (fun cd => ?_) (fun cd => ?_)
  · replace hrun := it_pos cd hrun
    exact j24 h x0 x1 v3 H locs ls hM hS (lsub hl [1, 2, 0] rfl) hrun
  · replace hrun := it_neg cd hrun
    refine s_aload_n hx hb dX5_takeFromSlabs_14 rfl (la hl 2 rfl) ?_
    obtain ⟨v4, g4, hrun⟩ := bd hrun
    refine s_getfr hx hb hts kl_1 hown hE.1 hM (ci := 1) rfl (by decide) rfl (k := 12) (by decide) rfl (hts _ kw_310) g4 dX5_takeFromSlabs_15 ?_
    refine lv_iconst (v := Int32.ofInt 2) hx hb dX5_takeFromSlabs_18 rfl ?_
    obtain ⟨v5, g5, hrun⟩ := bd hrun
    refine s_aald hx hb hE.1 hM (kd := 14) (by decide) rfl (by decide) g5 dX5_takeFromSlabs_19 ?_
    obtain ⟨v6, g6, hrun⟩ := bd hrun
    refine s_getfr hx hb hts kl_4 hown hE.1 hM (ci := 4) rfl (by decide) rfl (k := 0) (by decide) rfl (hts _ kw_268) g6 dX5_takeFromSlabs_20 ?_
    refine t_astore_n (lv' := [(2, vr v6), (0, vr x0), (1, vr x1)]) hx hb dX5_takeFromSlabs_23 rfl hl (by decide) rfl (fun ls hl => ?_)
    exact j24 h x0 x1 v6 H locs ls hM hS (lsub hl [1, 2, 0] rfl) hrun
def f_X5_comeBack_j27 (h : Hp) : Option (Int × Hp) :=
  some (0, h)
def f_X5_comeBack (h : Hp) (x0 x1 : Int) : Option (Int × Hp) :=
  Option.bind (ckd h 5 x0) fun u2 =>
  Option.bind (f_X5_slabAt h x0 x1) fun r1 =>
  if r1.1 < 0 then (
    f_X5_comeBack_j27 r1.2
  ) else (
    Option.bind (ckd r1.2 3 r1.1) fun u4 =>
    Option.bind (f_X3_numberOver r1.2 r1.1 x1) fun r3 =>
    Option.bind (ckd r3.2 3 r1.1) fun u6 =>
    Option.bind (f_X3_putFirst r3.2 r1.1 r3.1) fun r5 =>
    Option.bind (gtf r5.2 3 0 r1.1) fun v7 =>
    Option.bind (ckd r5.2 1 v7) fun u9 =>
    Option.bind (f_X1_relist r5.2 v7 r1.1) fun r8 =>
    f_X5_comeBack_j27 r8.2
  )
abbrev w_X5_comeBack : List Cond := Cond.code yX5_comeBack cX5_comeBack 3 none :: BW
abbrev rm_X5_comeBack : Room := { frames := 3, cells := 0, slots := 0, locals := 64 }
set_option maxHeartbeats 4000000 in
set_option maxRecDepth 100000 in
theorem c_X5_comeBack (l : Launch) (D : va_G) (G : Nat → ClassId) (base : Nat) (h h' : Hp) (x0 x1 : Int) (rv : Int) (i_x1 : inr x1) (hrun : f_X5_comeBack h x0 x1 = some (rv, h')) : Met l yX5_comeBack w_X5_comeBack rm_X5_comeBack (PC l D G base h [vr x0, vi x1]) (QR D G base none True h') rm_X5_comeBack.cells rm_X5_comeBack.slots (Ab base) := by
  refine Met.ofW (cc := cX5_comeBack) (maxL := 3) (ret := none) (by decide) rfl ?_
  intro p e s m args below meth c s₁ B hml hv
  obtain ⟨hargs, hE, hM⟩ := hv
  have hx := B.exec
  have hb := B.bytes
  have hr := B.returns
  have hts0 := atoms_spec (ws := w_X5_comeBack) B.pre
  have hts : ∀ w ∈ BW, w.before args s = true := fun w hw => hts0 w (List.mem_cons_of_mem _ hw)
  have hown : s.vm.findClass RX5 = some m.cls := findClass_of_methodNamed B.named
  have hlocks := B.notSynchronized
  have j27 : ∀ (h : Hp) (H : Heap) (locs : List Loc) (ls : Array Slot), SM D G base h H → va_S (Ab base) s.heap H locs → lvh ls 3 [] → f_X5_comeBack_j27 h = some (rv, h') → W p l e (headSpec w_X5_comeBack rm_X5_comeBack).room s m args below meth c H locs 0 0 (QV D G base rv h' below args s 0 0) (F0 m 27 ls []) := by
    intro h H locs ls hM hS hl hrun
    unfold f_X5_comeBack_j27 at hrun
    exact s_vret hx hb hr hlocks hM hS hrun (Nat.le_of_ble_eq_true rfl) (Nat.le_of_ble_eq_true rfl) dX5_comeBack_27
  refine s_entry hargs hM (c_r (c_i c_0)) (Nat.le_of_ble_eq_true rfl) (fun H locs ls hM hS hl => ?_)
  replace hl : lvh ls 3 [(0, vr x0), (1, vi x1)] := hl
  unfold f_X5_comeBack at hrun
  refine s_aload_n hx hb dX5_comeBack_0 rfl (la hl 0 rfl) ?_
  refine lv_iload_n hx hb dX5_comeBack_1 rfl (la hl 1 rfl) ?_
  obtain ⟨u2, g2, hrun⟩ := bd hrun
  obtain ⟨r1, g1, hrun⟩ := bd hrun
  refine s_callV (n := 1) (rest := []) [vi x1] hx hb hml hown hts hE hM hS (c_X5_slabAt l D G base h r1.2 x0 x1 r1.1 i_x1 g1) kw_138 kw_135 kw_37 kw_137 kw_4 (by decide +kernel) ⟨Nat.le_of_ble_eq_true rfl, Nat.le_of_ble_eq_true rfl⟩ rfl rfl (by decide) g2 rfl hl.1.1 rfl (c8 c_0 (Nat.le_of_ble_eq_true rfl)) dX5_comeBack_2 ⟨Nat.le_of_ble_eq_true rfl, Nat.le_of_ble_eq_true rfl⟩ (fun H locs i_r1 hM hS => ?_)
  refine W.eq (g2 := F0 m 5 ls [vr r1.1]) rfl ?_
  refine t_astore_n (lv' := [(2, vr r1.1), (0, vr x0), (1, vi x1)]) hx hb dX5_comeBack_5 rfl hl (by decide) rfl (fun ls hl => ?_)
  refine s_aload_n hx hb dX5_comeBack_6 rfl (la hl 0 rfl) ?_
  refine s_ifnull (tgt := 27) hx hb dX5_comeBack_7 (by decide) (fun cd => ?_) (fun cd => ?_)
  · replace hrun := it_pos cd hrun
    exact j27 r1.2 H locs ls hM hS (lsub hl [] rfl) hrun
  · replace hrun := it_neg cd hrun
    refine s_aload_n hx hb dX5_comeBack_10 rfl (la hl 0 rfl) ?_
    refine s_aload_n hx hb dX5_comeBack_11 rfl (la hl 0 rfl) ?_
    refine lv_iload_n hx hb dX5_comeBack_12 rfl (la hl 2 rfl) ?_
    obtain ⟨u4, g4, hrun⟩ := bd hrun
    obtain ⟨r3, g3, hrun⟩ := bd hrun
    refine s_callV (n := 1) (rest := [vr r1.1]) [vi x1] hx hb hml hown hts hE hM hS (c_X3_numberOver l D G base r1.2 r3.2 r1.1 x1 r3.1 i_x1 g3) kw_147 kw_144 kw_51 kw_145 kw_146 (by decide +kernel) ⟨Nat.le_of_ble_eq_true rfl, Nat.le_of_ble_eq_true rfl⟩ rfl rfl (by decide) g4 rfl hl.1.1 rfl (c8 (c_r c_0) (Nat.le_of_ble_eq_true rfl)) dX5_comeBack_13 ⟨Nat.le_of_ble_eq_true rfl, Nat.le_of_ble_eq_true rfl⟩ (fun H locs i_r3 hM hS => ?_)
    refine W.eq (g2 := F0 m 16 ls [vi r3.1, vr r1.1]) rfl ?_
    obtain ⟨u6, g6, hrun⟩ := bd hrun
    obtain ⟨r5, g5, hrun⟩ := bd hrun
    refine s_callV (n := 1) (rest := []) [vi r3.1] hx hb hml hown hts hE hM hS (c_X3_putFirst l D G base r3.2 r5.2 r1.1 r3.1 r5.1 i_r3 g5) kw_576 kw_573 kw_51 kw_574 kw_575 (by decide +kernel) ⟨Nat.le_of_ble_eq_true rfl, Nat.le_of_ble_eq_true rfl⟩ rfl rfl (by decide) g6 rfl hl.1.1 rfl (c8 c_0 (Nat.le_of_ble_eq_true rfl)) dX5_comeBack_16 ⟨Nat.le_of_ble_eq_true rfl, Nat.le_of_ble_eq_true rfl⟩ (fun H locs i_r5 hM hS => ?_)
    refine W.eq (g2 := F0 m 19 ls []) rfl ?_
    refine s_aload_n hx hb dX5_comeBack_19 rfl (la hl 0 rfl) ?_
    obtain ⟨v7, g7, hrun⟩ := bd hrun
    refine s_getfr hx hb hts kl_3 hown hE.1 hM (ci := 3) rfl (by decide) rfl (k := 0) (by decide) rfl (hts _ kw_455) g7 dX5_comeBack_20 ?_
    refine s_aload_n hx hb dX5_comeBack_23 rfl (la hl 0 rfl) ?_
    obtain ⟨u9, g9, hrun⟩ := bd hrun
    obtain ⟨r8, g8, hrun⟩ := bd hrun
    refine s_callV (n := 1) (rest := []) [vr r1.1] hx hb hml hown hts hE hM hS (c_X1_relist l D G base r5.2 r8.2 v7 r1.1 r8.1 g8) kw_497 kw_494 kw_45 kw_495 kw_496 (by decide +kernel) ⟨Nat.le_of_ble_eq_true rfl, Nat.le_of_ble_eq_true rfl⟩ rfl rfl (by decide) g9 rfl hl.1.1 rfl (c8 c_0 (Nat.le_of_ble_eq_true rfl)) dX5_comeBack_24 ⟨Nat.le_of_ble_eq_true rfl, Nat.le_of_ble_eq_true rfl⟩ (fun H locs i_r8 hM hS => ?_)
    refine W.eq (g2 := F0 m 27 ls []) rfl ?_
    exact j27 r8.2 H locs ls hM hS (lsub hl [] rfl) hrun
def f_X5_unload_s7 (k7 : Hp → Int → Int → Int → Int → Option (Int × Hp)) (h : Hp) (x0 x1 x2 x3 : Int) : Option (Int × Hp) :=
  if x2 ≤ x3 then (
    some (x2, h)
  ) else (
    Option.bind (ckd h 2 x1) fun u3 =>
    Option.bind (f_X2_takeLast h x1) fun r2 =>
    Option.bind (ckd r2.2 5 x0) fun u5 =>
    Option.bind (f_X5_comeBack r2.2 x0 r2.1) fun r4 =>
    k7 r4.2 x0 x1 x2 (wr (x3 + 1))
  )
def f_X5_unload_b7 : Nat → Hp → Int → Int → Int → Int → Option (Int × Hp)
  | 0, _, _, _, _, _ => none
  | n + 1, h, x0, x1, x2, x3 => f_X5_unload_s7 (f_X5_unload_b7 n) h x0 x1 x2 x3
def f_X5_unload (h : Hp) (x0 x1 : Int) : Option (Int × Hp) :=
  Option.bind (gtf h 2 1 x1) fun v1 =>
  f_X5_unload_b7 fuel h x0 x1 v1 0
abbrev w_X5_unload : List Cond := Cond.code yX5_unload cX5_unload 4 (some .int) :: BW
abbrev rm_X5_unload : Room := { frames := 4, cells := 0, slots := 0, locals := 86 }
set_option maxHeartbeats 4000000 in
set_option maxRecDepth 100000 in
theorem c_X5_unload (l : Launch) (D : va_G) (G : Nat → ClassId) (base : Nat) (h h' : Hp) (x0 x1 : Int) (rv : Int) (hrun : f_X5_unload h x0 x1 = some (rv, h')) : Met l yX5_unload w_X5_unload rm_X5_unload (PC l D G base h [vr x0, vr x1]) (QR D G base (some (vi rv)) (inr rv) h') rm_X5_unload.cells rm_X5_unload.slots (Ab base) := by
  refine Met.ofW (cc := cX5_unload) (maxL := 4) (ret := (some .int)) (by decide) rfl ?_
  intro p e s m args below meth c s₁ B hml hv
  obtain ⟨hargs, hE, hM⟩ := hv
  have hx := B.exec
  have hb := B.bytes
  have hr := B.returns
  have hts0 := atoms_spec (ws := w_X5_unload) B.pre
  have hts : ∀ w ∈ BW, w.before args s = true := fun w hw => hts0 w (List.mem_cons_of_mem _ hw)
  have hown : s.vm.findClass RX5 = some m.cls := findClass_of_methodNamed B.named
  have hlocks := B.notSynchronized
  have lp7 : ∀ (n7 : Nat) (h : Hp) (x0 x1 x2 x3 : Int) (H : Heap) (locs : List Loc) (ls : Array Slot), inr x2 → inr x3 → SM D G base h H → va_S (Ab base) s.heap H locs → lvh ls 4 [(0, vr x0), (1, vr x1), (2, vi x2), (3, vi x3)] → f_X5_unload_b7 n7 h x0 x1 x2 x3 = some (rv, h') → W p l e (headSpec w_X5_unload rm_X5_unload).room s m args below meth c H locs 0 0 (QI D G base rv h' below args s 0 0) (F0 m 7 ls []) := by
    intro n7
    induction n7 with
    | zero => intro h x0 x1 x2 x3 H locs ls i_x2 i_x3 hM hS hl hrun; exact absurd hrun (fun q => nomatch (show (none : Option (Int × Hp)) = some (rv, h') from q))
    | succ n7 ih7 =>
      intro h x0 x1 x2 x3 H locs ls i_x2 i_x3 hM hS hl hrun
      replace hrun : f_X5_unload_s7 (f_X5_unload_b7 n7) h x0 x1 x2 x3 = some (rv, h') := hrun
      unfold f_X5_unload_s7 at hrun
      refine lv_iload_n hx hb dX5_unload_7 rfl (la hl 3 rfl) ?_
      refine lv_iload_n hx hb dX5_unload_8 rfl (la hl 2 rfl) ?_
      refine s_icmp_ge (tgt := 26) hx hb dX5_unload_9 (by decide) i_x3 i_x2 (fun cd => ?_) (fun cd => ?_)
      · replace hrun := it_pos cd hrun
        refine lv_iload_n hx hb dX5_unload_26 rfl (la hl 2 rfl) ?_
        exact s_iret hx hb hr hlocks hM hS i_x2 hrun (Nat.le_of_ble_eq_true rfl) (Nat.le_of_ble_eq_true rfl) dX5_unload_27
      · replace hrun := it_neg cd hrun
        refine s_aload_n hx hb dX5_unload_12 rfl (la hl 0 rfl) ?_
        refine s_aload_n hx hb dX5_unload_13 rfl (la hl 1 rfl) ?_
        obtain ⟨u3, g3, hrun⟩ := bd hrun
        obtain ⟨r2, g2, hrun⟩ := bd hrun
        refine s_callV (n := 0) (rest := [vr x0]) [] hx hb hml hown hts hE hM hS (c_X2_takeLast l D G base h r2.2 x1 r2.1 g2) kw_424 kw_600 kw_47 kw_422 kw_423 (by decide +kernel) ⟨Nat.le_of_ble_eq_true rfl, Nat.le_of_ble_eq_true rfl⟩ rfl rfl (by decide) g3 rfl hl.1.1 rfl (c8 (c_r c_0) (Nat.le_of_ble_eq_true rfl)) dX5_unload_14 ⟨Nat.le_of_ble_eq_true rfl, Nat.le_of_ble_eq_true rfl⟩ (fun H locs i_r2 hM hS => ?_)
        refine W.eq (g2 := F0 m 17 ls [vi r2.1, vr x0]) rfl ?_
        obtain ⟨u5, g5, hrun⟩ := bd hrun
        obtain ⟨r4, g4, hrun⟩ := bd hrun
        refine s_callV (n := 1) (rest := []) [vi r2.1] hx hb hml hown hts hE hM hS (c_X5_comeBack l D G base r2.2 r4.2 x0 r2.1 r4.1 i_r2 g4) kw_572 kw_569 kw_37 kw_571 kw_13 (by decide +kernel) ⟨Nat.le_of_ble_eq_true rfl, Nat.le_of_ble_eq_true rfl⟩ rfl rfl (by decide) g5 rfl hl.1.1 rfl (c8 c_0 (Nat.le_of_ble_eq_true rfl)) dX5_unload_17 ⟨Nat.le_of_ble_eq_true rfl, Nat.le_of_ble_eq_true rfl⟩ (fun H locs i_r4 hM hS => ?_)
        refine W.eq (g2 := F0 m 20 ls []) rfl ?_
        refine t_iinc (lv' := [(3, vi (wr (x3 + 1))), (0, vr x0), (1, vr x1), (2, vi x2)]) hx hb dX5_unload_20 hl (k := 3) rfl (by decide) rfl rfl (fun ls hl => ?_)
        refine lv_goto (tgt := 7) hx hb dX5_unload_23 (by decide) ?_
        exact ih7 r4.2 x0 x1 x2 (wr (x3 + 1)) H locs ls i_x2 (inr_wr _) hM hS (lsub hl [1, 2, 3, 0] rfl) hrun
  refine s_entry hargs hM (c_r (c_r c_0)) (Nat.le_of_ble_eq_true rfl) (fun H locs ls hM hS hl => ?_)
  replace hl : lvh ls 4 [(0, vr x0), (1, vr x1)] := hl
  unfold f_X5_unload at hrun
  refine s_aload_n hx hb dX5_unload_0 rfl (la hl 1 rfl) ?_
  obtain ⟨v1, g1, hrun⟩ := bd hrun
  refine s_getfi hx hb hts kl_2 hown hE.1 hM (ci := 2) rfl (by decide) rfl (k := 1) (by decide) rfl (hts _ kw_280) g1 dX5_unload_1 ?_
  have i_v1 : inr v1 := gtf_i hM g1 (by decide) rfl
  refine t_istore_n (lv' := [(2, vi v1), (0, vr x0), (1, vr x1)]) hx hb dX5_unload_4 rfl hl (by decide) rfl (fun ls hl => ?_)
  refine lv_iconst (v := Int32.ofInt 0) hx hb dX5_unload_5 rfl ?_
  refine t_istore_n (lv' := [(3, vi 0), (2, vi v1), (0, vr x0), (1, vr x1)]) hx hb dX5_unload_6 rfl hl (by decide) rfl (fun ls hl => ?_)
  exact lp7 fuel h x0 x1 v1 0 H locs ls i_v1 (by decide) hM hS (lsub hl [2, 3, 1, 0] rfl) hrun
def f_X5_cacheOf_j21 (h : Hp) (s0 : Int) : Option (Int × Hp) :=
  some (s0, h)
def f_X5_cacheOf (h : Hp) (x0 x1 : Int) : Option (Int × Hp) :=
  Option.bind (ckd h 5 x0) fun u2 =>
  Option.bind (f_X5_slabAt h x0 x1) fun r1 =>
  if 0 ≤ r1.1 then (
    Option.bind (gtf r1.2 3 0 r1.1) fun v3 =>
    Option.bind (gtf r1.2 1 0 v3) fun v4 =>
    f_X5_cacheOf_j21 r1.2 v4
  ) else (
    f_X5_cacheOf_j21 r1.2 (-1)
  )
abbrev w_X5_cacheOf : List Cond := Cond.code yX5_cacheOf cX5_cacheOf 3 (some .int) :: BW
abbrev rm_X5_cacheOf : Room := { frames := 1, cells := 0, slots := 0, locals := 21 }
set_option maxHeartbeats 4000000 in
set_option maxRecDepth 100000 in
theorem c_X5_cacheOf (l : Launch) (D : va_G) (G : Nat → ClassId) (base : Nat) (h h' : Hp) (x0 x1 : Int) (rv : Int) (i_x1 : inr x1) (hrun : f_X5_cacheOf h x0 x1 = some (rv, h')) : Met l yX5_cacheOf w_X5_cacheOf rm_X5_cacheOf (PC l D G base h [vr x0, vi x1]) (QR D G base (some (vi rv)) (inr rv) h') rm_X5_cacheOf.cells rm_X5_cacheOf.slots (Ab base) := by
  refine Met.ofW (cc := cX5_cacheOf) (maxL := 3) (ret := (some .int)) (by decide) rfl ?_
  intro p e s m args below meth c s₁ B hml hv
  obtain ⟨hargs, hE, hM⟩ := hv
  have hx := B.exec
  have hb := B.bytes
  have hr := B.returns
  have hts0 := atoms_spec (ws := w_X5_cacheOf) B.pre
  have hts : ∀ w ∈ BW, w.before args s = true := fun w hw => hts0 w (List.mem_cons_of_mem _ hw)
  have hown : s.vm.findClass RX5 = some m.cls := findClass_of_methodNamed B.named
  have hlocks := B.notSynchronized
  have j21 : ∀ (h : Hp) (s0 : Int) (H : Heap) (locs : List Loc) (ls : Array Slot), inr s0 → SM D G base h H → va_S (Ab base) s.heap H locs → lvh ls 3 [] → f_X5_cacheOf_j21 h s0 = some (rv, h') → W p l e (headSpec w_X5_cacheOf rm_X5_cacheOf).room s m args below meth c H locs 0 0 (QI D G base rv h' below args s 0 0) (F0 m 21 ls [vi s0]) := by
    intro h s0 H locs ls i_s0 hM hS hl hrun
    unfold f_X5_cacheOf_j21 at hrun
    exact s_iret hx hb hr hlocks hM hS i_s0 hrun (Nat.le_of_ble_eq_true rfl) (Nat.le_of_ble_eq_true rfl) dX5_cacheOf_21
  refine s_entry hargs hM (c_r (c_i c_0)) (Nat.le_of_ble_eq_true rfl) (fun H locs ls hM hS hl => ?_)
  replace hl : lvh ls 3 [(0, vr x0), (1, vi x1)] := hl
  unfold f_X5_cacheOf at hrun
  refine s_aload_n hx hb dX5_cacheOf_0 rfl (la hl 0 rfl) ?_
  refine lv_iload_n hx hb dX5_cacheOf_1 rfl (la hl 1 rfl) ?_
  obtain ⟨u2, g2, hrun⟩ := bd hrun
  obtain ⟨r1, g1, hrun⟩ := bd hrun
  refine s_callV (n := 1) (rest := []) [vi x1] hx hb hml hown hts hE hM hS (c_X5_slabAt l D G base h r1.2 x0 x1 r1.1 i_x1 g1) kw_138 kw_135 kw_37 kw_137 kw_4 (by decide +kernel) ⟨Nat.le_of_ble_eq_true rfl, Nat.le_of_ble_eq_true rfl⟩ rfl rfl (by decide) g2 rfl hl.1.1 rfl (c8 c_0 (Nat.le_of_ble_eq_true rfl)) dX5_cacheOf_2 ⟨Nat.le_of_ble_eq_true rfl, Nat.le_of_ble_eq_true rfl⟩ (fun H locs i_r1 hM hS => ?_)
  refine W.eq (g2 := F0 m 5 ls [vr r1.1]) rfl ?_
  refine t_astore_n (lv' := [(2, vr r1.1), (0, vr x0), (1, vi x1)]) hx hb dX5_cacheOf_5 rfl hl (by decide) rfl (fun ls hl => ?_)
  refine s_aload_n hx hb dX5_cacheOf_6 rfl (la hl 0 rfl) ?_
  refine s_ifnonnull (tgt := 14) hx hb dX5_cacheOf_7 (by decide) (fun cd => ?_) (fun cd => ?_)
  · replace hrun := it_pos cd hrun
    refine s_aload_n hx hb dX5_cacheOf_14 rfl (la hl 0 rfl) ?_
    obtain ⟨v3, g3, hrun⟩ := bd hrun
    refine s_getfr hx hb hts kl_3 hown hE.1 hM (ci := 3) rfl (by decide) rfl (k := 0) (by decide) rfl (hts _ kw_455) g3 dX5_cacheOf_15 ?_
    obtain ⟨v4, g4, hrun⟩ := bd hrun
    refine s_getfi hx hb hts kl_1 hown hE.1 hM (ci := 1) rfl (by decide) rfl (k := 0) (by decide) rfl (hts _ kw_287) g4 dX5_cacheOf_18 ?_
    have i_v4 : inr v4 := gtf_i hM g4 (by decide) rfl
    exact j21 r1.2 v4 H locs ls i_v4 hM hS (lsub hl [] rfl) hrun
  · replace hrun := it_neg cd hrun
    refine lv_iconst (v := Int32.ofInt (-1)) hx hb dX5_cacheOf_10 rfl ?_
    refine lv_goto (tgt := 21) hx hb dX5_cacheOf_11 (by decide) ?_
    exact j21 r1.2 (-1) H locs ls (by decide) hM hS (lsub hl [] rfl) hrun
def f_X5_objectOf_j55 (h : Hp) (s0 : Int) : Option (Int × Hp) :=
  some (s0, h)
def f_X5_objectOf (h : Hp) (x0 x1 : Int) : Option (Int × Hp) :=
  Option.bind (ckd h 5 x0) fun u2 =>
  Option.bind (f_X5_slabAt h x0 x1) fun r1 =>
  if 0 ≤ r1.1 then (
    Option.bind (ckd r1.2 3 r1.1) fun u4 =>
    Option.bind (f_X3_numberOver r1.2 r1.1 x1) fun r3 =>
    Option.bind (ckd r3.2 3 r1.1) fun u6 =>
    Option.bind (f_X3_isLive r3.2 r1.1 r3.1) fun r5 =>
    if r5.1 ≠ 0 then (
      Option.bind (ckd r5.2 3 r1.1) fun u8 =>
      Option.bind (f_X3_beginOf r5.2 r1.1 r3.1) fun r7 =>
      Option.bind (gtf r7.2 3 0 r1.1) fun v9 =>
      Option.bind (gtf r7.2 1 1 v9) fun v10 =>
      if v10 ≤ (wr (x1 - r7.1)) then (
        f_X5_objectOf_j55 r7.2 (-1)
      ) else (
        f_X5_objectOf_j55 r7.2 r7.1
      )
    ) else (
      some ((-1), r5.2)
    )
  ) else (
    some ((-1), r1.2)
  )
abbrev w_X5_objectOf : List Cond := Cond.code yX5_objectOf cX5_objectOf 5 (some .int) :: BW
abbrev rm_X5_objectOf : Room := { frames := 3, cells := 0, slots := 0, locals := 64 }
set_option maxHeartbeats 4000000 in
set_option maxRecDepth 100000 in
theorem c_X5_objectOf (l : Launch) (D : va_G) (G : Nat → ClassId) (base : Nat) (h h' : Hp) (x0 x1 : Int) (rv : Int) (i_x1 : inr x1) (hrun : f_X5_objectOf h x0 x1 = some (rv, h')) : Met l yX5_objectOf w_X5_objectOf rm_X5_objectOf (PC l D G base h [vr x0, vi x1]) (QR D G base (some (vi rv)) (inr rv) h') rm_X5_objectOf.cells rm_X5_objectOf.slots (Ab base) := by
  refine Met.ofW (cc := cX5_objectOf) (maxL := 5) (ret := (some .int)) (by decide) rfl ?_
  intro p e s m args below meth c s₁ B hml hv
  obtain ⟨hargs, hE, hM⟩ := hv
  have hx := B.exec
  have hb := B.bytes
  have hr := B.returns
  have hts0 := atoms_spec (ws := w_X5_objectOf) B.pre
  have hts : ∀ w ∈ BW, w.before args s = true := fun w hw => hts0 w (List.mem_cons_of_mem _ hw)
  have hown : s.vm.findClass RX5 = some m.cls := findClass_of_methodNamed B.named
  have hlocks := B.notSynchronized
  have j55 : ∀ (h : Hp) (s0 : Int) (H : Heap) (locs : List Loc) (ls : Array Slot), inr s0 → SM D G base h H → va_S (Ab base) s.heap H locs → lvh ls 5 [] → f_X5_objectOf_j55 h s0 = some (rv, h') → W p l e (headSpec w_X5_objectOf rm_X5_objectOf).room s m args below meth c H locs 0 0 (QI D G base rv h' below args s 0 0) (F0 m 55 ls [vi s0]) := by
    intro h s0 H locs ls i_s0 hM hS hl hrun
    unfold f_X5_objectOf_j55 at hrun
    exact s_iret hx hb hr hlocks hM hS i_s0 hrun (Nat.le_of_ble_eq_true rfl) (Nat.le_of_ble_eq_true rfl) dX5_objectOf_55
  refine s_entry hargs hM (c_r (c_i c_0)) (Nat.le_of_ble_eq_true rfl) (fun H locs ls hM hS hl => ?_)
  replace hl : lvh ls 5 [(0, vr x0), (1, vi x1)] := hl
  unfold f_X5_objectOf at hrun
  refine s_aload_n hx hb dX5_objectOf_0 rfl (la hl 0 rfl) ?_
  refine lv_iload_n hx hb dX5_objectOf_1 rfl (la hl 1 rfl) ?_
  obtain ⟨u2, g2, hrun⟩ := bd hrun
  obtain ⟨r1, g1, hrun⟩ := bd hrun
  refine s_callV (n := 1) (rest := []) [vi x1] hx hb hml hown hts hE hM hS (c_X5_slabAt l D G base h r1.2 x0 x1 r1.1 i_x1 g1) kw_138 kw_135 kw_37 kw_137 kw_4 (by decide +kernel) ⟨Nat.le_of_ble_eq_true rfl, Nat.le_of_ble_eq_true rfl⟩ rfl rfl (by decide) g2 rfl hl.1.1 rfl (c8 c_0 (Nat.le_of_ble_eq_true rfl)) dX5_objectOf_2 ⟨Nat.le_of_ble_eq_true rfl, Nat.le_of_ble_eq_true rfl⟩ (fun H locs i_r1 hM hS => ?_)
  refine W.eq (g2 := F0 m 5 ls [vr r1.1]) rfl ?_
  refine t_astore_n (lv' := [(2, vr r1.1), (0, vr x0), (1, vi x1)]) hx hb dX5_objectOf_5 rfl hl (by decide) rfl (fun ls hl => ?_)
  refine s_aload_n hx hb dX5_objectOf_6 rfl (la hl 0 rfl) ?_
  refine s_ifnonnull (tgt := 12) hx hb dX5_objectOf_7 (by decide) (fun cd => ?_) (fun cd => ?_)
  · replace hrun := it_pos cd hrun
    refine s_aload_n hx hb dX5_objectOf_12 rfl (la hl 0 rfl) ?_
    refine lv_iload_n hx hb dX5_objectOf_13 rfl (la hl 2 rfl) ?_
    obtain ⟨u4, g4, hrun⟩ := bd hrun
    obtain ⟨r3, g3, hrun⟩ := bd hrun
    refine s_callV (n := 1) (rest := []) [vi x1] hx hb hml hown hts hE hM hS (c_X3_numberOver l D G base r1.2 r3.2 r1.1 x1 r3.1 i_x1 g3) kw_147 kw_144 kw_51 kw_145 kw_146 (by decide +kernel) ⟨Nat.le_of_ble_eq_true rfl, Nat.le_of_ble_eq_true rfl⟩ rfl rfl (by decide) g4 rfl hl.1.1 rfl (c8 c_0 (Nat.le_of_ble_eq_true rfl)) dX5_objectOf_14 ⟨Nat.le_of_ble_eq_true rfl, Nat.le_of_ble_eq_true rfl⟩ (fun H locs i_r3 hM hS => ?_)
    refine W.eq (g2 := F0 m 17 ls [vi r3.1]) rfl ?_
    refine t_istore_n (lv' := [(3, vi r3.1), (2, vr r1.1), (0, vr x0), (1, vi x1)]) hx hb dX5_objectOf_17 rfl hl (by decide) rfl (fun ls hl => ?_)
    refine s_aload_n hx hb dX5_objectOf_18 rfl (la hl 1 rfl) ?_
    refine lv_iload_n hx hb dX5_objectOf_19 rfl (la hl 0 rfl) ?_
    obtain ⟨u6, g6, hrun⟩ := bd hrun
    obtain ⟨r5, g5, hrun⟩ := bd hrun
    refine s_callV (n := 1) (rest := []) [vi r3.1] hx hb hml hown hts hE hM hS (c_X3_isLive l D G base r3.2 r5.2 r1.1 r3.1 r5.1 i_r3 g5) kw_159 kw_156 kw_51 kw_157 kw_158 (by decide +kernel) ⟨Nat.le_of_ble_eq_true rfl, Nat.le_of_ble_eq_true rfl⟩ rfl rfl (by decide) g6 rfl hl.1.1 rfl (c8 c_0 (Nat.le_of_ble_eq_true rfl)) dX5_objectOf_20 ⟨Nat.le_of_ble_eq_true rfl, Nat.le_of_ble_eq_true rfl⟩ (fun H locs i_r5 hM hS => ?_)
    refine W.eq (g2 := F0 m 23 ls [vi r5.1]) rfl ?_
    refine s_if_ne (tgt := 28) hx hb dX5_objectOf_23 (by decide) i_r5 (fun cd => ?_) (fun cd => ?_)
    · replace hrun := it_pos cd hrun
      refine s_aload_n hx hb dX5_objectOf_28 rfl (la hl 1 rfl) ?_
      refine lv_iload_n hx hb dX5_objectOf_29 rfl (la hl 0 rfl) ?_
      obtain ⟨u8, g8, hrun⟩ := bd hrun
      obtain ⟨r7, g7, hrun⟩ := bd hrun
      refine s_callV (n := 1) (rest := []) [vi r3.1] hx hb hml hown hts hE hM hS (c_X3_beginOf l D G base r5.2 r7.2 r1.1 r3.1 r7.1 i_r3 g7) kw_151 kw_165 kw_51 kw_149 kw_150 (by decide +kernel) ⟨Nat.le_of_ble_eq_true rfl, Nat.le_of_ble_eq_true rfl⟩ rfl rfl (by decide) g8 rfl hl.1.1 rfl (c8 c_0 (Nat.le_of_ble_eq_true rfl)) dX5_objectOf_30 ⟨Nat.le_of_ble_eq_true rfl, Nat.le_of_ble_eq_true rfl⟩ (fun H locs i_r7 hM hS => ?_)
      refine W.eq (g2 := F0 m 33 ls [vi r7.1]) rfl ?_
      refine t_istore (lv' := [(4, vi r7.1), (3, vi r3.1), (2, vr r1.1), (0, vr x0), (1, vi x1)]) hx hb dX5_objectOf_33 hl (by decide) rfl (fun ls hl => ?_)
      refine lv_iload_n hx hb dX5_objectOf_35 rfl (la hl 4 rfl) ?_
      refine lv_iload hx hb dX5_objectOf_36 (la hl 0 rfl) ?_
      refine s_isub hx hb dX5_objectOf_38 ?_
      refine s_aload_n hx hb dX5_objectOf_39 rfl (la hl 2 rfl) ?_
      obtain ⟨v9, g9, hrun⟩ := bd hrun
      refine s_getfr hx hb hts kl_3 hown hE.1 hM (ci := 3) rfl (by decide) rfl (k := 0) (by decide) rfl (hts _ kw_455) g9 dX5_objectOf_40 ?_
      obtain ⟨v10, g10, hrun⟩ := bd hrun
      refine s_getfi hx hb hts kl_1 hown hE.1 hM (ci := 1) rfl (by decide) rfl (k := 1) (by decide) rfl (hts _ kw_289) g10 dX5_objectOf_43 ?_
      have i_v10 : inr v10 := gtf_i hM g10 (by decide) rfl
      refine s_icmp_ge (tgt := 54) hx hb dX5_objectOf_46 (by decide) (inr_wr _) i_v10 (fun cd => ?_) (fun cd => ?_)
      · replace hrun := it_pos cd hrun
        refine lv_iconst (v := Int32.ofInt (-1)) hx hb dX5_objectOf_54 rfl ?_
        exact j55 r7.2 (-1) H locs ls (by decide) hM hS (lsub hl [] rfl) hrun
      · replace hrun := it_neg cd hrun
        refine lv_iload hx hb dX5_objectOf_49 (la hl 0 rfl) ?_
        refine lv_goto (tgt := 55) hx hb dX5_objectOf_51 (by decide) ?_
        exact j55 r7.2 r7.1 H locs ls i_r7 hM hS (lsub hl [] rfl) hrun
    · replace hrun := it_neg cd hrun
      refine lv_iconst (v := Int32.ofInt (-1)) hx hb dX5_objectOf_26 rfl ?_
      exact s_iret hx hb hr hlocks hM hS (by decide) hrun (Nat.le_of_ble_eq_true rfl) (Nat.le_of_ble_eq_true rfl) dX5_objectOf_27
  · replace hrun := it_neg cd hrun
    refine lv_iconst (v := Int32.ofInt (-1)) hx hb dX5_objectOf_10 rfl ?_
    exact s_iret hx hb hr hlocks hM hS (by decide) hrun (Nat.le_of_ble_eq_true rfl) (Nat.le_of_ble_eq_true rfl) dX5_objectOf_11
def f_X5_pages_j32 (h : Hp) (s0 : Int) : Option (Int × Hp) :=
  some (s0, h)
def f_X5_pages (h : Hp) (x0 x1 : Int) : Option (Int × Hp) :=
  if x1 ≠ 0 then (
    if x1 ≠ 1 then (
      f_X5_pages_j32 h (-1)
    ) else (
      Option.bind (gtf h 5 0 x0) fun v1 =>
      Option.bind (gtf h 0 1 v1) fun v2 =>
      f_X5_pages_j32 h (wr (256 - v2))
    )
  ) else (
    Option.bind (gtf h 5 0 x0) fun v3 =>
    Option.bind (gtf h 0 1 v3) fun v4 =>
    some (v4, h)
  )
abbrev w_X5_pages : List Cond := Cond.code yX5_pages cX5_pages 2 (some .int) :: BW
abbrev rm_X5_pages : Room := { frames := 0, cells := 0, slots := 0, locals := 0 }
set_option maxHeartbeats 4000000 in
set_option maxRecDepth 100000 in
theorem c_X5_pages (l : Launch) (D : va_G) (G : Nat → ClassId) (base : Nat) (h h' : Hp) (x0 x1 : Int) (rv : Int) (i_x1 : inr x1) (hrun : f_X5_pages h x0 x1 = some (rv, h')) : Met l yX5_pages w_X5_pages rm_X5_pages (PC l D G base h [vr x0, vi x1]) (QR D G base (some (vi rv)) (inr rv) h') rm_X5_pages.cells rm_X5_pages.slots (Ab base) := by
  refine Met.ofW (cc := cX5_pages) (maxL := 2) (ret := (some .int)) (by decide) rfl ?_
  intro p e s m args below meth c s₁ B hml hv
  obtain ⟨hargs, hE, hM⟩ := hv
  have hx := B.exec
  have hb := B.bytes
  have hr := B.returns
  have hts0 := atoms_spec (ws := w_X5_pages) B.pre
  have hts : ∀ w ∈ BW, w.before args s = true := fun w hw => hts0 w (List.mem_cons_of_mem _ hw)
  have hown : s.vm.findClass RX5 = some m.cls := findClass_of_methodNamed B.named
  have hlocks := B.notSynchronized
  have j32 : ∀ (h : Hp) (s0 : Int) (H : Heap) (locs : List Loc) (ls : Array Slot), inr s0 → SM D G base h H → va_S (Ab base) s.heap H locs → lvh ls 2 [] → f_X5_pages_j32 h s0 = some (rv, h') → W p l e (headSpec w_X5_pages rm_X5_pages).room s m args below meth c H locs 0 0 (QI D G base rv h' below args s 0 0) (F0 m 32 ls [vi s0]) := by
    intro h s0 H locs ls i_s0 hM hS hl hrun
    unfold f_X5_pages_j32 at hrun
    exact s_iret hx hb hr hlocks hM hS i_s0 hrun (Nat.le_of_ble_eq_true rfl) (Nat.le_of_ble_eq_true rfl) dX5_pages_32
  refine s_entry hargs hM (c_r (c_i c_0)) (Nat.le_of_ble_eq_true rfl) (fun H locs ls hM hS hl => ?_)
  replace hl : lvh ls 2 [(0, vr x0), (1, vi x1)] := hl
  unfold f_X5_pages at hrun
  refine lv_iload_n hx hb dX5_pages_0 rfl (la hl 1 rfl) ?_
  refine s_if_ne (tgt := 12) hx hb dX5_pages_1 (by decide) i_x1 (fun cd => ?_) (fun cd => ?_)
  · replace hrun := it_pos cd hrun
    refine lv_iload_n hx hb dX5_pages_12 rfl (la hl 1 rfl) ?_
    refine lv_iconst (v := Int32.ofInt 1) hx hb dX5_pages_13 rfl ?_
    refine s_icmp_ne (tgt := 31) hx hb dX5_pages_14 (by decide) i_x1 (by decide) (fun cd => ?_) (fun cd => ?_)
    · replace hrun := it_pos cd hrun
      refine lv_iconst (v := Int32.ofInt (-1)) hx hb dX5_pages_31 rfl ?_
      exact j32 h (-1) H locs ls (by decide) hM hS (lsub hl [] rfl) hrun
    · replace hrun := it_neg cd hrun
      refine lv_sipush (v := Int32.ofInt 256) hx hb dX5_pages_17 (by decide) ?_
      refine s_aload_n hx hb dX5_pages_20 rfl (la hl 0 rfl) ?_
      obtain ⟨v1, g1, hrun⟩ := bd hrun
      refine s_getfr hx hb hts kl_5 hown hE.1 hM (ci := 5) rfl (by decide) rfl (k := 0) (by decide) rfl (hts _ kw_83) g1 dX5_pages_21 ?_
      obtain ⟨v2, g2, hrun⟩ := bd hrun
      refine s_getfi hx hb hts kl_0 hown hE.1 hM (ci := 0) rfl (by decide) rfl (k := 1) (by decide) rfl (hts _ kw_72) g2 dX5_pages_24 ?_
      have i_v2 : inr v2 := gtf_i hM g2 (by decide) rfl
      refine s_isub hx hb dX5_pages_27 ?_
      refine lv_goto (tgt := 32) hx hb dX5_pages_28 (by decide) ?_
      exact j32 h (wr (256 - v2)) H locs ls (inr_wr _) hM hS (lsub hl [] rfl) hrun
  · replace hrun := it_neg cd hrun
    refine s_aload_n hx hb dX5_pages_4 rfl (la hl 0 rfl) ?_
    obtain ⟨v3, g3, hrun⟩ := bd hrun
    refine s_getfr hx hb hts kl_5 hown hE.1 hM (ci := 5) rfl (by decide) rfl (k := 0) (by decide) rfl (hts _ kw_83) g3 dX5_pages_5 ?_
    obtain ⟨v4, g4, hrun⟩ := bd hrun
    refine s_getfi hx hb hts kl_0 hown hE.1 hM (ci := 0) rfl (by decide) rfl (k := 1) (by decide) rfl (hts _ kw_72) g4 dX5_pages_8 ?_
    have i_v4 : inr v4 := gtf_i hM g4 (by decide) rfl
    exact s_iret hx hb hr hlocks hM hS i_v4 hrun (Nat.le_of_ble_eq_true rfl) (Nat.le_of_ble_eq_true rfl) dX5_pages_11
