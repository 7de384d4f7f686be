def f_X3_makeRoomForOne_j54 (h : Hp) : Option (Int × Hp) :=
  some (0, h)
def f_X3_makeRoomForOne (h : Hp) (x0 : Int) : Option (Int × Hp) :=
  Option.bind (gtf h 3 7 x0) fun v1 =>
  Option.bind (gtf h 3 9 x0) fun v2 =>
  Option.bind (aln h 8 v2) fun v3 =>
  if v1 < v3 then (
    f_X3_makeRoomForOne_j54 h
  ) else (
    Option.bind (gtf h 3 0 x0) fun v4 =>
    Option.bind (gtf h 1 6 v4) fun v5 =>
    Option.bind (gtf h 3 9 x0) fun v6 =>
    Option.bind (aln h 8 v6) fun v7 =>
    Option.bind (gtf h 3 9 x0) fun v8 =>
    Option.bind (f_J7_copyOf_59c91 h v8 (imn v5 (wr (2 * v7)))) fun r9 =>
    Option.bind (ptf r9.2 3 9 x0 r9.1) fun h10 =>
    Option.bind (gtf h10 3 10 x0) fun v11 =>
    Option.bind (f_J7_copyOf_59c91 h10 v11 (imn v5 (wr (2 * v7)))) fun r12 =>
    Option.bind (ptf r12.2 3 10 x0 r12.1) fun h13 =>
    f_X3_makeRoomForOne_j54 h13
  )
abbrev w_X3_makeRoomForOne : List Cond := Cond.code yX3_makeRoomForOne cX3_makeRoomForOne 2 none :: BW
abbrev rm_X3_makeRoomForOne : Room := { frames := 2, cells := 2, slots := 2048, locals := 82 }
set_option maxHeartbeats 4000000 in
set_option maxRecDepth 100000 in
theorem c_X3_makeRoomForOne (l : Launch) (D : va_G) (G : Nat → ClassId) (base : Nat) (h h' : Hp) (x0 : Int) (rv : Int) (hrun : f_X3_makeRoomForOne h x0 = some (rv, h')) : Met l yX3_makeRoomForOne w_X3_makeRoomForOne rm_X3_makeRoomForOne (PC l D G base h [vr x0]) (QR D G base none True h') rm_X3_makeRoomForOne.cells rm_X3_makeRoomForOne.slots (Ab base) := by
  refine Met.ofW (cc := cX3_makeRoomForOne) (maxL := 2) (ret := none) (by decide) rfl ?_
  intro p e s m args below meth c s₁ B hml hv
  obtain ⟨hargs, hE, hM⟩ := hv
  have hx := B.exec
  have hb := B.bytes
  have hr := B.returns
  have hts0 := atoms_spec (ws := w_X3_makeRoomForOne) B.pre
  have hts : ∀ w ∈ BW, w.before args s = true := fun w hw => hts0 w (List.mem_cons_of_mem _ hw)
  have hown : s.vm.findClass RX3 = some m.cls := findClass_of_methodNamed B.named
  have hlocks := B.notSynchronized
  have j54 : ∀ (h : Hp) (H : Heap) (locs : List Loc) (ls : Array Slot), SM D G base h H → va_S (Ab base) s.heap H locs → lvh ls 2 [] → f_X3_makeRoomForOne_j54 h = some (rv, h') → W p l e (headSpec w_X3_makeRoomForOne rm_X3_makeRoomForOne).room s m args below meth c H locs 2 2048 (QV D G base rv h' below args s 2 2048) (F0 m 54 ls []) := by
    intro h H locs ls hM hS hl hrun
    unfold f_X3_makeRoomForOne_j54 at hrun
    exact s_vret hx hb hr hlocks hM hS hrun (Nat.le_of_ble_eq_true rfl) (Nat.le_of_ble_eq_true rfl) dX3_makeRoomForOne_54
  refine s_entry hargs hM (c_r c_0) (Nat.le_of_ble_eq_true rfl) (fun H locs ls hM hS hl => ?_)
  replace hl : lvh ls 2 [(0, vr x0)] := hl
  unfold f_X3_makeRoomForOne at hrun
  refine s_aload_n hx hb dX3_makeRoomForOne_0 rfl (la hl 0 rfl) ?_
  obtain ⟨v1, g1, hrun⟩ := bd hrun
  refine s_getfi hx hb hts kl_3 hown hE.1 hM (ci := 3) rfl (by decide) rfl (k := 7) (by decide) rfl (hts _ kw_467) g1 dX3_makeRoomForOne_1 ?_
  have i_v1 : inr v1 := gtf_i hM g1 (by decide) rfl
  refine s_aload_n hx hb dX3_makeRoomForOne_4 rfl (la hl 0 rfl) ?_
  obtain ⟨v2, g2, hrun⟩ := bd hrun
  refine s_getfr hx hb hts kl_3 hown hE.1 hM (ci := 3) rfl (by decide) rfl (k := 9) (by decide) rfl (hts _ kw_469) g2 dX3_makeRoomForOne_5 ?_
  obtain ⟨v3, g3, hrun⟩ := bd hrun
  refine s_alen hx hb hE.1 hM g3 dX3_makeRoomForOne_8 ?_
  have i_v3 : inr v3 := aln_i g3
  refine s_icmp_lt (tgt := 54) hx hb dX3_makeRoomForOne_9 (by decide) i_v1 i_v3 (fun cd => ?_) (fun cd => ?_)
  · replace hrun := it_pos cd hrun
    refine W.widen (k := 2) (n := 2048) (Nat.le_of_ble_eq_true rfl) (Nat.le_of_ble_eq_true rfl) ?_
    exact j54 h H locs ls hM hS (lsub hl [] rfl) hrun
  · replace hrun := it_neg cd hrun
    refine s_aload_n hx hb dX3_makeRoomForOne_12 rfl (la hl 0 rfl) ?_
    obtain ⟨v4, g4, hrun⟩ := bd hrun
    refine s_getfr hx hb hts kl_3 hown hE.1 hM (ci := 3) rfl (by decide) rfl (k := 0) (by decide) rfl (hts _ kw_454) g4 dX3_makeRoomForOne_13 ?_
    obtain ⟨v5, g5, hrun⟩ := bd hrun
    refine s_getfi hx hb hts kl_1 hown hE.1 hM (ci := 1) rfl (by decide) rfl (k := 6) (by decide) rfl (hts _ kw_300) g5 dX3_makeRoomForOne_16 ?_
    have i_v5 : inr v5 := gtf_i hM g5 (by decide) rfl
    refine lv_iconst (v := Int32.ofInt 2) hx hb dX3_makeRoomForOne_19 rfl ?_
    refine s_aload_n hx hb dX3_makeRoomForOne_20 rfl (la hl 0 rfl) ?_
    obtain ⟨v6, g6, hrun⟩ := bd hrun
    refine s_getfr hx hb hts kl_3 hown hE.1 hM (ci := 3) rfl (by decide) rfl (k := 9) (by decide) rfl (hts _ kw_469) g6 dX3_makeRoomForOne_21 ?_
    obtain ⟨v7, g7, hrun⟩ := bd hrun
    refine s_alen hx hb hE.1 hM g7 dX3_makeRoomForOne_24 ?_
    have i_v7 : inr v7 := aln_i g7
    refine s_imul hx hb dX3_makeRoomForOne_25 ?_
    refine s_min hx hb hml hl.1.1 hown hts kw_450 kw_117 kw_50 kw_118 (Nat.le_of_ble_eq_true rfl) (cN c_0 (Nat.le_of_ble_eq_true rfl)) (Nat.le_of_ble_eq_true rfl) (Nat.le_of_ble_eq_true rfl) i_v5 (inr_wr _) dX3_makeRoomForOne_26 ?_
    refine t_istore_n (lv' := [(1, vi (imn v5 (wr (2 * v7)))), (0, vr x0)]) hx hb dX3_makeRoomForOne_29 rfl hl (by decide) rfl (fun ls hl => ?_)
    refine s_aload_n hx hb dX3_makeRoomForOne_30 rfl (la hl 1 rfl) ?_
    refine s_aload_n hx hb dX3_makeRoomForOne_31 rfl (la hl 1 rfl) ?_
    obtain ⟨v8, g8, hrun⟩ := bd hrun
    refine s_getfr hx hb hts kl_3 hown hE.1 hM (ci := 3) rfl (by decide) rfl (k := 9) (by decide) rfl (hts _ kw_469) g8 dX3_makeRoomForOne_32 ?_
    refine lv_iload_n hx hb dX3_makeRoomForOne_35 rfl (la hl 0 rfl) ?_
    obtain ⟨r9, g9, hrun⟩ := bd hrun
    refine s_callS (n := 2) (rest := [vr x0]) [vr v8, vi (imn v5 (wr (2 * v7)))] hx hb hml hown hts hE hM hS (c_J7_copyOf_59c91 l D G base h r9.2 v8 (imn v5 (wr (2 * v7))) r9.1 (inr_mn i_v5 (inr_wr _)) g9) kw_521 kw_519 kw_39 kw_520 (by decide +kernel) ⟨Nat.le_of_ble_eq_true rfl, Nat.le_of_ble_eq_true rfl⟩ rfl hl.1.1 rfl (c8 (c_r c_0) (Nat.le_of_ble_eq_true rfl)) dX3_makeRoomForOne_36 ⟨Nat.le_of_ble_eq_true rfl, Nat.le_of_ble_eq_true rfl⟩ (fun H locs i_r9 hM hS => ?_)
    refine W.eq (g2 := F0 m 39 ls [vr r9.1, vr x0]) rfl ?_
    obtain ⟨h10, g10, hrun⟩ := bd hrun
    refine s_put (b := true) hx hb hts kl_3 tyX3 tyX3_ok nmX3 hown hE.1 hM hS (ci := 3) rfl (by decide) rfl (k := 9) (by decide) rfl (hts _ kw_469) rfl (nar_a _) (fit_a _) (fun q => by cases q) g10 dX3_makeRoomForOne_39 (fun H locs hM hS => ?_)
    refine s_aload_n hx hb dX3_makeRoomForOne_42 rfl (la hl 1 rfl) ?_
    refine s_aload_n hx hb dX3_makeRoomForOne_43 rfl (la hl 1 rfl) ?_
    obtain ⟨v11, g11, hrun⟩ := bd hrun
    refine s_getfr hx hb hts kl_3 hown hE.1 hM (ci := 3) rfl (by decide) rfl (k := 10) (by decide) rfl (hts _ kw_470) g11 dX3_makeRoomForOne_44 ?_
    refine lv_iload_n hx hb dX3_makeRoomForOne_47 rfl (la hl 0 rfl) ?_
    obtain ⟨r12, g12, hrun⟩ := bd hrun
    refine s_callS (n := 2) (rest := [vr x0]) [vr v11, vi (imn v5 (wr (2 * v7)))] hx hb hml hown hts hE hM hS (c_J7_copyOf_59c91 l D G base h10 r12.2 v11 (imn v5 (wr (2 * v7))) r12.1 (inr_mn i_v5 (inr_wr _)) g12) kw_521 kw_519 kw_39 kw_520 (by decide +kernel) ⟨Nat.le_of_ble_eq_true rfl, Nat.le_of_ble_eq_true rfl⟩ rfl hl.1.1 rfl (c8 (c_r c_0) (Nat.le_of_ble_eq_true rfl)) dX3_makeRoomForOne_48 ⟨Nat.le_of_ble_eq_true rfl, Nat.le_of_ble_eq_true rfl⟩ (fun H locs i_r12 hM hS => ?_)
    refine W.eq (g2 := F0 m 51 ls [vr r12.1, vr x0]) rfl ?_
    obtain ⟨h13, g13, hrun⟩ := bd hrun
    refine s_put (b := true) hx hb hts kl_3 tyX3 tyX3_ok nmX3 hown hE.1 hM hS (ci := 3) rfl (by decide) rfl (k := 10) (by decide) rfl (hts _ kw_470) rfl (nar_a _) (fit_a _) (fun q => by cases q) g13 dX3_makeRoomForOne_51 (fun H locs hM hS => ?_)
    exact j54 h13 H locs ls hM hS (lsub hl [] rfl) hrun
def f_X3_takeFirst_j81 (h : Hp) (x1 : Int) : Option (Int × Hp) :=
  some (x1, h)
def f_X3_takeFirst (h : Hp) (x0 : Int) : Option (Int × Hp) :=
  Option.bind (ckd h 3 x0) fun u2 =>
  Option.bind (f_X3_firstFree h x0) fun r1 =>
  Option.bind (ckd r1.2 3 x0) fun u4 =>
  Option.bind (f_X3_wasTaken r1.2 x0 r1.1) fun r3 =>
  if r3.1 = 0 then (
    if r1.1 = (-1) then (
      f_X3_takeFirst_j81 r3.2 r1.1
    ) else (
      Option.bind (ckd r3.2 3 x0) fun u6 =>
      Option.bind (f_X3_makeRoomForOne r3.2 x0) fun r5 =>
      Option.bind (gtf r5.2 3 10 x0) fun v7 =>
      Option.bind (gtf r5.2 3 7 x0) fun v8 =>
      Option.bind (gtf r5.2 3 0 x0) fun v9 =>
      Option.bind (gtf r5.2 1 4 v9) fun v10 =>
      Option.bind (ast r5.2 8 v7 v8 v10) fun h11 =>
      Option.bind (gtf h11 3 7 x0) fun v12 =>
      Option.bind (ptf h11 3 7 x0 (wr (v12 + 1))) fun h13 =>
      Option.bind (gtf h13 3 3 x0) fun v14 =>
      Option.bind (ptf h13 3 3 x0 (wr (v14 + 1))) fun h15 =>
      f_X3_takeFirst_j81 h15 r1.1
    )
  ) else (
    Option.bind (gtf r3.2 3 9 x0) fun v16 =>
    Option.bind (ald r3.2 8 v16 r1.1) fun v17 =>
    Option.bind (ptf r3.2 3 8 x0 v17) fun h18 =>
    Option.bind (gtf h18 3 3 x0) fun v19 =>
    Option.bind (ptf h18 3 3 x0 (wr (v19 + 1))) fun h20 =>
    f_X3_takeFirst_j81 h20 r1.1
  )
abbrev w_X3_takeFirst : List Cond := Cond.code yX3_takeFirst cX3_takeFirst 2 (some .int) :: BW
abbrev rm_X3_takeFirst : Room := { frames := 3, cells := 2, slots := 2048, locals := 103 }
set_option maxHeartbeats 4000000 in
set_option maxRecDepth 100000 in
theorem c_X3_takeFirst (l : Launch) (D : va_G) (G : Nat → ClassId) (base : Nat) (h h' : Hp) (x0 : Int) (rv : Int) (hrun : f_X3_takeFirst h x0 = some (rv, h')) : Met l yX3_takeFirst w_X3_takeFirst rm_X3_takeFirst (PC l D G base h [vr x0]) (QR D G base (some (vi rv)) (inr rv) h') rm_X3_takeFirst.cells rm_X3_takeFirst.slots (Ab base) := by
  refine Met.ofW (cc := cX3_takeFirst) (maxL := 2) (ret := (some .int)) (by decide) rfl ?_
  intro p e s m args below meth c s₁ B hml hv
  obtain ⟨hargs, hE, hM⟩ := hv
  have hx := B.exec
  have hb := B.bytes
  have hr := B.returns
  have hts0 := atoms_spec (ws := w_X3_takeFirst) B.pre
  have hts : ∀ w ∈ BW, w.before args s = true := fun w hw => hts0 w (List.mem_cons_of_mem _ hw)
  have hown : s.vm.findClass RX3 = some m.cls := findClass_of_methodNamed B.named
  have hlocks := B.notSynchronized
  have j81 : ∀ (h : Hp) (x1 : Int) (H : Heap) (locs : List Loc) (ls : Array Slot), inr x1 → SM D G base h H → va_S (Ab base) s.heap H locs → lvh ls 2 [(1, vi x1)] → f_X3_takeFirst_j81 h x1 = some (rv, h') → W p l e (headSpec w_X3_takeFirst rm_X3_takeFirst).room s m args below meth c H locs 2 2048 (QI D G base rv h' below args s 2 2048) (F0 m 81 ls []) := by
    intro h x1 H locs ls i_x1 hM hS hl hrun
    unfold f_X3_takeFirst_j81 at hrun
    refine lv_iload_n hx hb dX3_takeFirst_81 rfl (la hl 0 rfl) ?_
    exact s_iret hx hb hr hlocks hM hS i_x1 hrun (Nat.le_of_ble_eq_true rfl) (Nat.le_of_ble_eq_true rfl) dX3_takeFirst_82
  refine s_entry hargs hM (c_r c_0) (Nat.le_of_ble_eq_true rfl) (fun H locs ls hM hS hl => ?_)
  replace hl : lvh ls 2 [(0, vr x0)] := hl
  unfold f_X3_takeFirst at hrun
  refine s_aload_n hx hb dX3_takeFirst_0 rfl (la hl 0 rfl) ?_
  obtain ⟨u2, g2, hrun⟩ := bd hrun
  obtain ⟨r1, g1, hrun⟩ := bd hrun
  refine s_callV (n := 0) (rest := []) [] hx hb hml hown hts hE hM hS (c_X3_firstFree l D G base h r1.2 x0 r1.1 g1) kw_514 kw_511 kw_51 kw_512 kw_513 (by decide +kernel) ⟨Nat.le_of_ble_eq_true rfl, Nat.le_of_ble_eq_true rfl⟩ rfl rfl (by decide) g2 rfl hl.1.1 rfl (c8 c_0 (Nat.le_of_ble_eq_true rfl)) dX3_takeFirst_1 ⟨Nat.le_of_ble_eq_true rfl, Nat.le_of_ble_eq_true rfl⟩ (fun H locs i_r1 hM hS => ?_)
  refine W.eq (g2 := F0 m 4 ls [vi r1.1]) rfl ?_
  refine t_istore_n (lv' := [(1, vi r1.1), (0, vr x0)]) hx hb dX3_takeFirst_4 rfl hl (by decide) rfl (fun ls hl => ?_)
  refine s_aload_n hx hb dX3_takeFirst_5 rfl (la hl 1 rfl) ?_
  refine lv_iload_n hx hb dX3_takeFirst_6 rfl (la hl 0 rfl) ?_
  obtain ⟨u4, g4, hrun⟩ := bd hrun
  obtain ⟨r3, g3, hrun⟩ := bd hrun
  refine s_callV (n := 1) (rest := []) [vi r1.1] hx hb hml hown hts hE hM hS (c_X3_wasTaken l D G base r1.2 r3.2 x0 r1.1 r3.1 i_r1 g3) kw_164 kw_160 kw_51 kw_162 kw_5 (by decide +kernel) ⟨Nat.le_of_ble_eq_true rfl, Nat.le_of_ble_eq_true rfl⟩ rfl rfl (by decide) g4 rfl hl.1.1 rfl (c8 c_0 (Nat.le_of_ble_eq_true rfl)) dX3_takeFirst_7 ⟨Nat.le_of_ble_eq_true rfl, Nat.le_of_ble_eq_true rfl⟩ (fun H locs i_r3 hM hS => ?_)
  refine W.eq (g2 := F0 m 10 ls [vi r3.1]) rfl ?_
  refine s_if_eq (tgt := 36) hx hb dX3_takeFirst_10 (by decide) i_r3 (fun cd => ?_) (fun cd => ?_)
  · replace hrun := it_pos cd hrun
    refine lv_iload_n hx hb dX3_takeFirst_36 rfl (la hl 0 rfl) ?_
    refine lv_iconst (v := Int32.ofInt (-1)) hx hb dX3_takeFirst_37 rfl ?_
    refine s_icmp_eq (tgt := 81) hx hb dX3_takeFirst_38 (by decide) i_r1 (by decide) (fun cd => ?_) (fun cd => ?_)
    · replace hrun := it_pos cd hrun
      refine W.widen (k := 2) (n := 2048) (Nat.le_of_ble_eq_true rfl) (Nat.le_of_ble_eq_true rfl) ?_
      exact j81 r3.2 r1.1 H locs ls i_r1 hM hS (lsub hl [0] rfl) hrun
    · replace hrun := it_neg cd hrun
      refine s_aload_n hx hb dX3_takeFirst_41 rfl (la hl 1 rfl) ?_
      obtain ⟨u6, g6, hrun⟩ := bd hrun
      obtain ⟨r5, g5, hrun⟩ := bd hrun
      refine s_callV (n := 0) (rest := []) [] hx hb hml hown hts hE hM hS (c_X3_makeRoomForOne l D G base r3.2 r5.2 x0 r5.1 g5) kw_518 kw_515 kw_51 kw_517 kw_12 (by decide +kernel) ⟨Nat.le_of_ble_eq_true rfl, Nat.le_of_ble_eq_true rfl⟩ rfl rfl (by decide) g6 rfl hl.1.1 rfl (c8 c_0 (Nat.le_of_ble_eq_true rfl)) dX3_takeFirst_42 ⟨Nat.le_of_ble_eq_true rfl, Nat.le_of_ble_eq_true rfl⟩ (fun H locs i_r5 hM hS => ?_)
      refine W.eq (g2 := F0 m 45 ls []) rfl ?_
      refine s_aload_n hx hb dX3_takeFirst_45 rfl (la hl 1 rfl) ?_
      obtain ⟨v7, g7, hrun⟩ := bd hrun
      refine s_getfr hx hb hts kl_3 hown hE.1 hM (ci := 3) rfl (by decide) rfl (k := 10) (by decide) rfl (hts _ kw_470) g7 dX3_takeFirst_46 ?_
      refine s_aload_n hx hb dX3_takeFirst_49 rfl (la hl 1 rfl) ?_
      obtain ⟨v8, g8, hrun⟩ := bd hrun
      refine s_getfi hx hb hts kl_3 hown hE.1 hM (ci := 3) rfl (by decide) rfl (k := 7) (by decide) rfl (hts _ kw_467) g8 dX3_takeFirst_50 ?_
      have i_v8 : inr v8 := gtf_i hM g8 (by decide) rfl
      refine s_aload_n hx hb dX3_takeFirst_53 rfl (la hl 1 rfl) ?_
      obtain ⟨v9, g9, hrun⟩ := bd hrun
      refine s_getfr hx hb hts kl_3 hown hE.1 hM (ci := 3) rfl (by decide) rfl (k := 0) (by decide) rfl (hts _ kw_454) g9 dX3_takeFirst_54 ?_
      obtain ⟨v10, g10, hrun⟩ := bd hrun
      refine s_getfi hx hb hts kl_1 hown hE.1 hM (ci := 1) rfl (by decide) rfl (k := 4) (by decide) rfl (hts _ kw_296) g10 dX3_takeFirst_57 ?_
      have i_v10 : inr v10 := gtf_i hM g10 (by decide) rfl
      obtain ⟨h11, g11, hrun⟩ := bd hrun
      refine s_iast hx hb hE.1 hM hS i_v8 i_v10 g11 dX3_takeFirst_60 (fun H locs hM hS => ?_)
      refine s_aload_n hx hb dX3_takeFirst_61 rfl (la hl 1 rfl) ?_
      refine lv_dup hx hb dX3_takeFirst_62 (vr_cat _) ?_
      obtain ⟨v12, g12, hrun⟩ := bd hrun
      refine s_getfi hx hb hts kl_3 hown hE.1 hM (ci := 3) rfl (by decide) rfl (k := 7) (by decide) rfl (hts _ kw_467) g12 dX3_takeFirst_63 ?_
      have i_v12 : inr v12 := gtf_i hM g12 (by decide) rfl
      refine lv_iconst (v := Int32.ofInt 1) hx hb dX3_takeFirst_66 rfl ?_
      refine s_iadd hx hb dX3_takeFirst_67 ?_
      obtain ⟨h13, g13, hrun⟩ := bd hrun
      refine s_put (b := false) hx hb hts kl_3 tyX3 tyX3_ok nmX3 hown hE.1 hM hS (ci := 3) rfl (by decide) rfl (k := 7) (by decide) rfl (hts _ kw_467) rfl (vp_nar_int _) rfl (fun _ => (inr_wr _)) g13 dX3_takeFirst_68 (fun H locs hM hS => ?_)
      refine s_aload_n hx hb dX3_takeFirst_71 rfl (la hl 1 rfl) ?_
      refine lv_dup hx hb dX3_takeFirst_72 (vr_cat _) ?_
      obtain ⟨v14, g14, hrun⟩ := bd hrun
      refine s_getfi hx hb hts kl_3 hown hE.1 hM (ci := 3) rfl (by decide) rfl (k := 3) (by decide) rfl (hts _ kw_460) g14 dX3_takeFirst_73 ?_
      have i_v14 : inr v14 := gtf_i hM g14 (by decide) rfl
      refine lv_iconst (v := Int32.ofInt 1) hx hb dX3_takeFirst_76 rfl ?_
      refine s_iadd hx hb dX3_takeFirst_77 ?_
      obtain ⟨h15, g15, hrun⟩ := bd hrun
      refine s_put (b := false) hx hb hts kl_3 tyX3 tyX3_ok nmX3 hown hE.1 hM hS (ci := 3) rfl (by decide) rfl (k := 3) (by decide) rfl (hts _ kw_460) rfl (vp_nar_int _) rfl (fun _ => (inr_wr _)) g15 dX3_takeFirst_78 (fun H locs hM hS => ?_)
      exact j81 h15 r1.1 H locs ls i_r1 hM hS (lsub hl [0] rfl) hrun
  · replace hrun := it_neg cd hrun
    refine s_aload_n hx hb dX3_takeFirst_13 rfl (la hl 1 rfl) ?_
    refine s_aload_n hx hb dX3_takeFirst_14 rfl (la hl 1 rfl) ?_
    obtain ⟨v16, g16, hrun⟩ := bd hrun
    refine s_getfr hx hb hts kl_3 hown hE.1 hM (ci := 3) rfl (by decide) rfl (k := 9) (by decide) rfl (hts _ kw_469) g16 dX3_takeFirst_15 ?_
    refine lv_iload_n hx hb dX3_takeFirst_18 rfl (la hl 0 rfl) ?_
    obtain ⟨v17, g17, hrun⟩ := bd hrun
    refine s_iald hx hb hE.1 hM i_r1 g17 dX3_takeFirst_19 ?_
    have i_v17 : inr v17 := ald_i hM g17 (by decide) (by decide)
    obtain ⟨h18, g18, hrun⟩ := bd hrun
    refine s_put (b := false) hx hb hts kl_3 tyX3 tyX3_ok nmX3 hown hE.1 hM hS (ci := 3) rfl (by decide) rfl (k := 8) (by decide) rfl (hts _ kw_468) rfl (vp_nar_int _) rfl (fun _ => i_v17) g18 dX3_takeFirst_20 (fun H locs hM hS => ?_)
    refine s_aload_n hx hb dX3_takeFirst_23 rfl (la hl 1 rfl) ?_
    refine lv_dup hx hb dX3_takeFirst_24 (vr_cat _) ?_
    obtain ⟨v19, g19, hrun⟩ := bd hrun
    refine s_getfi hx hb hts kl_3 hown hE.1 hM (ci := 3) rfl (by decide) rfl (k := 3) (by decide) rfl (hts _ kw_460) g19 dX3_takeFirst_25 ?_
    have i_v19 : inr v19 := gtf_i hM g19 (by decide) rfl
    refine lv_iconst (v := Int32.ofInt 1) hx hb dX3_takeFirst_28 rfl ?_
    refine s_iadd hx hb dX3_takeFirst_29 ?_
    obtain ⟨h20, g20, hrun⟩ := bd hrun
    refine s_put (b := false) hx hb hts kl_3 tyX3 tyX3_ok nmX3 hown hE.1 hM hS (ci := 3) rfl (by decide) rfl (k := 3) (by decide) rfl (hts _ kw_460) rfl (vp_nar_int _) rfl (fun _ => (inr_wr _)) g20 dX3_takeFirst_30 (fun H locs hM hS => ?_)
    refine lv_goto (tgt := 81) hx hb dX3_takeFirst_33 (by decide) ?_
    refine W.widen (k := 2) (n := 2048) (Nat.le_of_ble_eq_true rfl) (Nat.le_of_ble_eq_true rfl) ?_
    exact j81 h20 r1.1 H locs ls i_r1 hM hS (lsub hl [0] rfl) hrun
