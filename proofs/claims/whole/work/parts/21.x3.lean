def f_X3_firstByte (h : Hp) (x0 : Int) : Option (Int × Hp) :=
  Option.bind (gtf h 3 1 x0) fun v1 =>
  some (wr (v1 * 1024), h)
abbrev w_X3_firstByte : List Cond := Cond.code yX3_firstByte cX3_firstByte 1 (some .int) :: BW
abbrev rm_X3_firstByte : Room := { frames := 0, cells := 0, slots := 0, locals := 0 }
set_option maxHeartbeats 4000000 in
set_option maxRecDepth 100000 in
theorem c_X3_firstByte (l : Launch) (D : va_G) (G : Nat → ClassId) (base : Nat) (h h' : Hp) (x0 : Int) (rv : Int) (hrun : f_X3_firstByte h x0 = some (rv, h')) : Met l yX3_firstByte w_X3_firstByte rm_X3_firstByte (PC l D G base h [vr x0]) (QR D G base (some (vi rv)) (inr rv) h') rm_X3_firstByte.cells rm_X3_firstByte.slots (Ab base) := by
  refine Met.ofW (cc := cX3_firstByte) (maxL := 1) (ret := (some .int)) (by decide) rfl ?_
  intro p e s m args below meth c s₁ B hml hv
  obtain ⟨hargs, hE, hM⟩ := hv
  have hx := B.exec
  have hb := B.bytes
  have hr := B.returns
  have hts0 := atoms_spec (ws := w_X3_firstByte) B.pre
  have hts : ∀ w ∈ BW, w.before args s = true := fun w hw => hts0 w (List.mem_cons_of_mem _ hw)
  have hown : s.vm.findClass RX3 = some m.cls := findClass_of_methodNamed B.named
  have hlocks := B.notSynchronized
  refine s_entry hargs hM (c_r c_0) (Nat.le_of_ble_eq_true rfl) (fun H locs ls hM hS hl => ?_)
  replace hl : lvh ls 1 [(0, vr x0)] := hl
  unfold f_X3_firstByte at hrun
  refine s_aload_n hx hb dX3_firstByte_0 rfl (la hl 0 rfl) ?_
  obtain ⟨v1, g1, hrun⟩ := bd hrun
  refine s_getfi hx hb hts kl_3 hown hE.1 hM (ci := 3) rfl (by decide) rfl (k := 1) (by decide) rfl (hts _ kw_456) g1 dX3_firstByte_1 ?_
  have i_v1 : inr v1 := gtf_i hM g1 (by decide) rfl
  refine lv_sipush (v := Int32.ofInt 1024) hx hb dX3_firstByte_4 (by decide) ?_
  refine s_imul hx hb dX3_firstByte_7 ?_
  exact s_iret hx hb hr hlocks hM hS (inr_wr _) hrun (Nat.le_of_ble_eq_true rfl) (Nat.le_of_ble_eq_true rfl) dX3_firstByte_8
def f_X3_beginOf (h : Hp) (x0 x1 : Int) : Option (Int × Hp) :=
  Option.bind (ckd h 3 x0) fun u2 =>
  Option.bind (f_X3_firstByte h x0) fun r1 =>
  Option.bind (gtf r1.2 3 2 x0) fun v3 =>
  Option.bind (gtf r1.2 3 0 x0) fun v4 =>
  Option.bind (gtf r1.2 1 2 v4) fun v5 =>
  Option.bind (gtf r1.2 3 0 x0) fun v6 =>
  Option.bind (gtf r1.2 1 5 v6) fun v7 =>
  some (wr ((wr (r1.1 + (wr (v3 * v5)))) + (wr (x1 * v7))), r1.2)
abbrev w_X3_beginOf : List Cond := Cond.code yX3_beginOf cX3_beginOf 2 (some .int) :: BW
abbrev rm_X3_beginOf : Room := { frames := 1, cells := 0, slots := 0, locals := 20 }
set_option maxHeartbeats 4000000 in
set_option maxRecDepth 100000 in
theorem c_X3_beginOf (l : Launch) (D : va_G) (G : Nat → ClassId) (base : Nat) (h h' : Hp) (x0 x1 : Int) (rv : Int) (i_x1 : inr x1) (hrun : f_X3_beginOf h x0 x1 = some (rv, h')) : Met l yX3_beginOf w_X3_beginOf rm_X3_beginOf (PC l D G base h [vr x0, vi x1]) (QR D G base (some (vi rv)) (inr rv) h') rm_X3_beginOf.cells rm_X3_beginOf.slots (Ab base) := by
  refine Met.ofW (cc := cX3_beginOf) (maxL := 2) (ret := (some .int)) (by decide) rfl ?_
  intro p e s m args below meth c s₁ B hml hv
  obtain ⟨hargs, hE, hM⟩ := hv
  have hx := B.exec
  have hb := B.bytes
  have hr := B.returns
  have hts0 := atoms_spec (ws := w_X3_beginOf) B.pre
  have hts : ∀ w ∈ BW, w.before args s = true := fun w hw => hts0 w (List.mem_cons_of_mem _ hw)
  have hown : s.vm.findClass RX3 = some m.cls := findClass_of_methodNamed B.named
  have hlocks := B.notSynchronized
  refine s_entry hargs hM (c_r (c_i c_0)) (Nat.le_of_ble_eq_true rfl) (fun H locs ls hM hS hl => ?_)
  replace hl : lvh ls 2 [(0, vr x0), (1, vi x1)] := hl
  unfold f_X3_beginOf at hrun
  refine s_aload_n hx hb dX3_beginOf_0 rfl (la hl 0 rfl) ?_
  obtain ⟨u2, g2, hrun⟩ := bd hrun
  obtain ⟨r1, g1, hrun⟩ := bd hrun
  refine s_callV (n := 0) (rest := []) [] hx hb hml hown hts hE hM hS (c_X3_firstByte l D G base h r1.2 x0 r1.1 g1) kw_155 kw_152 kw_51 kw_153 kw_154 (by decide +kernel) ⟨Nat.le_of_ble_eq_true rfl, Nat.le_of_ble_eq_true rfl⟩ rfl rfl (by decide) g2 rfl hl.1.1 rfl (c8 c_0 (Nat.le_of_ble_eq_true rfl)) dX3_beginOf_1 ⟨Nat.le_of_ble_eq_true rfl, Nat.le_of_ble_eq_true rfl⟩ (fun H locs i_r1 hM hS => ?_)
  refine W.eq (g2 := F0 m 4 ls [vi r1.1]) rfl ?_
  refine s_aload_n hx hb dX3_beginOf_4 rfl (la hl 0 rfl) ?_
  obtain ⟨v3, g3, hrun⟩ := bd hrun
  refine s_getfi hx hb hts kl_3 hown hE.1 hM (ci := 3) rfl (by decide) rfl (k := 2) (by decide) rfl (hts _ kw_458) g3 dX3_beginOf_5 ?_
  have i_v3 : inr v3 := gtf_i hM g3 (by decide) rfl
  refine s_aload_n hx hb dX3_beginOf_8 rfl (la hl 0 rfl) ?_
  obtain ⟨v4, g4, hrun⟩ := bd hrun
  refine s_getfr hx hb hts kl_3 hown hE.1 hM (ci := 3) rfl (by decide) rfl (k := 0) (by decide) rfl (hts _ kw_454) g4 dX3_beginOf_9 ?_
  obtain ⟨v5, g5, hrun⟩ := bd hrun
  refine s_getfi hx hb hts kl_1 hown hE.1 hM (ci := 1) rfl (by decide) rfl (k := 2) (by decide) rfl (hts _ kw_291) g5 dX3_beginOf_12 ?_
  have i_v5 : inr v5 := gtf_i hM g5 (by decide) rfl
  refine s_imul hx hb dX3_beginOf_15 ?_
  refine s_iadd hx hb dX3_beginOf_16 ?_
  refine lv_iload_n hx hb dX3_beginOf_17 rfl (la hl 1 rfl) ?_
  refine s_aload_n hx hb dX3_beginOf_18 rfl (la hl 0 rfl) ?_
  obtain ⟨v6, g6, hrun⟩ := bd hrun
  refine s_getfr hx hb hts kl_3 hown hE.1 hM (ci := 3) rfl (by decide) rfl (k := 0) (by decide) rfl (hts _ kw_454) g6 dX3_beginOf_19 ?_
  obtain ⟨v7, g7, hrun⟩ := bd hrun
  refine s_getfi hx hb hts kl_1 hown hE.1 hM (ci := 1) rfl (by decide) rfl (k := 5) (by decide) rfl (hts _ kw_298) g7 dX3_beginOf_22 ?_
  have i_v7 : inr v7 := gtf_i hM g7 (by decide) rfl
  refine s_imul hx hb dX3_beginOf_25 ?_
  refine s_iadd hx hb dX3_beginOf_26 ?_
  exact s_iret hx hb hr hlocks hM hS (inr_wr _) hrun (Nat.le_of_ble_eq_true rfl) (Nat.le_of_ble_eq_true rfl) dX3_beginOf_27
def f_X3_numberOver_j22 (h : Hp) : Option (Int × Hp) :=
  some ((-1), h)
def f_X3_numberOver_j50 (h : Hp) (s0 : Int) : Option (Int × Hp) :=
  some (s0, h)
def f_X3_numberOver (h : Hp) (x0 x1 : Int) : Option (Int × Hp) :=
  Option.bind (ckd h 3 x0) fun u2 =>
  Option.bind (f_X3_beginOf h x0 0) fun r1 =>
  if (wr (x1 - r1.1)) < 0 then (
    f_X3_numberOver_j22 r1.2
  ) else (
    Option.bind (gtf r1.2 3 0 x0) fun v3 =>
    Option.bind (gtf r1.2 1 5 v3) fun v4 =>
    if 0 < v4 then (
      Option.bind (gtf r1.2 3 0 x0) fun v5 =>
      Option.bind (gtf r1.2 1 5 v5) fun v6 =>
      Option.bind (idv (wr (x1 - r1.1)) v6) fun v7 =>
      Option.bind (gtf r1.2 3 0 x0) fun v8 =>
      Option.bind (gtf r1.2 1 6 v8) fun v9 =>
      if v9 ≤ v7 then (
        f_X3_numberOver_j50 r1.2 (-1)
      ) else (
        f_X3_numberOver_j50 r1.2 v7
      )
    ) else (
      f_X3_numberOver_j22 r1.2
    )
  )
abbrev w_X3_numberOver : List Cond := Cond.code yX3_numberOver cX3_numberOver 4 (some .int) :: BW
abbrev rm_X3_numberOver : Room := { frames := 2, cells := 0, slots := 0, locals := 41 }
set_option maxHeartbeats 4000000 in
set_option maxRecDepth 100000 in
theorem c_X3_numberOver (l : Launch) (D : va_G) (G : Nat → ClassId) (base : Nat) (h h' : Hp) (x0 x1 : Int) (rv : Int) (i_x1 : inr x1) (hrun : f_X3_numberOver h x0 x1 = some (rv, h')) : Met l yX3_numberOver w_X3_numberOver rm_X3_numberOver (PC l D G base h [vr x0, vi x1]) (QR D G base (some (vi rv)) (inr rv) h') rm_X3_numberOver.cells rm_X3_numberOver.slots (Ab base) := by
  refine Met.ofW (cc := cX3_numberOver) (maxL := 4) (ret := (some .int)) (by decide) rfl ?_
  intro p e s m args below meth c s₁ B hml hv
  obtain ⟨hargs, hE, hM⟩ := hv
  have hx := B.exec
  have hb := B.bytes
  have hr := B.returns
  have hts0 := atoms_spec (ws := w_X3_numberOver) B.pre
  have hts : ∀ w ∈ BW, w.before args s = true := fun w hw => hts0 w (List.mem_cons_of_mem _ hw)
  have hown : s.vm.findClass RX3 = some m.cls := findClass_of_methodNamed B.named
  have hlocks := B.notSynchronized
  have j22 : ∀ (h : Hp) (H : Heap) (locs : List Loc) (ls : Array Slot), SM D G base h H → va_S (Ab base) s.heap H locs → lvh ls 4 [] → f_X3_numberOver_j22 h = some (rv, h') → W p l e (headSpec w_X3_numberOver rm_X3_numberOver).room s m args below meth c H locs 0 0 (QI D G base rv h' below args s 0 0) (F0 m 22 ls []) := by
    intro h H locs ls hM hS hl hrun
    unfold f_X3_numberOver_j22 at hrun
    refine lv_iconst (v := Int32.ofInt (-1)) hx hb dX3_numberOver_22 rfl ?_
    exact s_iret hx hb hr hlocks hM hS (by decide) hrun (Nat.le_of_ble_eq_true rfl) (Nat.le_of_ble_eq_true rfl) dX3_numberOver_23
  have j50 : ∀ (h : Hp) (s0 : Int) (H : Heap) (locs : List Loc) (ls : Array Slot), inr s0 → SM D G base h H → va_S (Ab base) s.heap H locs → lvh ls 4 [] → f_X3_numberOver_j50 h s0 = some (rv, h') → W p l e (headSpec w_X3_numberOver rm_X3_numberOver).room s m args below meth c H locs 0 0 (QI D G base rv h' below args s 0 0) (F0 m 50 ls [vi s0]) := by
    intro h s0 H locs ls i_s0 hM hS hl hrun
    unfold f_X3_numberOver_j50 at hrun
    exact s_iret hx hb hr hlocks hM hS i_s0 hrun (Nat.le_of_ble_eq_true rfl) (Nat.le_of_ble_eq_true rfl) dX3_numberOver_50
  refine s_entry hargs hM (c_r (c_i c_0)) (Nat.le_of_ble_eq_true rfl) (fun H locs ls hM hS hl => ?_)
  replace hl : lvh ls 4 [(0, vr x0), (1, vi x1)] := hl
  unfold f_X3_numberOver at hrun
  refine lv_iload_n hx hb dX3_numberOver_0 rfl (la hl 1 rfl) ?_
  refine s_aload_n hx hb dX3_numberOver_1 rfl (la hl 0 rfl) ?_
  refine lv_iconst (v := Int32.ofInt 0) hx hb dX3_numberOver_2 rfl ?_
  obtain ⟨u2, g2, hrun⟩ := bd hrun
  obtain ⟨r1, g1, hrun⟩ := bd hrun
  refine s_callV (n := 1) (rest := [vi x1]) [vi 0] hx hb hml hown hts hE hM hS (c_X3_beginOf l D G base h r1.2 x0 0 r1.1 (by decide) g1) kw_151 kw_148 kw_51 kw_149 kw_150 (by decide +kernel) ⟨Nat.le_of_ble_eq_true rfl, Nat.le_of_ble_eq_true rfl⟩ rfl rfl (by decide) g2 rfl hl.1.1 rfl (c8 (c_i c_0) (Nat.le_of_ble_eq_true rfl)) dX3_numberOver_3 ⟨Nat.le_of_ble_eq_true rfl, Nat.le_of_ble_eq_true rfl⟩ (fun H locs i_r1 hM hS => ?_)
  refine W.eq (g2 := F0 m 6 ls [vi r1.1, vi x1]) rfl ?_
  refine s_isub hx hb dX3_numberOver_6 ?_
  refine t_istore_n (lv' := [(2, vi (wr (x1 - r1.1))), (0, vr x0), (1, vi x1)]) hx hb dX3_numberOver_7 rfl hl (by decide) rfl (fun ls hl => ?_)
  refine lv_iload_n hx hb dX3_numberOver_8 rfl (la hl 0 rfl) ?_
  refine s_if_lt (tgt := 22) hx hb dX3_numberOver_9 (by decide) (inr_wr _) (fun cd => ?_) (fun cd => ?_)
  · replace hrun := it_pos cd hrun
    exact j22 r1.2 H locs ls hM hS (lsub hl [] rfl) hrun
  · replace hrun := it_neg cd hrun
    refine s_aload_n hx hb dX3_numberOver_12 rfl (la hl 1 rfl) ?_
    obtain ⟨v3, g3, hrun⟩ := bd hrun
    refine s_getfr hx hb hts kl_3 hown hE.1 hM (ci := 3) rfl (by decide) rfl (k := 0) (by decide) rfl (hts _ kw_454) g3 dX3_numberOver_13 ?_
    obtain ⟨v4, g4, hrun⟩ := bd hrun
    refine s_getfi hx hb hts kl_1 hown hE.1 hM (ci := 1) rfl (by decide) rfl (k := 5) (by decide) rfl (hts _ kw_298) g4 dX3_numberOver_16 ?_
    have i_v4 : inr v4 := gtf_i hM g4 (by decide) rfl
    refine s_if_gt (tgt := 24) hx hb dX3_numberOver_19 (by decide) i_v4 (fun cd => ?_) (fun cd => ?_)
    · replace hrun := it_pos cd hrun
      refine lv_iload_n hx hb dX3_numberOver_24 rfl (la hl 0 rfl) ?_
      refine s_aload_n hx hb dX3_numberOver_25 rfl (la hl 1 rfl) ?_
      obtain ⟨v5, g5, hrun⟩ := bd hrun
      refine s_getfr hx hb hts kl_3 hown hE.1 hM (ci := 3) rfl (by decide) rfl (k := 0) (by decide) rfl (hts _ kw_454) g5 dX3_numberOver_26 ?_
      obtain ⟨v6, g6, hrun⟩ := bd hrun
      refine s_getfi hx hb hts kl_1 hown hE.1 hM (ci := 1) rfl (by decide) rfl (k := 5) (by decide) rfl (hts _ kw_298) g6 dX3_numberOver_29 ?_
      have i_v6 : inr v6 := gtf_i hM g6 (by decide) rfl
      obtain ⟨v7, g7, hrun⟩ := bd hrun
      refine s_idiv hx hb (inr_wr _) i_v6 g7 dX3_numberOver_32 ?_
      have i_v7 : inr v7 := inr_dv g7
      refine t_istore_n (lv' := [(3, vi v7), (2, vi (wr (x1 - r1.1))), (0, vr x0), (1, vi x1)]) hx hb dX3_numberOver_33 rfl hl (by decide) rfl (fun ls hl => ?_)
      refine lv_iload_n hx hb dX3_numberOver_34 rfl (la hl 0 rfl) ?_
      refine s_aload_n hx hb dX3_numberOver_35 rfl (la hl 2 rfl) ?_
      obtain ⟨v8, g8, hrun⟩ := bd hrun
      refine s_getfr hx hb hts kl_3 hown hE.1 hM (ci := 3) rfl (by decide) rfl (k := 0) (by decide) rfl (hts _ kw_454) g8 dX3_numberOver_36 ?_
      obtain ⟨v9, g9, hrun⟩ := bd hrun
      refine s_getfi hx hb hts kl_1 hown hE.1 hM (ci := 1) rfl (by decide) rfl (k := 6) (by decide) rfl (hts _ kw_300) g9 dX3_numberOver_39 ?_
      have i_v9 : inr v9 := gtf_i hM g9 (by decide) rfl
      refine s_icmp_ge (tgt := 49) hx hb dX3_numberOver_42 (by decide) i_v7 i_v9 (fun cd => ?_) (fun cd => ?_)
      · replace hrun := it_pos cd hrun
        refine lv_iconst (v := Int32.ofInt (-1)) hx hb dX3_numberOver_49 rfl ?_
        exact j50 r1.2 (-1) H locs ls (by decide) hM hS (lsub hl [] rfl) hrun
      · replace hrun := it_neg cd hrun
        refine lv_iload_n hx hb dX3_numberOver_45 rfl (la hl 0 rfl) ?_
        refine lv_goto (tgt := 50) hx hb dX3_numberOver_46 (by decide) ?_
        exact j50 r1.2 v7 H locs ls i_v7 hM hS (lsub hl [] rfl) hrun
    · replace hrun := it_neg cd hrun
      exact j22 r1.2 H locs ls hM hS (lsub hl [] rfl) hrun
def f_X3_wasTaken_j17 (h : Hp) (s0 : Int) : Option (Int × Hp) :=
  rtB s0 h
def f_X3_wasTaken_j16 (h : Hp) : Option (Int × Hp) :=
  f_X3_wasTaken_j17 h 0
def f_X3_wasTaken (h : Hp) (x0 x1 : Int) : Option (Int × Hp) :=
  if x1 < 0 then (
    f_X3_wasTaken_j16 h
  ) else (
    Option.bind (gtf h 3 7 x0) fun v1 =>
    if v1 ≤ x1 then (
      f_X3_wasTaken_j16 h
    ) else (
      f_X3_wasTaken_j17 h 1
    )
  )
abbrev w_X3_wasTaken : List Cond := Cond.code yX3_wasTaken cX3_wasTaken 2 (some .boolean) :: BW
abbrev rm_X3_wasTaken : Room := { frames := 0, cells := 0, slots := 0, locals := 0 }
set_option maxHeartbeats 4000000 in
set_option maxRecDepth 100000 in
theorem c_X3_wasTaken (l : Launch) (D : va_G) (G : Nat → ClassId) (base : Nat) (h h' : Hp) (x0 x1 : Int) (rv : Int) (i_x1 : inr x1) (hrun : f_X3_wasTaken h x0 x1 = some (rv, h')) : Met l yX3_wasTaken w_X3_wasTaken rm_X3_wasTaken (PC l D G base h [vr x0, vi x1]) (QR D G base (some (vi rv)) (inr rv) h') rm_X3_wasTaken.cells rm_X3_wasTaken.slots (Ab base) := by
  refine Met.ofW (cc := cX3_wasTaken) (maxL := 2) (ret := (some .boolean)) (by decide) rfl ?_
  intro p e s m args below meth c s₁ B hml hv
  obtain ⟨hargs, hE, hM⟩ := hv
  have hx := B.exec
  have hb := B.bytes
  have hr := B.returns
  have hts0 := atoms_spec (ws := w_X3_wasTaken) B.pre
  have hts : ∀ w ∈ BW, w.before args s = true := fun w hw => hts0 w (List.mem_cons_of_mem _ hw)
  have hown : s.vm.findClass RX3 = some m.cls := findClass_of_methodNamed B.named
  have hlocks := B.notSynchronized
  have j17 : ∀ (h : Hp) (s0 : Int) (H : Heap) (locs : List Loc) (ls : Array Slot), inr s0 → SM D G base h H → va_S (Ab base) s.heap H locs → lvh ls 2 [] → f_X3_wasTaken_j17 h s0 = some (rv, h') → W p l e (headSpec w_X3_wasTaken rm_X3_wasTaken).room s m args below meth c H locs 0 0 (QI D G base rv h' below args s 0 0) (F0 m 17 ls [vi s0]) := by
    intro h s0 H locs ls i_s0 hM hS hl hrun
    unfold f_X3_wasTaken_j17 at hrun
    exact s_zret hx hb hr hlocks hM hS i_s0 hrun (Nat.le_of_ble_eq_true rfl) (Nat.le_of_ble_eq_true rfl) dX3_wasTaken_17
  have j16 : ∀ (h : Hp) (H : Heap) (locs : List Loc) (ls : Array Slot), SM D G base h H → va_S (Ab base) s.heap H locs → lvh ls 2 [] → f_X3_wasTaken_j16 h = some (rv, h') → W p l e (headSpec w_X3_wasTaken rm_X3_wasTaken).room s m args below meth c H locs 0 0 (QI D G base rv h' below args s 0 0) (F0 m 16 ls []) := by
    intro h H locs ls hM hS hl hrun
    unfold f_X3_wasTaken_j16 at hrun
    refine lv_iconst (v := Int32.ofInt 0) hx hb dX3_wasTaken_16 rfl ?_
    exact j17 h 0 H locs ls (by decide) hM hS (lsub hl [] rfl) hrun
  refine s_entry hargs hM (c_r (c_i c_0)) (Nat.le_of_ble_eq_true rfl) (fun H locs ls hM hS hl => ?_)
  replace hl : lvh ls 2 [(0, vr x0), (1, vi x1)] := hl
  unfold f_X3_wasTaken at hrun
  refine lv_iload_n hx hb dX3_wasTaken_0 rfl (la hl 1 rfl) ?_
  refine s_if_lt (tgt := 16) hx hb dX3_wasTaken_1 (by decide) i_x1 (fun cd => ?_) (fun cd => ?_)
  · replace hrun := it_pos cd hrun
    exact j16 h H locs ls hM hS (lsub hl [] rfl) hrun
  · replace hrun := it_neg cd hrun
    refine lv_iload_n hx hb dX3_wasTaken_4 rfl (la hl 1 rfl) ?_
    refine s_aload_n hx hb dX3_wasTaken_5 rfl (la hl 0 rfl) ?_
    obtain ⟨v1, g1, hrun⟩ := bd hrun
    refine s_getfi hx hb hts kl_3 hown hE.1 hM (ci := 3) rfl (by decide) rfl (k := 7) (by decide) rfl (hts _ kw_467) g1 dX3_wasTaken_6 ?_
    have i_v1 : inr v1 := gtf_i hM g1 (by decide) rfl
    refine s_icmp_ge (tgt := 16) hx hb dX3_wasTaken_9 (by decide) i_x1 i_v1 (fun cd => ?_) (fun cd => ?_)
    · replace hrun := it_pos cd hrun
      exact j16 h H locs ls hM hS (lsub hl [] rfl) hrun
    · replace hrun := it_neg cd hrun
      refine lv_iconst (v := Int32.ofInt 1) hx hb dX3_wasTaken_12 rfl ?_
      refine lv_goto (tgt := 17) hx hb dX3_wasTaken_13 (by decide) ?_
      exact j17 h 1 H locs ls (by decide) hM hS (lsub hl [] rfl) hrun
def f_X3_isLive_j24 (h : Hp) (s0 : Int) : Option (Int × Hp) :=
  rtB s0 h
def f_X3_isLive_j23 (h : Hp) : Option (Int × Hp) :=
  f_X3_isLive_j24 h 0
def f_X3_isLive (h : Hp) (x0 x1 : Int) : Option (Int × Hp) :=
  Option.bind (ckd h 3 x0) fun u2 =>
  Option.bind (f_X3_wasTaken h x0 x1) fun r1 =>
  if r1.1 = 0 then (
    f_X3_isLive_j23 r1.2
  ) else (
    Option.bind (gtf r1.2 3 9 x0) fun v3 =>
    Option.bind (ald r1.2 8 v3 x1) fun v4 =>
    if v4 ≠ (-2) then (
      f_X3_isLive_j23 r1.2
    ) else (
      f_X3_isLive_j24 r1.2 1
    )
  )
abbrev w_X3_isLive : List Cond := Cond.code yX3_isLive cX3_isLive 2 (some .boolean) :: BW
abbrev rm_X3_isLive : Room := { frames := 1, cells := 0, slots := 0, locals := 21 }
set_option maxHeartbeats 4000000 in
set_option maxRecDepth 100000 in
theorem c_X3_isLive (l : Launch) (D : va_G) (G : Nat → ClassId) (base : Nat) (h h' : Hp) (x0 x1 : Int) (rv : Int) (i_x1 : inr x1) (hrun : f_X3_isLive h x0 x1 = some (rv, h')) : Met l yX3_isLive w_X3_isLive rm_X3_isLive (PC l D G base h [vr x0, vi x1]) (QR D G base (some (vi rv)) (inr rv) h') rm_X3_isLive.cells rm_X3_isLive.slots (Ab base) := by
  refine Met.ofW (cc := cX3_isLive) (maxL := 2) (ret := (some .boolean)) (by decide) rfl ?_
  intro p e s m args below meth c s₁ B hml hv
  obtain ⟨hargs, hE, hM⟩ := hv
  have hx := B.exec
  have hb := B.bytes
  have hr := B.returns
  have hts0 := atoms_spec (ws := w_X3_isLive) B.pre
  have hts : ∀ w ∈ BW, w.before args s = true := fun w hw => hts0 w (List.mem_cons_of_mem _ hw)
  have hown : s.vm.findClass RX3 = some m.cls := findClass_of_methodNamed B.named
  have hlocks := B.notSynchronized
  have j24 : ∀ (h : Hp) (s0 : Int) (H : Heap) (locs : List Loc) (ls : Array Slot), inr s0 → SM D G base h H → va_S (Ab base) s.heap H locs → lvh ls 2 [] → f_X3_isLive_j24 h s0 = some (rv, h') → W p l e (headSpec w_X3_isLive rm_X3_isLive).room s m args below meth c H locs 0 0 (QI D G base rv h' below args s 0 0) (F0 m 24 ls [vi s0]) := by
    intro h s0 H locs ls i_s0 hM hS hl hrun
    unfold f_X3_isLive_j24 at hrun
    exact s_zret hx hb hr hlocks hM hS i_s0 hrun (Nat.le_of_ble_eq_true rfl) (Nat.le_of_ble_eq_true rfl) dX3_isLive_24
  have j23 : ∀ (h : Hp) (H : Heap) (locs : List Loc) (ls : Array Slot), SM D G base h H → va_S (Ab base) s.heap H locs → lvh ls 2 [] → f_X3_isLive_j23 h = some (rv, h') → W p l e (headSpec w_X3_isLive rm_X3_isLive).room s m args below meth c H locs 0 0 (QI D G base rv h' below args s 0 0) (F0 m 23 ls []) := by
    intro h H locs ls hM hS hl hrun
    unfold f_X3_isLive_j23 at hrun
    refine lv_iconst (v := Int32.ofInt 0) hx hb dX3_isLive_23 rfl ?_
    exact j24 h 0 H locs ls (by decide) hM hS (lsub hl [] rfl) hrun
  refine s_entry hargs hM (c_r (c_i c_0)) (Nat.le_of_ble_eq_true rfl) (fun H locs ls hM hS hl => ?_)
  replace hl : lvh ls 2 [(0, vr x0), (1, vi x1)] := hl
  unfold f_X3_isLive at hrun
  refine s_aload_n hx hb dX3_isLive_0 rfl (la hl 0 rfl) ?_
  refine lv_iload_n hx hb dX3_isLive_1 rfl (la hl 1 rfl) ?_
  obtain ⟨u2, g2, hrun⟩ := bd hrun
  obtain ⟨r1, g1, hrun⟩ := bd hrun
  refine s_callV (n := 1) (rest := []) [vi x1] hx hb hml hown hts hE hM hS (c_X3_wasTaken l D G base h r1.2 x0 x1 r1.1 i_x1 g1) kw_164 kw_160 kw_51 kw_162 kw_5 (by decide +kernel) ⟨Nat.le_of_ble_eq_true rfl, Nat.le_of_ble_eq_true rfl⟩ rfl rfl (by decide) g2 rfl hl.1.1 rfl (c8 c_0 (Nat.le_of_ble_eq_true rfl)) dX3_isLive_2 ⟨Nat.le_of_ble_eq_true rfl, Nat.le_of_ble_eq_true rfl⟩ (fun H locs i_r1 hM hS => ?_)
  refine W.eq (g2 := F0 m 5 ls [vi r1.1]) rfl ?_
  refine s_if_eq (tgt := 23) hx hb dX3_isLive_5 (by decide) i_r1 (fun cd => ?_) (fun cd => ?_)
  · replace hrun := it_pos cd hrun
    exact j23 r1.2 H locs ls hM hS (lsub hl [] rfl) hrun
  · replace hrun := it_neg cd hrun
    refine s_aload_n hx hb dX3_isLive_8 rfl (la hl 0 rfl) ?_
    obtain ⟨v3, g3, hrun⟩ := bd hrun
    refine s_getfr hx hb hts kl_3 hown hE.1 hM (ci := 3) rfl (by decide) rfl (k := 9) (by decide) rfl (hts _ kw_469) g3 dX3_isLive_9 ?_
    refine lv_iload_n hx hb dX3_isLive_12 rfl (la hl 1 rfl) ?_
    obtain ⟨v4, g4, hrun⟩ := bd hrun
    refine s_iald hx hb hE.1 hM i_x1 g4 dX3_isLive_13 ?_
    have i_v4 : inr v4 := ald_i hM g4 (by decide) (by decide)
    refine lv_bipush (v := Int32.ofInt (-2)) hx hb dX3_isLive_14 (by decide) ?_
    refine s_icmp_ne (tgt := 23) hx hb dX3_isLive_16 (by decide) i_v4 (by decide) (fun cd => ?_) (fun cd => ?_)
    · replace hrun := it_pos cd hrun
      exact j23 r1.2 H locs ls hM hS (lsub hl [] rfl) hrun
    · replace hrun := it_neg cd hrun
      refine lv_iconst (v := Int32.ofInt 1) hx hb dX3_isLive_19 rfl ?_
      refine lv_goto (tgt := 24) hx hb dX3_isLive_20 (by decide) ?_
      exact j24 r1.2 1 H locs ls (by decide) hM hS (lsub hl [] rfl) hrun
def f_X3_liveBeginsAt_j28 (h : Hp) (s0 : Int) : Option (Int × Hp) :=
  rtB s0 h
def f_X3_liveBeginsAt_j27 (h : Hp) : Option (Int × Hp) :=
  f_X3_liveBeginsAt_j28 h 0
def f_X3_liveBeginsAt (h : Hp) (x0 x1 : Int) : Option (Int × Hp) :=
  Option.bind (ckd h 3 x0) fun u2 =>
  Option.bind (f_X3_numberOver h x0 x1) fun r1 =>
  Option.bind (ckd r1.2 3 x0) fun u4 =>
  Option.bind (f_X3_isLive r1.2 x0 r1.1) fun r3 =>
  if r3.1 = 0 then (
    f_X3_liveBeginsAt_j27 r3.2
  ) else (
    Option.bind (ckd r3.2 3 x0) fun u6 =>
    Option.bind (f_X3_beginOf r3.2 x0 r1.1) fun r5 =>
    if r5.1 ≠ x1 then (
      f_X3_liveBeginsAt_j27 r5.2
    ) else (
      f_X3_liveBeginsAt_j28 r5.2 1
    )
  )
abbrev w_X3_liveBeginsAt : List Cond := Cond.code yX3_liveBeginsAt cX3_liveBeginsAt 3 (some .boolean) :: BW
abbrev rm_X3_liveBeginsAt : Room := { frames := 3, cells := 0, slots := 0, locals := 64 }
set_option maxHeartbeats 4000000 in
set_option maxRecDepth 100000 in
theorem c_X3_liveBeginsAt (l : Launch) (D : va_G) (G : Nat → ClassId) (base : Nat) (h h' : Hp) (x0 x1 : Int) (rv : Int) (i_x1 : inr x1) (hrun : f_X3_liveBeginsAt h x0 x1 = some (rv, h')) : Met l yX3_liveBeginsAt w_X3_liveBeginsAt rm_X3_liveBeginsAt (PC l D G base h [vr x0, vi x1]) (QR D G base (some (vi rv)) (inr rv) h') rm_X3_liveBeginsAt.cells rm_X3_liveBeginsAt.slots (Ab base) := by
  refine Met.ofW (cc := cX3_liveBeginsAt) (maxL := 3) (ret := (some .boolean)) (by decide) rfl ?_
  intro p e s m args below meth c s₁ B hml hv
  obtain ⟨hargs, hE, hM⟩ := hv
  have hx := B.exec
  have hb := B.bytes
  have hr := B.returns
  have hts0 := atoms_spec (ws := w_X3_liveBeginsAt) B.pre
  have hts : ∀ w ∈ BW, w.before args s = true := fun w hw => hts0 w (List.mem_cons_of_mem _ hw)
  have hown : s.vm.findClass RX3 = some m.cls := findClass_of_methodNamed B.named
  have hlocks := B.notSynchronized
  have j28 : ∀ (h : Hp) (s0 : Int) (H : Heap) (locs : List Loc) (ls : Array Slot), inr s0 → SM D G base h H → va_S (Ab base) s.heap H locs → lvh ls 3 [] → f_X3_liveBeginsAt_j28 h s0 = some (rv, h') → W p l e (headSpec w_X3_liveBeginsAt rm_X3_liveBeginsAt).room s m args below meth c H locs 0 0 (QI D G base rv h' below args s 0 0) (F0 m 28 ls [vi s0]) := by
    intro h s0 H locs ls i_s0 hM hS hl hrun
    unfold f_X3_liveBeginsAt_j28 at hrun
    exact s_zret hx hb hr hlocks hM hS i_s0 hrun (Nat.le_of_ble_eq_true rfl) (Nat.le_of_ble_eq_true rfl) dX3_liveBeginsAt_28
  have j27 : ∀ (h : Hp) (H : Heap) (locs : List Loc) (ls : Array Slot), SM D G base h H → va_S (Ab base) s.heap H locs → lvh ls 3 [] → f_X3_liveBeginsAt_j27 h = some (rv, h') → W p l e (headSpec w_X3_liveBeginsAt rm_X3_liveBeginsAt).room s m args below meth c H locs 0 0 (QI D G base rv h' below args s 0 0) (F0 m 27 ls []) := by
    intro h H locs ls hM hS hl hrun
    unfold f_X3_liveBeginsAt_j27 at hrun
    refine lv_iconst (v := Int32.ofInt 0) hx hb dX3_liveBeginsAt_27 rfl ?_
    exact j28 h 0 H locs ls (by decide) hM hS (lsub hl [] rfl) hrun
  refine s_entry hargs hM (c_r (c_i c_0)) (Nat.le_of_ble_eq_true rfl) (fun H locs ls hM hS hl => ?_)
  replace hl : lvh ls 3 [(0, vr x0), (1, vi x1)] := hl
  unfold f_X3_liveBeginsAt at hrun
  refine s_aload_n hx hb dX3_liveBeginsAt_0 rfl (la hl 0 rfl) ?_
  refine lv_iload_n hx hb dX3_liveBeginsAt_1 rfl (la hl 1 rfl) ?_
  obtain ⟨u2, g2, hrun⟩ := bd hrun
  obtain ⟨r1, g1, hrun⟩ := bd hrun
  refine s_callV (n := 1) (rest := []) [vi x1] hx hb hml hown hts hE hM hS (c_X3_numberOver l D G base h r1.2 x0 x1 r1.1 i_x1 g1) kw_147 kw_548 kw_51 kw_145 kw_146 (by decide +kernel) ⟨Nat.le_of_ble_eq_true rfl, Nat.le_of_ble_eq_true rfl⟩ rfl rfl (by decide) g2 rfl hl.1.1 rfl (c8 c_0 (Nat.le_of_ble_eq_true rfl)) dX3_liveBeginsAt_2 ⟨Nat.le_of_ble_eq_true rfl, Nat.le_of_ble_eq_true rfl⟩ (fun H locs i_r1 hM hS => ?_)
  refine W.eq (g2 := F0 m 5 ls [vi r1.1]) rfl ?_
  refine t_istore_n (lv' := [(2, vi r1.1), (0, vr x0), (1, vi x1)]) hx hb dX3_liveBeginsAt_5 rfl hl (by decide) rfl (fun ls hl => ?_)
  refine s_aload_n hx hb dX3_liveBeginsAt_6 rfl (la hl 1 rfl) ?_
  refine lv_iload_n hx hb dX3_liveBeginsAt_7 rfl (la hl 0 rfl) ?_
  obtain ⟨u4, g4, hrun⟩ := bd hrun
  obtain ⟨r3, g3, hrun⟩ := bd hrun
  refine s_callV (n := 1) (rest := []) [vi r1.1] hx hb hml hown hts hE hM hS (c_X3_isLive l D G base r1.2 r3.2 x0 r1.1 r3.1 i_r1 g3) kw_159 kw_549 kw_51 kw_157 kw_158 (by decide +kernel) ⟨Nat.le_of_ble_eq_true rfl, Nat.le_of_ble_eq_true rfl⟩ rfl rfl (by decide) g4 rfl hl.1.1 rfl (c8 c_0 (Nat.le_of_ble_eq_true rfl)) dX3_liveBeginsAt_8 ⟨Nat.le_of_ble_eq_true rfl, Nat.le_of_ble_eq_true rfl⟩ (fun H locs i_r3 hM hS => ?_)
  refine W.eq (g2 := F0 m 11 ls [vi r3.1]) rfl ?_
  refine s_if_eq (tgt := 27) hx hb dX3_liveBeginsAt_11 (by decide) i_r3 (fun cd => ?_) (fun cd => ?_)
  · replace hrun := it_pos cd hrun
    exact j27 r3.2 H locs ls hM hS (lsub hl [] rfl) hrun
  · replace hrun := it_neg cd hrun
    refine s_aload_n hx hb dX3_liveBeginsAt_14 rfl (la hl 1 rfl) ?_
    refine lv_iload_n hx hb dX3_liveBeginsAt_15 rfl (la hl 0 rfl) ?_
    obtain ⟨u6, g6, hrun⟩ := bd hrun
    obtain ⟨r5, g5, hrun⟩ := bd hrun
    refine s_callV (n := 1) (rest := []) [vi r1.1] hx hb hml hown hts hE hM hS (c_X3_beginOf l D G base r3.2 r5.2 x0 r1.1 r5.1 i_r1 g5) kw_151 kw_148 kw_51 kw_149 kw_150 (by decide +kernel) ⟨Nat.le_of_ble_eq_true rfl, Nat.le_of_ble_eq_true rfl⟩ rfl rfl (by decide) g6 rfl hl.1.1 rfl (c8 c_0 (Nat.le_of_ble_eq_true rfl)) dX3_liveBeginsAt_16 ⟨Nat.le_of_ble_eq_true rfl, Nat.le_of_ble_eq_true rfl⟩ (fun H locs i_r5 hM hS => ?_)
    refine W.eq (g2 := F0 m 19 ls [vi r5.1]) rfl ?_
    refine lv_iload_n hx hb dX3_liveBeginsAt_19 rfl (la hl 2 rfl) ?_
    refine s_icmp_ne (tgt := 27) hx hb dX3_liveBeginsAt_20 (by decide) i_r5 i_x1 (fun cd => ?_) (fun cd => ?_)
    · replace hrun := it_pos cd hrun
      exact j27 r5.2 H locs ls hM hS (lsub hl [] rfl) hrun
    · replace hrun := it_neg cd hrun
      refine lv_iconst (v := Int32.ofInt 1) hx hb dX3_liveBeginsAt_23 rfl ?_
      refine lv_goto (tgt := 28) hx hb dX3_liveBeginsAt_24 (by decide) ?_
      exact j28 r5.2 1 H locs ls (by decide) hM hS (lsub hl [] rfl) hrun
def f_X3_markOf_j24 (h : Hp) (s0 : Int) : Option (Int × Hp) :=
  some (s0, h)
def f_X3_markOf (h : Hp) (x0 x1 : Int) : Option (Int × Hp) :=
  Option.bind (ckd h 3 x0) fun u2 =>
  Option.bind (f_X3_wasTaken h x0 x1) fun r1 =>
  if r1.1 = 0 then (
    Option.bind (gtf r1.2 3 0 x0) fun v3 =>
    Option.bind (gtf r1.2 1 4 v3) fun v4 =>
    f_X3_markOf_j24 r1.2 v4
  ) else (
    Option.bind (gtf r1.2 3 10 x0) fun v5 =>
    Option.bind (ald r1.2 8 v5 x1) fun v6 =>
    f_X3_markOf_j24 r1.2 v6
  )
abbrev w_X3_markOf : List Cond := Cond.code yX3_markOf cX3_markOf 2 (some .int) :: BW
abbrev rm_X3_markOf : Room := { frames := 1, cells := 0, slots := 0, locals := 21 }
set_option maxHeartbeats 4000000 in
set_option maxRecDepth 100000 in
theorem c_X3_markOf (l : Launch) (D : va_G) (G : Nat → ClassId) (base : Nat) (h h' : Hp) (x0 x1 : Int) (rv : Int) (i_x1 : inr x1) (hrun : f_X3_markOf h x0 x1 = some (rv, h')) : Met l yX3_markOf w_X3_markOf rm_X3_markOf (PC l D G base h [vr x0, vi x1]) (QR D G base (some (vi rv)) (inr rv) h') rm_X3_markOf.cells rm_X3_markOf.slots (Ab base) := by
  refine Met.ofW (cc := cX3_markOf) (maxL := 2) (ret := (some .int)) (by decide) rfl ?_
  intro p e s m args below meth c s₁ B hml hv
  obtain ⟨hargs, hE, hM⟩ := hv
  have hx := B.exec
  have hb := B.bytes
  have hr := B.returns
  have hts0 := atoms_spec (ws := w_X3_markOf) B.pre
  have hts : ∀ w ∈ BW, w.before args s = true := fun w hw => hts0 w (List.mem_cons_of_mem _ hw)
  have hown : s.vm.findClass RX3 = some m.cls := findClass_of_methodNamed B.named
  have hlocks := B.notSynchronized
  have j24 : ∀ (h : Hp) (s0 : Int) (H : Heap) (locs : List Loc) (ls : Array Slot), inr s0 → SM D G base h H → va_S (Ab base) s.heap H locs → lvh ls 2 [] → f_X3_markOf_j24 h s0 = some (rv, h') → W p l e (headSpec w_X3_markOf rm_X3_markOf).room s m args below meth c H locs 0 0 (QI D G base rv h' below args s 0 0) (F0 m 24 ls [vi s0]) := by
    intro h s0 H locs ls i_s0 hM hS hl hrun
    unfold f_X3_markOf_j24 at hrun
    exact s_iret hx hb hr hlocks hM hS i_s0 hrun (Nat.le_of_ble_eq_true rfl) (Nat.le_of_ble_eq_true rfl) dX3_markOf_24
  refine s_entry hargs hM (c_r (c_i c_0)) (Nat.le_of_ble_eq_true rfl) (fun H locs ls hM hS hl => ?_)
  replace hl : lvh ls 2 [(0, vr x0), (1, vi x1)] := hl
  unfold f_X3_markOf at hrun
  refine s_aload_n hx hb dX3_markOf_0 rfl (la hl 0 rfl) ?_
  refine lv_iload_n hx hb dX3_markOf_1 rfl (la hl 1 rfl) ?_
  obtain ⟨u2, g2, hrun⟩ := bd hrun
  obtain ⟨r1, g1, hrun⟩ := bd hrun
  refine s_callV (n := 1) (rest := []) [vi x1] hx hb hml hown hts hE hM hS (c_X3_wasTaken l D G base h r1.2 x0 x1 r1.1 i_x1 g1) kw_164 kw_160 kw_51 kw_162 kw_5 (by decide +kernel) ⟨Nat.le_of_ble_eq_true rfl, Nat.le_of_ble_eq_true rfl⟩ rfl rfl (by decide) g2 rfl hl.1.1 rfl (c8 c_0 (Nat.le_of_ble_eq_true rfl)) dX3_markOf_2 ⟨Nat.le_of_ble_eq_true rfl, Nat.le_of_ble_eq_true rfl⟩ (fun H locs i_r1 hM hS => ?_)
  refine W.eq (g2 := F0 m 5 ls [vi r1.1]) rfl ?_
  refine s_if_eq (tgt := 17) hx hb dX3_markOf_5 (by decide) i_r1 (fun cd => ?_) (fun cd => ?_)
  · replace hrun := it_pos cd hrun
    refine s_aload_n hx hb dX3_markOf_17 rfl (la hl 0 rfl) ?_
    obtain ⟨v3, g3, hrun⟩ := bd hrun
    refine s_getfr hx hb hts kl_3 hown hE.1 hM (ci := 3) rfl (by decide) rfl (k := 0) (by decide) rfl (hts _ kw_454) g3 dX3_markOf_18 ?_
    obtain ⟨v4, g4, hrun⟩ := bd hrun
    refine s_getfi hx hb hts kl_1 hown hE.1 hM (ci := 1) rfl (by decide) rfl (k := 4) (by decide) rfl (hts _ kw_296) g4 dX3_markOf_21 ?_
    have i_v4 : inr v4 := gtf_i hM g4 (by decide) rfl
    exact j24 r1.2 v4 H locs ls i_v4 hM hS (lsub hl [] rfl) hrun
  · replace hrun := it_neg cd hrun
    refine s_aload_n hx hb dX3_markOf_8 rfl (la hl 0 rfl) ?_
    obtain ⟨v5, g5, hrun⟩ := bd hrun
    refine s_getfr hx hb hts kl_3 hown hE.1 hM (ci := 3) rfl (by decide) rfl (k := 10) (by decide) rfl (hts _ kw_470) g5 dX3_markOf_9 ?_
    refine lv_iload_n hx hb dX3_markOf_12 rfl (la hl 1 rfl) ?_
    obtain ⟨v6, g6, hrun⟩ := bd hrun
    refine s_iald hx hb hE.1 hM i_x1 g6 dX3_markOf_13 ?_
    have i_v6 : inr v6 := ald_i hM g6 (by decide) (by decide)
    refine lv_goto (tgt := 24) hx hb dX3_markOf_14 (by decide) ?_
    exact j24 r1.2 v6 H locs ls i_v6 hM hS (lsub hl [] rfl) hrun
def f_X3_changeMark_j21 (h : Hp) (x3 : Int) : Option (Int × Hp) :=
  some (x3, h)
def f_X3_changeMark (h : Hp) (x0 x1 x2 : Int) : Option (Int × Hp) :=
  Option.bind (ckd h 3 x0) fun u2 =>
  Option.bind (f_X3_markOf h x0 x1) fun r1 =>
  Option.bind (ckd r1.2 3 x0) fun u4 =>
  Option.bind (f_X3_wasTaken r1.2 x0 x1) fun r3 =>
  if r3.1 = 0 then (
    f_X3_changeMark_j21 r3.2 r1.1
  ) else (
    Option.bind (gtf r3.2 3 10 x0) fun v5 =>
    Option.bind (ast r3.2 8 v5 x1 x2) fun h6 =>
    f_X3_changeMark_j21 h6 r1.1
  )
abbrev w_X3_changeMark : List Cond := Cond.code yX3_changeMark cX3_changeMark 4 (some .int) :: BW
abbrev rm_X3_changeMark : Room := { frames := 2, cells := 0, slots := 0, locals := 42 }
set_option maxHeartbeats 4000000 in
set_option maxRecDepth 100000 in
theorem c_X3_changeMark (l : Launch) (D : va_G) (G : Nat → ClassId) (base : Nat) (h h' : Hp) (x0 x1 x2 : Int) (rv : Int) (i_x1 : inr x1) (i_x2 : inr x2) (hrun : f_X3_changeMark h x0 x1 x2 = some (rv, h')) : Met l yX3_changeMark w_X3_changeMark rm_X3_changeMark (PC l D G base h [vr x0, vi x1, vi x2]) (QR D G base (some (vi rv)) (inr rv) h') rm_X3_changeMark.cells rm_X3_changeMark.slots (Ab base) := by
  refine Met.ofW (cc := cX3_changeMark) (maxL := 4) (ret := (some .int)) (by decide) rfl ?_
  intro p e s m args below meth c s₁ B hml hv
  obtain ⟨hargs, hE, hM⟩ := hv
  have hx := B.exec
  have hb := B.bytes
  have hr := B.returns
  have hts0 := atoms_spec (ws := w_X3_changeMark) B.pre
  have hts : ∀ w ∈ BW, w.before args s = true := fun w hw => hts0 w (List.mem_cons_of_mem _ hw)
  have hown : s.vm.findClass RX3 = some m.cls := findClass_of_methodNamed B.named
  have hlocks := B.notSynchronized
  have j21 : ∀ (h : Hp) (x3 : Int) (H : Heap) (locs : List Loc) (ls : Array Slot), inr x3 → SM D G base h H → va_S (Ab base) s.heap H locs → lvh ls 4 [(3, vi x3)] → f_X3_changeMark_j21 h x3 = some (rv, h') → W p l e (headSpec w_X3_changeMark rm_X3_changeMark).room s m args below meth c H locs 0 0 (QI D G base rv h' below args s 0 0) (F0 m 21 ls []) := by
    intro h x3 H locs ls i_x3 hM hS hl hrun
    unfold f_X3_changeMark_j21 at hrun
    refine lv_iload_n hx hb dX3_changeMark_21 rfl (la hl 0 rfl) ?_
    exact s_iret hx hb hr hlocks hM hS i_x3 hrun (Nat.le_of_ble_eq_true rfl) (Nat.le_of_ble_eq_true rfl) dX3_changeMark_22
  refine s_entry hargs hM (c_r (c_i (c_i c_0))) (Nat.le_of_ble_eq_true rfl) (fun H locs ls hM hS hl => ?_)
  replace hl : lvh ls 4 [(0, vr x0), (1, vi x1), (2, vi x2)] := hl
  unfold f_X3_changeMark at hrun
  refine s_aload_n hx hb dX3_changeMark_0 rfl (la hl 0 rfl) ?_
  refine lv_iload_n hx hb dX3_changeMark_1 rfl (la hl 1 rfl) ?_
  obtain ⟨u2, g2, hrun⟩ := bd hrun
  obtain ⟨r1, g1, hrun⟩ := bd hrun
  refine s_callV (n := 1) (rest := []) [vi x1] hx hb hml hown hts hE hM hS (c_X3_markOf l D G base h r1.2 x0 x1 r1.1 i_x1 g1) kw_554 kw_588 kw_51 kw_552 kw_553 (by decide +kernel) ⟨Nat.le_of_ble_eq_true rfl, Nat.le_of_ble_eq_true rfl⟩ rfl rfl (by decide) g2 rfl hl.1.1 rfl (c8 c_0 (Nat.le_of_ble_eq_true rfl)) dX3_changeMark_2 ⟨Nat.le_of_ble_eq_true rfl, Nat.le_of_ble_eq_true rfl⟩ (fun H locs i_r1 hM hS => ?_)
  refine W.eq (g2 := F0 m 5 ls [vi r1.1]) rfl ?_
  refine t_istore_n (lv' := [(3, vi r1.1), (0, vr x0), (1, vi x1), (2, vi x2)]) hx hb dX3_changeMark_5 rfl hl (by decide) rfl (fun ls hl => ?_)
  refine s_aload_n hx hb dX3_changeMark_6 rfl (la hl 1 rfl) ?_
  refine lv_iload_n hx hb dX3_changeMark_7 rfl (la hl 2 rfl) ?_
  obtain ⟨u4, g4, hrun⟩ := bd hrun
  obtain ⟨r3, g3, hrun⟩ := bd hrun
  refine s_callV (n := 1) (rest := []) [vi x1] hx hb hml hown hts hE hM hS (c_X3_wasTaken l D G base r1.2 r3.2 x0 x1 r3.1 i_x1 g3) kw_164 kw_160 kw_51 kw_162 kw_5 (by decide +kernel) ⟨Nat.le_of_ble_eq_true rfl, Nat.le_of_ble_eq_true rfl⟩ rfl rfl (by decide) g4 rfl hl.1.1 rfl (c8 c_0 (Nat.le_of_ble_eq_true rfl)) dX3_changeMark_8 ⟨Nat.le_of_ble_eq_true rfl, Nat.le_of_ble_eq_true rfl⟩ (fun H locs i_r3 hM hS => ?_)
  refine W.eq (g2 := F0 m 11 ls [vi r3.1]) rfl ?_
  refine s_if_eq (tgt := 21) hx hb dX3_changeMark_11 (by decide) i_r3 (fun cd => ?_) (fun cd => ?_)
  · replace hrun := it_pos cd hrun
    exact j21 r3.2 r1.1 H locs ls i_r1 hM hS (lsub hl [0] rfl) hrun
  · replace hrun := it_neg cd hrun
    refine s_aload_n hx hb dX3_changeMark_14 rfl (la hl 1 rfl) ?_
    obtain ⟨v5, g5, hrun⟩ := bd hrun
    refine s_getfr hx hb hts kl_3 hown hE.1 hM (ci := 3) rfl (by decide) rfl (k := 10) (by decide) rfl (hts _ kw_470) g5 dX3_changeMark_15 ?_
    refine lv_iload_n hx hb dX3_changeMark_18 rfl (la hl 2 rfl) ?_
    refine lv_iload_n hx hb dX3_changeMark_19 rfl (la hl 3 rfl) ?_
    obtain ⟨h6, g6, hrun⟩ := bd hrun
    refine s_iast hx hb hE.1 hM hS i_x1 i_x2 g6 dX3_changeMark_20 (fun H locs hM hS => ?_)
    exact j21 h6 r1.1 H locs ls i_r1 hM hS (lsub hl [0] rfl) hrun
def f_X3_kind_j28 (h : Hp) (s0 : Int) : Option (Int × Hp) :=
  some (s0, h)
def f_X3_kind (h : Hp) (x0 : Int) : Option (Int × Hp) :=
  Option.bind (gtf h 3 3 x0) fun v1 =>
  Option.bind (gtf h 3 0 x0) fun v2 =>
  Option.bind (gtf h 1 6 v2) fun v3 =>
  if v1 < v3 then (
    Option.bind (gtf h 3 3 x0) fun v4 =>
    if v4 ≠ 0 then (
      f_X3_kind_j28 h 1
    ) else (
      f_X3_kind_j28 h 2
    )
  ) else (
    some (0, h)
  )
abbrev w_X3_kind : List Cond := Cond.code yX3_kind cX3_kind 1 (some .int) :: BW
abbrev rm_X3_kind : Room := { frames := 0, cells := 0, slots := 0, locals := 0 }
set_option maxHeartbeats 4000000 in
set_option maxRecDepth 100000 in
theorem c_X3_kind (l : Launch) (D : va_G) (G : Nat → ClassId) (base : Nat) (h h' : Hp) (x0 : Int) (rv : Int) (hrun : f_X3_kind h x0 = some (rv, h')) : Met l yX3_kind w_X3_kind rm_X3_kind (PC l D G base h [vr x0]) (QR D G base (some (vi rv)) (inr rv) h') rm_X3_kind.cells rm_X3_kind.slots (Ab base) := by
  refine Met.ofW (cc := cX3_kind) (maxL := 1) (ret := (some .int)) (by decide) rfl ?_
  intro p e s m args below meth c s₁ B hml hv
  obtain ⟨hargs, hE, hM⟩ := hv
  have hx := B.exec
  have hb := B.bytes
  have hr := B.returns
  have hts0 := atoms_spec (ws := w_X3_kind) B.pre
  have hts : ∀ w ∈ BW, w.before args s = true := fun w hw => hts0 w (List.mem_cons_of_mem _ hw)
  have hown : s.vm.findClass RX3 = some m.cls := findClass_of_methodNamed B.named
  have hlocks := B.notSynchronized
  have j28 : ∀ (h : Hp) (s0 : Int) (H : Heap) (locs : List Loc) (ls : Array Slot), inr s0 → SM D G base h H → va_S (Ab base) s.heap H locs → lvh ls 1 [] → f_X3_kind_j28 h s0 = some (rv, h') → W p l e (headSpec w_X3_kind rm_X3_kind).room s m args below meth c H locs 0 0 (QI D G base rv h' below args s 0 0) (F0 m 28 ls [vi s0]) := by
    intro h s0 H locs ls i_s0 hM hS hl hrun
    unfold f_X3_kind_j28 at hrun
    exact s_iret hx hb hr hlocks hM hS i_s0 hrun (Nat.le_of_ble_eq_true rfl) (Nat.le_of_ble_eq_true rfl) dX3_kind_28
  refine s_entry hargs hM (c_r c_0) (Nat.le_of_ble_eq_true rfl) (fun H locs ls hM hS hl => ?_)
  replace hl : lvh ls 1 [(0, vr x0)] := hl
  unfold f_X3_kind at hrun
  refine s_aload_n hx hb dX3_kind_0 rfl (la hl 0 rfl) ?_
  obtain ⟨v1, g1, hrun⟩ := bd hrun
  refine s_getfi hx hb hts kl_3 hown hE.1 hM (ci := 3) rfl (by decide) rfl (k := 3) (by decide) rfl (hts _ kw_460) g1 dX3_kind_1 ?_
  have i_v1 : inr v1 := gtf_i hM g1 (by decide) rfl
  refine s_aload_n hx hb dX3_kind_4 rfl (la hl 0 rfl) ?_
  obtain ⟨v2, g2, hrun⟩ := bd hrun
  refine s_getfr hx hb hts kl_3 hown hE.1 hM (ci := 3) rfl (by decide) rfl (k := 0) (by decide) rfl (hts _ kw_454) g2 dX3_kind_5 ?_
  obtain ⟨v3, g3, hrun⟩ := bd hrun
  refine s_getfi hx hb hts kl_1 hown hE.1 hM (ci := 1) rfl (by decide) rfl (k := 6) (by decide) rfl (hts _ kw_300) g3 dX3_kind_8 ?_
  have i_v3 : inr v3 := gtf_i hM g3 (by decide) rfl
  refine s_icmp_lt (tgt := 16) hx hb dX3_kind_11 (by decide) i_v1 i_v3 (fun cd => ?_) (fun cd => ?_)
  · replace hrun := it_pos cd hrun
    refine s_aload_n hx hb dX3_kind_16 rfl (la hl 0 rfl) ?_
    obtain ⟨v4, g4, hrun⟩ := bd hrun
    refine s_getfi hx hb hts kl_3 hown hE.1 hM (ci := 3) rfl (by decide) rfl (k := 3) (by decide) rfl (hts _ kw_460) g4 dX3_kind_17 ?_
    have i_v4 : inr v4 := gtf_i hM g4 (by decide) rfl
    refine s_if_ne (tgt := 27) hx hb dX3_kind_20 (by decide) i_v4 (fun cd => ?_) (fun cd => ?_)
    · replace hrun := it_pos cd hrun
      refine lv_iconst (v := Int32.ofInt 1) hx hb dX3_kind_27 rfl ?_
      exact j28 h 1 H locs ls (by decide) hM hS (lsub hl [] rfl) hrun
    · replace hrun := it_neg cd hrun
      refine lv_iconst (v := Int32.ofInt 2) hx hb dX3_kind_23 rfl ?_
      refine lv_goto (tgt := 28) hx hb dX3_kind_24 (by decide) ?_
      exact j28 h 2 H locs ls (by decide) hM hS (lsub hl [] rfl) hrun
  · replace hrun := it_neg cd hrun
    refine lv_iconst (v := Int32.ofInt 0) hx hb dX3_kind_14 rfl ?_
    exact s_iret hx hb hr hlocks hM hS (by decide) hrun (Nat.le_of_ble_eq_true rfl) (Nat.le_of_ble_eq_true rfl) dX3_kind_15
def f_X3_firstFree_j35 (h : Hp) (s0 : Int) : Option (Int × Hp) :=
  some (s0, h)
def f_X3_firstFree (h : Hp) (x0 : Int) : Option (Int × Hp) :=
  Option.bind (gtf h 3 8 x0) fun v1 =>
  if v1 = (-1) then (
    Option.bind (gtf h 3 7 x0) fun v2 =>
    Option.bind (gtf h 3 0 x0) fun v3 =>
    Option.bind (gtf h 1 6 v3) fun v4 =>
    if v4 ≤ v2 then (
      f_X3_firstFree_j35 h (-1)
    ) else (
      Option.bind (gtf h 3 7 x0) fun v5 =>
      f_X3_firstFree_j35 h v5
    )
  ) else (
    Option.bind (gtf h 3 8 x0) fun v6 =>
    some (v6, h)
  )
abbrev w_X3_firstFree : List Cond := Cond.code yX3_firstFree cX3_firstFree 1 (some .int) :: BW
abbrev rm_X3_firstFree : Room := { frames := 0, cells := 0, slots := 0, locals := 0 }
set_option maxHeartbeats 4000000 in
set_option maxRecDepth 100000 in
theorem c_X3_firstFree (l : Launch) (D : va_G) (G : Nat → ClassId) (base : Nat) (h h' : Hp) (x0 : Int) (rv : Int) (hrun : f_X3_firstFree h x0 = some (rv, h')) : Met l yX3_firstFree w_X3_firstFree rm_X3_firstFree (PC l D G base h [vr x0]) (QR D G base (some (vi rv)) (inr rv) h') rm_X3_firstFree.cells rm_X3_firstFree.slots (Ab base) := by
  refine Met.ofW (cc := cX3_firstFree) (maxL := 1) (ret := (some .int)) (by decide) rfl ?_
  intro p e s m args below meth c s₁ B hml hv
  obtain ⟨hargs, hE, hM⟩ := hv
  have hx := B.exec
  have hb := B.bytes
  have hr := B.returns
  have hts0 := atoms_spec (ws := w_X3_firstFree) B.pre
  have hts : ∀ w ∈ BW, w.before args s = true := fun w hw => hts0 w (List.mem_cons_of_mem _ hw)
  have hown : s.vm.findClass RX3 = some m.cls := findClass_of_methodNamed B.named
  have hlocks := B.notSynchronized
  have j35 : ∀ (h : Hp) (s0 : Int) (H : Heap) (locs : List Loc) (ls : Array Slot), inr s0 → SM D G base h H → va_S (Ab base) s.heap H locs → lvh ls 1 [] → f_X3_firstFree_j35 h s0 = some (rv, h') → W p l e (headSpec w_X3_firstFree rm_X3_firstFree).room s m args below meth c H locs 0 0 (QI D G base rv h' below args s 0 0) (F0 m 35 ls [vi s0]) := by
    intro h s0 H locs ls i_s0 hM hS hl hrun
    unfold f_X3_firstFree_j35 at hrun
    exact s_iret hx hb hr hlocks hM hS i_s0 hrun (Nat.le_of_ble_eq_true rfl) (Nat.le_of_ble_eq_true rfl) dX3_firstFree_35
  refine s_entry hargs hM (c_r c_0) (Nat.le_of_ble_eq_true rfl) (fun H locs ls hM hS hl => ?_)
  replace hl : lvh ls 1 [(0, vr x0)] := hl
  unfold f_X3_firstFree at hrun
  refine s_aload_n hx hb dX3_firstFree_0 rfl (la hl 0 rfl) ?_
  obtain ⟨v1, g1, hrun⟩ := bd hrun
  refine s_getfi hx hb hts kl_3 hown hE.1 hM (ci := 3) rfl (by decide) rfl (k := 8) (by decide) rfl (hts _ kw_468) g1 dX3_firstFree_1 ?_
  have i_v1 : inr v1 := gtf_i hM g1 (by decide) rfl
  refine lv_iconst (v := Int32.ofInt (-1)) hx hb dX3_firstFree_4 rfl ?_
  refine s_icmp_eq (tgt := 13) hx hb dX3_firstFree_5 (by decide) i_v1 (by decide) (fun cd => ?_) (fun cd => ?_)
  · replace hrun := it_pos cd hrun
    refine s_aload_n hx hb dX3_firstFree_13 rfl (la hl 0 rfl) ?_
    obtain ⟨v2, g2, hrun⟩ := bd hrun
    refine s_getfi hx hb hts kl_3 hown hE.1 hM (ci := 3) rfl (by decide) rfl (k := 7) (by decide) rfl (hts _ kw_467) g2 dX3_firstFree_14 ?_
    have i_v2 : inr v2 := gtf_i hM g2 (by decide) rfl
    refine s_aload_n hx hb dX3_firstFree_17 rfl (la hl 0 rfl) ?_
    obtain ⟨v3, g3, hrun⟩ := bd hrun
    refine s_getfr hx hb hts kl_3 hown hE.1 hM (ci := 3) rfl (by decide) rfl (k := 0) (by decide) rfl (hts _ kw_454) g3 dX3_firstFree_18 ?_
    obtain ⟨v4, g4, hrun⟩ := bd hrun
    refine s_getfi hx hb hts kl_1 hown hE.1 hM (ci := 1) rfl (by decide) rfl (k := 6) (by decide) rfl (hts _ kw_300) g4 dX3_firstFree_21 ?_
    have i_v4 : inr v4 := gtf_i hM g4 (by decide) rfl
    refine s_icmp_ge (tgt := 34) hx hb dX3_firstFree_24 (by decide) i_v2 i_v4 (fun cd => ?_) (fun cd => ?_)
    · replace hrun := it_pos cd hrun
      refine lv_iconst (v := Int32.ofInt (-1)) hx hb dX3_firstFree_34 rfl ?_
      exact j35 h (-1) H locs ls (by decide) hM hS (lsub hl [] rfl) hrun
    · replace hrun := it_neg cd hrun
      refine s_aload_n hx hb dX3_firstFree_27 rfl (la hl 0 rfl) ?_
      obtain ⟨v5, g5, hrun⟩ := bd hrun
      refine s_getfi hx hb hts kl_3 hown hE.1 hM (ci := 3) rfl (by decide) rfl (k := 7) (by decide) rfl (hts _ kw_467) g5 dX3_firstFree_28 ?_
      have i_v5 : inr v5 := gtf_i hM g5 (by decide) rfl
      refine lv_goto (tgt := 35) hx hb dX3_firstFree_31 (by decide) ?_
      exact j35 h v5 H locs ls i_v5 hM hS (lsub hl [] rfl) hrun
  · replace hrun := it_neg cd hrun
    refine s_aload_n hx hb dX3_firstFree_8 rfl (la hl 0 rfl) ?_
    obtain ⟨v6, g6, hrun⟩ := bd hrun
    refine s_getfi hx hb hts kl_3 hown hE.1 hM (ci := 3) rfl (by decide) rfl (k := 8) (by decide) rfl (hts _ kw_468) g6 dX3_firstFree_9 ?_
    have i_v6 : inr v6 := gtf_i hM g6 (by decide) rfl
    exact s_iret hx hb hr hlocks hM hS i_v6 hrun (Nat.le_of_ble_eq_true rfl) (Nat.le_of_ble_eq_true rfl) dX3_firstFree_12
def f_X3_become_j15 (h : Hp) : Option (Int × Hp) :=
  some (0, h)
def f_X3_become (h : Hp) (x0 x1 x2 : Int) : Option (Int × Hp) :=
  Option.bind (ckd h 3 x0) fun u2 =>
  Option.bind (f_X3_wasTaken h x0 x1) fun r1 =>
  if r1.1 = 0 then (
    f_X3_become_j15 r1.2
  ) else (
    Option.bind (gtf r1.2 3 9 x0) fun v3 =>
    Option.bind (ast r1.2 8 v3 x1 x2) fun h4 =>
    f_X3_become_j15 h4
  )
abbrev w_X3_become : List Cond := Cond.code yX3_become cX3_become 3 none :: BW
abbrev rm_X3_become : Room := { frames := 1, cells := 0, slots := 0, locals := 21 }
set_option maxHeartbeats 4000000 in
set_option maxRecDepth 100000 in
theorem c_X3_become (l : Launch) (D : va_G) (G : Nat → ClassId) (base : Nat) (h h' : Hp) (x0 x1 x2 : Int) (rv : Int) (i_x1 : inr x1) (i_x2 : inr x2) (hrun : f_X3_become h x0 x1 x2 = some (rv, h')) : Met l yX3_become w_X3_become rm_X3_become (PC l D G base h [vr x0, vi x1, vi x2]) (QR D G base none True h') rm_X3_become.cells rm_X3_become.slots (Ab base) := by
  refine Met.ofW (cc := cX3_become) (maxL := 3) (ret := none) (by decide) rfl ?_
  intro p e s m args below meth c s₁ B hml hv
  obtain ⟨hargs, hE, hM⟩ := hv
  have hx := B.exec
  have hb := B.bytes
  have hr := B.returns
  have hts0 := atoms_spec (ws := w_X3_become) B.pre
  have hts : ∀ w ∈ BW, w.before args s = true := fun w hw => hts0 w (List.mem_cons_of_mem _ hw)
  have hown : s.vm.findClass RX3 = some m.cls := findClass_of_methodNamed B.named
  have hlocks := B.notSynchronized
  have j15 : ∀ (h : Hp) (H : Heap) (locs : List Loc) (ls : Array Slot), SM D G base h H → va_S (Ab base) s.heap H locs → lvh ls 3 [] → f_X3_become_j15 h = some (rv, h') → W p l e (headSpec w_X3_become rm_X3_become).room s m args below meth c H locs 0 0 (QV D G base rv h' below args s 0 0) (F0 m 15 ls []) := by
    intro h H locs ls hM hS hl hrun
    unfold f_X3_become_j15 at hrun
    exact s_vret hx hb hr hlocks hM hS hrun (Nat.le_of_ble_eq_true rfl) (Nat.le_of_ble_eq_true rfl) dX3_become_15
  refine s_entry hargs hM (c_r (c_i (c_i c_0))) (Nat.le_of_ble_eq_true rfl) (fun H locs ls hM hS hl => ?_)
  replace hl : lvh ls 3 [(0, vr x0), (1, vi x1), (2, vi x2)] := hl
  unfold f_X3_become at hrun
  refine s_aload_n hx hb dX3_become_0 rfl (la hl 0 rfl) ?_
  refine lv_iload_n hx hb dX3_become_1 rfl (la hl 1 rfl) ?_
  obtain ⟨u2, g2, hrun⟩ := bd hrun
  obtain ⟨r1, g1, hrun⟩ := bd hrun
  refine s_callV (n := 1) (rest := []) [vi x1] hx hb hml hown hts hE hM hS (c_X3_wasTaken l D G base h r1.2 x0 x1 r1.1 i_x1 g1) kw_164 kw_160 kw_51 kw_162 kw_5 (by decide +kernel) ⟨Nat.le_of_ble_eq_true rfl, Nat.le_of_ble_eq_true rfl⟩ rfl rfl (by decide) g2 rfl hl.1.1 rfl (c8 c_0 (Nat.le_of_ble_eq_true rfl)) dX3_become_2 ⟨Nat.le_of_ble_eq_true rfl, Nat.le_of_ble_eq_true rfl⟩ (fun H locs i_r1 hM hS => ?_)
  refine W.eq (g2 := F0 m 5 ls [vi r1.1]) rfl ?_
  refine s_if_eq (tgt := 15) hx hb dX3_become_5 (by decide) i_r1 (fun cd => ?_) (fun cd => ?_)
  · replace hrun := it_pos cd hrun
    exact j15 r1.2 H locs ls hM hS (lsub hl [] rfl) hrun
  · replace hrun := it_neg cd hrun
    refine s_aload_n hx hb dX3_become_8 rfl (la hl 0 rfl) ?_
    obtain ⟨v3, g3, hrun⟩ := bd hrun
    refine s_getfr hx hb hts kl_3 hown hE.1 hM (ci := 3) rfl (by decide) rfl (k := 9) (by decide) rfl (hts _ kw_469) g3 dX3_become_9 ?_
    refine lv_iload_n hx hb dX3_become_12 rfl (la hl 1 rfl) ?_
    refine lv_iload_n hx hb dX3_become_13 rfl (la hl 2 rfl) ?_
    obtain ⟨h4, g4, hrun⟩ := bd hrun
    refine s_iast hx hb hE.1 hM hS i_x1 i_x2 g4 dX3_become_14 (fun H locs hM hS => ?_)
    exact j15 h4 H locs ls hM hS (lsub hl [] rfl) hrun
def f_X3_putFirst_j33 (h : Hp) : Option (Int × Hp) :=
  some (0, h)
def f_X3_putFirst (h : Hp) (x0 x1 : Int) : Option (Int × Hp) :=
  Option.bind (ckd h 3 x0) fun u2 =>
  Option.bind (f_X3_wasTaken h x0 x1) fun r1 =>
  if r1.1 = 0 then (
    f_X3_putFirst_j33 r1.2
  ) else (
    Option.bind (gtf r1.2 3 9 x0) fun v3 =>
    Option.bind (gtf r1.2 3 8 x0) fun v4 =>
    Option.bind (ast r1.2 8 v3 x1 v4) fun h5 =>
    Option.bind (ptf h5 3 8 x0 x1) fun h6 =>
    Option.bind (gtf h6 3 3 x0) fun v7 =>
    Option.bind (ptf h6 3 3 x0 (wr (v7 - 1))) fun h8 =>
    f_X3_putFirst_j33 h8
  )
abbrev w_X3_putFirst : List Cond := Cond.code yX3_putFirst cX3_putFirst 2 none :: BW
abbrev rm_X3_putFirst : Room := { frames := 1, cells := 0, slots := 0, locals := 21 }
set_option maxHeartbeats 4000000 in
set_option maxRecDepth 100000 in
theorem c_X3_putFirst (l : Launch) (D : va_G) (G : Nat → ClassId) (base : Nat) (h h' : Hp) (x0 x1 : Int) (rv : Int) (i_x1 : inr x1) (hrun : f_X3_putFirst h x0 x1 = some (rv, h')) : Met l yX3_putFirst w_X3_putFirst rm_X3_putFirst (PC l D G base h [vr x0, vi x1]) (QR D G base none True h') rm_X3_putFirst.cells rm_X3_putFirst.slots (Ab base) := by
  refine Met.ofW (cc := cX3_putFirst) (maxL := 2) (ret := none) (by decide) rfl ?_
  intro p e s m args below meth c s₁ B hml hv
  obtain ⟨hargs, hE, hM⟩ := hv
  have hx := B.exec
  have hb := B.bytes
  have hr := B.returns
  have hts0 := atoms_spec (ws := w_X3_putFirst) B.pre
  have hts : ∀ w ∈ BW, w.before args s = true := fun w hw => hts0 w (List.mem_cons_of_mem _ hw)
  have hown : s.vm.findClass RX3 = some m.cls := findClass_of_methodNamed B.named
  have hlocks := B.notSynchronized
  have j33 : ∀ (h : Hp) (H : Heap) (locs : List Loc) (ls : Array Slot), SM D G base h H → va_S (Ab base) s.heap H locs → lvh ls 2 [] → f_X3_putFirst_j33 h = some (rv, h') → W p l e (headSpec w_X3_putFirst rm_X3_putFirst).room s m args below meth c H locs 0 0 (QV D G base rv h' below args s 0 0) (F0 m 33 ls []) := by
    intro h H locs ls hM hS hl hrun
    unfold f_X3_putFirst_j33 at hrun
    exact s_vret hx hb hr hlocks hM hS hrun (Nat.le_of_ble_eq_true rfl) (Nat.le_of_ble_eq_true rfl) dX3_putFirst_33
  refine s_entry hargs hM (c_r (c_i c_0)) (Nat.le_of_ble_eq_true rfl) (fun H locs ls hM hS hl => ?_)
  replace hl : lvh ls 2 [(0, vr x0), (1, vi x1)] := hl
  unfold f_X3_putFirst at hrun
  refine s_aload_n hx hb dX3_putFirst_0 rfl (la hl 0 rfl) ?_
  refine lv_iload_n hx hb dX3_putFirst_1 rfl (la hl 1 rfl) ?_
  obtain ⟨u2, g2, hrun⟩ := bd hrun
  obtain ⟨r1, g1, hrun⟩ := bd hrun
  refine s_callV (n := 1) (rest := []) [vi x1] hx hb hml hown hts hE hM hS (c_X3_wasTaken l D G base h r1.2 x0 x1 r1.1 i_x1 g1) kw_164 kw_160 kw_51 kw_162 kw_5 (by decide +kernel) ⟨Nat.le_of_ble_eq_true rfl, Nat.le_of_ble_eq_true rfl⟩ rfl rfl (by decide) g2 rfl hl.1.1 rfl (c8 c_0 (Nat.le_of_ble_eq_true rfl)) dX3_putFirst_2 ⟨Nat.le_of_ble_eq_true rfl, Nat.le_of_ble_eq_true rfl⟩ (fun H locs i_r1 hM hS => ?_)
  refine W.eq (g2 := F0 m 5 ls [vi r1.1]) rfl ?_
  refine s_if_eq (tgt := 33) hx hb dX3_putFirst_5 (by decide) i_r1 (fun cd => ?_) (fun cd => ?_)
  · replace hrun := it_pos cd hrun
    exact j33 r1.2 H locs ls hM hS (lsub hl [] rfl) hrun
  · replace hrun := it_neg cd hrun
    refine s_aload_n hx hb dX3_putFirst_8 rfl (la hl 0 rfl) ?_
    obtain ⟨v3, g3, hrun⟩ := bd hrun
    refine s_getfr hx hb hts kl_3 hown hE.1 hM (ci := 3) rfl (by decide) rfl (k := 9) (by decide) rfl (hts _ kw_469) g3 dX3_putFirst_9 ?_
    refine lv_iload_n hx hb dX3_putFirst_12 rfl (la hl 1 rfl) ?_
    refine s_aload_n hx hb dX3_putFirst_13 rfl (la hl 0 rfl) ?_
    obtain ⟨v4, g4, hrun⟩ := bd hrun
    refine s_getfi hx hb hts kl_3 hown hE.1 hM (ci := 3) rfl (by decide) rfl (k := 8) (by decide) rfl (hts _ kw_468) g4 dX3_putFirst_14 ?_
    have i_v4 : inr v4 := gtf_i hM g4 (by decide) rfl
    obtain ⟨h5, g5, hrun⟩ := bd hrun
    refine s_iast hx hb hE.1 hM hS i_x1 i_v4 g5 dX3_putFirst_17 (fun H locs hM hS => ?_)
    refine s_aload_n hx hb dX3_putFirst_18 rfl (la hl 0 rfl) ?_
    refine lv_iload_n hx hb dX3_putFirst_19 rfl (la hl 1 rfl) ?_
    obtain ⟨h6, g6, hrun⟩ := bd hrun
    refine s_put (b := false) hx hb hts kl_3 tyX3 tyX3_ok nmX3 hown hE.1 hM hS (ci := 3) rfl (by decide) rfl (k := 8) (by decide) rfl (hts _ kw_468) rfl (vp_nar_int _) rfl (fun _ => i_x1) g6 dX3_putFirst_20 (fun H locs hM hS => ?_)
    refine s_aload_n hx hb dX3_putFirst_23 rfl (la hl 0 rfl) ?_
    refine lv_dup hx hb dX3_putFirst_24 (vr_cat _) ?_
    obtain ⟨v7, g7, hrun⟩ := bd hrun
    refine s_getfi hx hb hts kl_3 hown hE.1 hM (ci := 3) rfl (by decide) rfl (k := 3) (by decide) rfl (hts _ kw_460) g7 dX3_putFirst_25 ?_
    have i_v7 : inr v7 := gtf_i hM g7 (by decide) rfl
    refine lv_iconst (v := Int32.ofInt 1) hx hb dX3_putFirst_28 rfl ?_
    refine s_isub hx hb dX3_putFirst_29 ?_
    obtain ⟨h8, g8, hrun⟩ := bd hrun
    refine s_put (b := false) hx hb hts kl_3 tyX3 tyX3_ok nmX3 hown hE.1 hM hS (ci := 3) rfl (by decide) rfl (k := 3) (by decide) rfl (hts _ kw_460) rfl (vp_nar_int _) rfl (fun _ => (inr_wr _)) g8 dX3_putFirst_30 (fun H locs hM hS => ?_)
    exact j33 h8 H locs ls hM hS (lsub hl [] rfl) hrun
def f_X3_init (h : Hp) (x0 x1 x2 x3 : Int) : Option (Int × Hp) :=
  Option.bind (ckd h 3 x0) fun u1 =>
  Option.bind (ptf h 3 4 x0 (-1)) fun h2 =>
  Option.bind (ptf h2 3 8 x0 (-1)) fun h3 =>
  Option.bind (ptf h3 3 0 x0 x1) fun h4 =>
  Option.bind (ptf h4 3 1 x0 x2) fun h5 =>
  Option.bind (ptf h5 3 2 x0 x3) fun h6 =>
  Option.bind (gtf h6 1 6 x1) fun v7 =>
  Option.bind (nwa h6 8 4 (imx 1 (imn 4 v7))) fun h8 =>
  Option.bind (ptf h8 3 9 x0 (hN h6 : Int)) fun h9 =>
  Option.bind (nwa h9 8 4 (imx 1 (imn 4 v7))) fun h10 =>
  Option.bind (ptf h10 3 10 x0 (hN h9 : Int)) fun h11 =>
  some (0, h11)
abbrev w_X3_init : List Cond := Cond.code yX3_init cX3_init 5 none :: BW
abbrev rm_X3_init : Room := { frames := 1, cells := 2, slots := 8, locals := 14 }
set_option maxHeartbeats 4000000 in
set_option maxRecDepth 100000 in
theorem c_X3_init (l : Launch) (D : va_G) (G : Nat → ClassId) (base : Nat) (h h' : Hp) (x0 x1 x2 x3 : Int) (rv : Int) (i_x2 : inr x2) (i_x3 : inr x3) (hrun : f_X3_init h x0 x1 x2 x3 = some (rv, h')) : Met l yX3_init w_X3_init rm_X3_init (PC l D G base h [vr x0, vr x1, vi x2, vi x3]) (QR D G base none True h') rm_X3_init.cells rm_X3_init.slots (Ab base) := by
  refine Met.ofW (cc := cX3_init) (maxL := 5) (ret := none) (by decide) rfl ?_
  intro p e s m args below meth c s₁ B hml hv
  obtain ⟨hargs, hE, hM⟩ := hv
  have hx := B.exec
  have hb := B.bytes
  have hr := B.returns
  have hts0 := atoms_spec (ws := w_X3_init) B.pre
  have hts : ∀ w ∈ BW, w.before args s = true := fun w hw => hts0 w (List.mem_cons_of_mem _ hw)
  have hown : s.vm.findClass RX3 = some m.cls := findClass_of_methodNamed B.named
  have hlocks := B.notSynchronized
  have hin : meth.name = "<init>" := (name_of_methodNamed B.named B.method).1
  refine s_entry hargs hM (c_r (c_r (c_i (c_i c_0)))) (Nat.le_of_ble_eq_true rfl) (fun H locs ls hM hS hl => ?_)
  replace hl : lvh ls 5 [(0, vr x0), (1, vr x1), (2, vi x2), (3, vi x3)] := hl
  unfold f_X3_init at hrun
  refine s_aload_n hx hb dX3_init_0 rfl (la hl 0 rfl) ?_
  obtain ⟨u1, g1, hrun⟩ := bd hrun
  refine s_objInit hx hb hml hown hts kw_449 kw_59 kw_60 g1 hl.1.1 dX3_init_1 (Nat.le_of_ble_eq_true rfl) (cN c_0 (Nat.le_of_ble_eq_true rfl)) ?_
  refine s_aload_n hx hb dX3_init_4 rfl (la hl 0 rfl) ?_
  refine lv_iconst (v := Int32.ofInt (-1)) hx hb dX3_init_5 rfl ?_
  obtain ⟨h2, g2, hrun⟩ := bd hrun
  refine s_put (b := false) hx hb hts kl_3 tyX3 tyX3_ok nmX3 hown hE.1 hM hS (ci := 3) rfl (by decide) rfl (k := 4) (by decide) rfl (hts _ kw_462) rfl (vp_nar_int _) rfl (fun _ => (by decide)) g2 dX3_init_6 (fun H locs hM hS => ?_)
  refine s_aload_n hx hb dX3_init_9 rfl (la hl 0 rfl) ?_
  refine lv_iconst (v := Int32.ofInt (-1)) hx hb dX3_init_10 rfl ?_
  obtain ⟨h3, g3, hrun⟩ := bd hrun
  refine s_put (b := false) hx hb hts kl_3 tyX3 tyX3_ok nmX3 hown hE.1 hM hS (ci := 3) rfl (by decide) rfl (k := 8) (by decide) rfl (hts _ kw_468) rfl (vp_nar_int _) rfl (fun _ => (by decide)) g3 dX3_init_11 (fun H locs hM hS => ?_)
  refine s_aload_n hx hb dX3_init_14 rfl (la hl 0 rfl) ?_
  refine s_aload_n hx hb dX3_init_15 rfl (la hl 1 rfl) ?_
  obtain ⟨h4, g4, hrun⟩ := bd hrun
  refine s_putF (b := true) hx hb hts kl_3 tyX3 tyX3_ok nmX3 hown hE.1 hM hS (ci := 3) rfl (by decide) rfl (k := 0) (by decide) rfl (hts _ kw_454) rfl hin rfl (nar_o _) (fit_o _) (fun q => by cases q) g4 dX3_init_16 (fun H locs hM hS => ?_)
  refine s_aload_n hx hb dX3_init_19 rfl (la hl 0 rfl) ?_
  refine lv_iload_n hx hb dX3_init_20 rfl (la hl 2 rfl) ?_
  obtain ⟨h5, g5, hrun⟩ := bd hrun
  refine s_putF (b := false) hx hb hts kl_3 tyX3 tyX3_ok nmX3 hown hE.1 hM hS (ci := 3) rfl (by decide) rfl (k := 1) (by decide) rfl (hts _ kw_456) rfl hin rfl (vp_nar_int _) rfl (fun _ => i_x2) g5 dX3_init_21 (fun H locs hM hS => ?_)
  refine s_aload_n hx hb dX3_init_24 rfl (la hl 0 rfl) ?_
  refine lv_iload_n hx hb dX3_init_25 rfl (la hl 3 rfl) ?_
  obtain ⟨h6, g6, hrun⟩ := bd hrun
  refine s_putF (b := false) hx hb hts kl_3 tyX3 tyX3_ok nmX3 hown hE.1 hM hS (ci := 3) rfl (by decide) rfl (k := 2) (by decide) rfl (hts _ kw_458) rfl hin rfl (vp_nar_int _) rfl (fun _ => i_x3) g6 dX3_init_26 (fun H locs hM hS => ?_)
  refine lv_iconst (v := Int32.ofInt 1) hx hb dX3_init_29 rfl ?_
  refine lv_iconst (v := Int32.ofInt 4) hx hb dX3_init_30 rfl ?_
  refine s_aload_n hx hb dX3_init_31 rfl (la hl 1 rfl) ?_
  obtain ⟨v7, g7, hrun⟩ := bd hrun
  refine s_getfi hx hb hts kl_1 hown hE.1 hM (ci := 1) rfl (by decide) rfl (k := 6) (by decide) rfl (hts _ kw_300) g7 dX3_init_32 ?_
  have i_v7 : inr v7 := gtf_i hM g7 (by decide) rfl
  refine s_min hx hb hml hl.1.1 hown hts kw_450 kw_117 kw_50 kw_118 (Nat.le_of_ble_eq_true rfl) (cN (c_i c_0) (Nat.le_of_ble_eq_true rfl)) (Nat.le_of_ble_eq_true rfl) (Nat.le_of_ble_eq_true rfl) (by decide) i_v7 dX3_init_35 ?_
  refine s_max hx hb hml hl.1.1 hown hts kw_451 kw_452 kw_50 kw_453 (Nat.le_of_ble_eq_true rfl) (cN c_0 (Nat.le_of_ble_eq_true rfl)) (Nat.le_of_ble_eq_true rfl) (Nat.le_of_ble_eq_true rfl) (by decide) (inr_mn (by decide) i_v7) dX3_init_38 ?_
  refine t_istore (lv' := [(4, vi (imx 1 (imn 4 v7))), (0, vr x0), (1, vr x1), (2, vi x2), (3, vi x3)]) hx hb dX3_init_41 hl (by decide) rfl (fun ls hl => ?_)
  refine s_aload_n hx hb dX3_init_43 rfl (la hl 1 rfl) ?_
  refine lv_iload hx hb dX3_init_44 (la hl 0 rfl) ?_
  obtain ⟨h8, g8, hrun⟩ := bd hrun
  refine s_newa hx hb (atype := .int) (kd := 8) (bound := 4) (hts _ kw_78) hE.1 (Or.inl ⟨rfl, rfl⟩) hM hS hE.2.1 (inr_mx (by decide) (inr_mn (by decide) i_v7)) g8 (by decide) (Nat.le_of_ble_eq_true rfl) (Nat.le_of_ble_eq_true rfl) dX3_init_46 (fun H hM hS => ?_)
  obtain ⟨h9, g9, hrun⟩ := bd hrun
  refine s_put (b := true) hx hb hts kl_3 tyX3 tyX3_ok nmX3 hown hE.1 hM hS (ci := 3) rfl (by decide) rfl (k := 9) (by decide) rfl (hts _ kw_469) rfl (nar_a _) (fit_a _) (fun q => by cases q) g9 dX3_init_48 (fun H locs hM hS => ?_)
  refine s_aload_n hx hb dX3_init_51 rfl (la hl 1 rfl) ?_
  refine lv_iload hx hb dX3_init_52 (la hl 0 rfl) ?_
  obtain ⟨h10, g10, hrun⟩ := bd hrun
  refine s_newa hx hb (atype := .int) (kd := 8) (bound := 4) (hts _ kw_78) hE.1 (Or.inl ⟨rfl, rfl⟩) hM hS hE.2.1 (inr_mx (by decide) (inr_mn (by decide) i_v7)) g10 (by decide) (Nat.le_of_ble_eq_true rfl) (Nat.le_of_ble_eq_true rfl) dX3_init_54 (fun H hM hS => ?_)
  obtain ⟨h11, g11, hrun⟩ := bd hrun
  refine s_put (b := true) hx hb hts kl_3 tyX3 tyX3_ok nmX3 hown hE.1 hM hS (ci := 3) rfl (by decide) rfl (k := 10) (by decide) rfl (hts _ kw_470) rfl (nar_a _) (fit_a _) (fun q => by cases q) g11 dX3_init_56 (fun H locs hM hS => ?_)
  exact s_vret hx hb hr hlocks hM hS hrun (Nat.le_of_ble_eq_true rfl) (Nat.le_of_ble_eq_true rfl) dX3_init_59
