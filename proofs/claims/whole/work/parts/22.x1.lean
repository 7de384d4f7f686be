def f_X5_roundedUp (h : Hp) (x0 x1 : Int) : Option (Int × Hp) :=
  some (ian (wr ((wr (x0 + x1)) - 1)) (wr (-x1)), h)
abbrev w_X5_roundedUp : List Cond := Cond.code yX5_roundedUp cX5_roundedUp 2 (some .int) :: BW
abbrev rm_X5_roundedUp : Room := { frames := 0, cells := 0, slots := 0, locals := 0 }
set_option maxHeartbeats 4000000 in
set_option maxRecDepth 100000 in
theorem c_X5_roundedUp (l : Launch) (D : va_G) (G : Nat → ClassId) (base : Nat) (h h' : Hp) (x0 x1 : Int) (rv : Int) (i_x0 : inr x0) (i_x1 : inr x1) (hrun : f_X5_roundedUp h x0 x1 = some (rv, h')) : Met l yX5_roundedUp w_X5_roundedUp rm_X5_roundedUp (PC l D G base h [vi x0, vi x1]) (QR D G base (some (vi rv)) (inr rv) h') rm_X5_roundedUp.cells rm_X5_roundedUp.slots (Ab base) := by
  refine Met.ofW (cc := cX5_roundedUp) (maxL := 2) (ret := (some .int)) (by decide) rfl ?_
  intro p e s m args below meth c s₁ B hml hv
  obtain ⟨hargs, hE, hM⟩ := hv
  have hx := B.exec
  have hb := B.bytes
  have hr := B.returns
  have hts0 := atoms_spec (ws := w_X5_roundedUp) B.pre
  have hts : ∀ w ∈ BW, w.before args s = true := fun w hw => hts0 w (List.mem_cons_of_mem _ hw)
  have hown : s.vm.findClass RX5 = some m.cls := findClass_of_methodNamed B.named
  have hlocks := B.notSynchronized
  refine s_entry hargs hM (c_i (c_i c_0)) (Nat.le_of_ble_eq_true rfl) (fun H locs ls hM hS hl => ?_)
  replace hl : lvh ls 2 [(0, vi x0), (1, vi x1)] := hl
  unfold f_X5_roundedUp at hrun
  refine lv_iload_n hx hb dX5_roundedUp_0 rfl (la hl 0 rfl) ?_
  refine lv_iload_n hx hb dX5_roundedUp_1 rfl (la hl 1 rfl) ?_
  refine s_iadd hx hb dX5_roundedUp_2 ?_
  refine lv_iconst (v := Int32.ofInt 1) hx hb dX5_roundedUp_3 rfl ?_
  refine s_isub hx hb dX5_roundedUp_4 ?_
  refine lv_iload_n hx hb dX5_roundedUp_5 rfl (la hl 1 rfl) ?_
  refine s_ineg hx hb dX5_roundedUp_6 ?_
  refine s_iand hx hb dX5_roundedUp_7 ?_
  exact s_iret hx hb hr hlocks hM hS (inr_an _ _) hrun (Nat.le_of_ble_eq_true rfl) (Nat.le_of_ble_eq_true rfl) dX5_roundedUp_8
def f_X1_init_j131 (h : Hp) (x0 s0 s1 : Int) : Option (Int × Hp) :=
  Option.bind (ptf h 1 7 s0 s1) fun h24 =>
  Option.bind (gtf h24 1 12 x0) fun v25 =>
  Option.bind (nwo h24 4) fun h26 =>
  Option.bind (ckd h26 4 (hN h24 : Int)) fun u28 =>
  Option.bind (f_X4_init h26 (hN h24 : Int)) fun r27 =>
  Option.bind (asr r27.2 14 v25 0 (hN h24 : Int)) fun h29 =>
  Option.bind (gtf h29 1 12 x0) fun v30 =>
  Option.bind (nwo h29 4) fun h31 =>
  Option.bind (ckd h31 4 (hN h29 : Int)) fun u33 =>
  Option.bind (f_X4_init h31 (hN h29 : Int)) fun r32 =>
  Option.bind (asr r32.2 14 v30 1 (hN h29 : Int)) fun h34 =>
  Option.bind (gtf h34 1 12 x0) fun v35 =>
  Option.bind (nwo h34 4) fun h36 =>
  Option.bind (ckd h36 4 (hN h34 : Int)) fun u38 =>
  Option.bind (f_X4_init h36 (hN h34 : Int)) fun r37 =>
  Option.bind (asr r37.2 14 v35 2 (hN h34 : Int)) fun h39 =>
  Option.bind (gtf h39 1 13 x0) fun v40 =>
  Option.bind (nwo h39 2) fun h41 =>
  Option.bind (ckd h41 2 (hN h39 : Int)) fun u43 =>
  Option.bind (f_X2_init h41 (hN h39 : Int)) fun r42 =>
  Option.bind (asr r42.2 12 v40 0 (hN h39 : Int)) fun h44 =>
  Option.bind (gtf h44 1 14 x0) fun v45 =>
  Option.bind (nwo h44 2) fun h46 =>
  Option.bind (ckd h46 2 (hN h44 : Int)) fun u48 =>
  Option.bind (f_X2_init h46 (hN h44 : Int)) fun r47 =>
  Option.bind (asr r47.2 12 v45 0 (hN h44 : Int)) fun h49 =>
  Option.bind (gtf h49 1 13 x0) fun v50 =>
  Option.bind (nwo h49 2) fun h51 =>
  Option.bind (ckd h51 2 (hN h49 : Int)) fun u53 =>
  Option.bind (f_X2_init h51 (hN h49 : Int)) fun r52 =>
  Option.bind (asr r52.2 12 v50 1 (hN h49 : Int)) fun h54 =>
  Option.bind (gtf h54 1 14 x0) fun v55 =>
  Option.bind (nwo h54 2) fun h56 =>
  Option.bind (ckd h56 2 (hN h54 : Int)) fun u58 =>
  Option.bind (f_X2_init h56 (hN h54 : Int)) fun r57 =>
  Option.bind (asr r57.2 12 v55 1 (hN h54 : Int)) fun h59 =>
  Option.bind (gtf h59 1 13 x0) fun v60 =>
  Option.bind (nwo h59 2) fun h61 =>
  Option.bind (ckd h61 2 (hN h59 : Int)) fun u63 =>
  Option.bind (f_X2_init h61 (hN h59 : Int)) fun r62 =>
  Option.bind (asr r62.2 12 v60 2 (hN h59 : Int)) fun h64 =>
  Option.bind (gtf h64 1 14 x0) fun v65 =>
  Option.bind (nwo h64 2) fun h66 =>
  Option.bind (ckd h66 2 (hN h64 : Int)) fun u68 =>
  Option.bind (f_X2_init h66 (hN h64 : Int)) fun r67 =>
  Option.bind (asr r67.2 12 v65 2 (hN h64 : Int)) fun h69 =>
  Option.bind (gtf h69 1 13 x0) fun v70 =>
  Option.bind (nwo h69 2) fun h71 =>
  Option.bind (ckd h71 2 (hN h69 : Int)) fun u73 =>
  Option.bind (f_X2_init h71 (hN h69 : Int)) fun r72 =>
  Option.bind (asr r72.2 12 v70 3 (hN h69 : Int)) fun h74 =>
  Option.bind (gtf h74 1 14 x0) fun v75 =>
  Option.bind (nwo h74 2) fun h76 =>
  Option.bind (ckd h76 2 (hN h74 : Int)) fun u78 =>
  Option.bind (f_X2_init h76 (hN h74 : Int)) fun r77 =>
  Option.bind (asr r77.2 12 v75 3 (hN h74 : Int)) fun h79 =>
  some (0, h79)
def f_X1_init_j99 (h : Hp) (x0 x3 x6 s0 s1 : Int) : Option (Int × Hp) :=
  Option.bind (ptf h 1 6 s0 s1) fun h20 =>
  Option.bind (gtf h20 1 6 x0) fun v21 =>
  Option.bind (gtf h20 1 5 x0) fun v22 =>
  if x3 ≤ 0 then (
    f_X1_init_j131 h20 x0 x0 1
  ) else (
    Option.bind (idv (wr (x6 - (wr (v21 * v22)))) x3) fun v23 =>
    f_X1_init_j131 h20 x0 x0 (wr (v23 + 1))
  )
def f_X1_init (h : Hp) (x0 x1 x2 x3 x4 x5 : Int) : Option (Int × Hp) :=
  Option.bind (ckd h 1 x0) fun u1 =>
  Option.bind (nwa h 14 3 3) fun h2 =>
  Option.bind (ptf h2 1 12 x0 (hN h : Int)) fun h3 =>
  Option.bind (nwa h3 12 4 4) fun h4 =>
  Option.bind (ptf h4 1 13 x0 (hN h3 : Int)) fun h5 =>
  Option.bind (nwa h5 12 4 4) fun h6 =>
  Option.bind (ptf h6 1 14 x0 (hN h5 : Int)) fun h7 =>
  Option.bind (nwa h7 12 3 3) fun h8 =>
  Option.bind (ptf h8 1 15 x0 (hN h7 : Int)) fun h9 =>
  Option.bind (ptf h9 1 0 x0 x1) fun h10 =>
  Option.bind (ptf h10 1 1 x0 x2) fun h11 =>
  Option.bind (ptf h11 1 2 x0 x3) fun h12 =>
  Option.bind (ptf h12 1 3 x0 x4) fun h13 =>
  Option.bind (ptf h13 1 4 x0 x5) fun h14 =>
  Option.bind (f_X5_roundedUp h14 x2 x3) fun r15 =>
  Option.bind (ptf r15.2 1 5 x0 r15.1) fun h16 =>
  Option.bind (gtf h16 1 5 x0) fun v17 =>
  if v17 ≤ 0 then (
    f_X1_init_j99 h16 x0 x3 (ish 1024 x4) x0 0
  ) else (
    Option.bind (gtf h16 1 5 x0) fun v18 =>
    Option.bind (idv (ish 1024 x4) v18) fun v19 =>
    f_X1_init_j99 h16 x0 x3 (ish 1024 x4) x0 v19
  )
abbrev w_X1_init : List Cond := Cond.code yX1_init cX1_init 9 none :: BW
abbrev rm_X1_init : Room := { frames := 2, cells := 23, slots := 65, locals := 32 }
set_option maxHeartbeats 4000000 in
set_option maxRecDepth 100000 in
theorem c_X1_init (l : Launch) (D : va_G) (G : Nat → ClassId) (base : Nat) (h h' : Hp) (x0 x1 x2 x3 x4 x5 : Int) (rv : Int) (i_x1 : inr x1) (i_x2 : inr x2) (i_x3 : inr x3) (i_x4 : inr x4) (i_x5 : inr x5) (hrun : f_X1_init h x0 x1 x2 x3 x4 x5 = some (rv, h')) : Met l yX1_init w_X1_init rm_X1_init (PC l D G base h [vr x0, vi x1, vi x2, vi x3, vi x4, vi x5]) (QR D G base none True h') rm_X1_init.cells rm_X1_init.slots (Ab base) := by
  refine Met.ofW (cc := cX1_init) (maxL := 9) (ret := none) (by decide) rfl ?_
  intro p e s m args below meth c s₁ B hml hv
  obtain ⟨hargs, hE, hM⟩ := hv
  have hx := B.exec
  have hb := B.bytes
  have hr := B.returns
  have hts0 := atoms_spec (ws := w_X1_init) B.pre
  have hts : ∀ w ∈ BW, w.before args s = true := fun w hw => hts0 w (List.mem_cons_of_mem _ hw)
  have hown : s.vm.findClass RX1 = some m.cls := findClass_of_methodNamed B.named
  have hlocks := B.notSynchronized
  have hin : meth.name = "<init>" := (name_of_methodNamed B.named B.method).1
  have j131 : ∀ (h : Hp) (x0 s0 s1 : Int) (H : Heap) (locs : List Loc) (ls : Array Slot), inr s1 → SM D G base h H → va_S (Ab base) s.heap H locs → lvh ls 9 [(0, vr x0)] → f_X1_init_j131 h x0 s0 s1 = some (rv, h') → W p l e (headSpec w_X1_init rm_X1_init).room s m args below meth c H locs 4 14 (QV D G base rv h' below args s 23 65) (F0 m 131 ls [vi s1, vr s0]) := by
    intro h x0 s0 s1 H locs ls i_s1 hM hS hl hrun
    unfold f_X1_init_j131 at hrun
    obtain ⟨h24, g24, hrun⟩ := bd hrun
    refine s_putF (b := false) hx hb hts kl_1 tyX1 tyX1_ok nmX1 hown hE.1 hM hS (ci := 1) rfl (by decide) rfl (k := 7) (by decide) rfl (hts _ kw_303) rfl hin rfl (vp_nar_int _) rfl (fun _ => i_s1) g24 dX1_init_131 (fun H locs hM hS => ?_)
    refine lv_iconst (v := Int32.ofInt 0) hx hb dX1_init_134 rfl ?_
    refine t_istore (lv' := [(8, vi 0), (0, vr x0)]) hx hb dX1_init_135 hl (by decide) rfl (fun ls hl => ?_)
    refine lv_iload hx hb dX1_init_137 (la hl 0 rfl) ?_
    refine lv_iconst (v := Int32.ofInt 3) hx hb dX1_init_139 rfl ?_
    refine s_icmp_ge (tgt := 163) hx hb dX1_init_140 (by decide) (by decide) (by decide) (fun c => absurd c (by decide)) (fun _ => ?_)
    refine s_aload_n hx hb dX1_init_143 rfl (la hl 1 rfl) ?_
    obtain ⟨v25, g25, hrun⟩ := bd hrun
    refine s_getfr hx hb hts kl_1 hown hE.1 hM (ci := 1) rfl (by decide) rfl (k := 12) (by decide) rfl (hts _ kw_309) g25 dX1_init_144 ?_
    refine lv_iload hx hb dX1_init_147 (la hl 0 rfl) ?_
    obtain ⟨h26, g26, hrun⟩ := bd hrun
    refine s_new hx hb hts kl_4 tyX4 tyX4_ok hown (hts _ kw_257) (hts _ kw_262) (hts _ kw_46) hE.1 hM hS hE.2.1 (ci := 4) rfl (by decide) rfl (by decide) g26 (Nat.le_of_ble_eq_true rfl) (Nat.le_of_ble_eq_true rfl) dX1_init_149 (fun H hM hS => ?_)
    refine lv_dup hx hb dX1_init_152 (vr_cat _) ?_
    obtain ⟨u28, g28, hrun⟩ := bd hrun
    obtain ⟨r27, g27, hrun⟩ := bd hrun
    refine s_callIN (n := 0) (rest := [vr (hN h24 : Int), vi 0, vr v25]) [] hx hb hml hown hts hE hM hS (c_X4_init l D G base h26 r27.2 (hN h24 : Int) r27.1 g27) kw_265 hE.2.2.1.2.1 kw_46 kw_264 rfl (by decide +kernel) ⟨Nat.le_of_ble_eq_true rfl, Nat.le_of_ble_eq_true rfl⟩ g28 rfl hl.1.1 rfl (c8 (c_r (c_i (c_r c_0))) (Nat.le_of_ble_eq_true rfl)) dX1_init_153 ⟨Nat.le_of_ble_eq_true rfl, Nat.le_of_ble_eq_true rfl⟩ (fun H locs i_r27 hM hS => ?_)
    refine W.eq (g2 := F0 m 156 ls [vr (hN h24 : Int), vi 0, vr v25]) rfl ?_
    obtain ⟨h29, g29, hrun⟩ := bd hrun
    refine s_aast hx hb hE.1 hM hS (kd := 14) (ci := 4) (by decide) (by decide) rfl rfl rfl (by decide) g29 dX1_init_156 (fun H locs hM hS => ?_)
    refine t_iinc (lv' := [(8, vi 1), (0, vr x0)]) hx hb dX1_init_157 hl (k := 0) rfl (by decide) (by decide) rfl (fun ls hl => ?_)
    refine lv_goto (tgt := 137) hx hb dX1_init_160 (by decide) ?_
    refine lv_iload hx hb dX1_init_137 (la hl 0 rfl) ?_
    refine lv_iconst (v := Int32.ofInt 3) hx hb dX1_init_139 rfl ?_
    refine s_icmp_ge (tgt := 163) hx hb dX1_init_140 (by decide) (by decide) (by decide) (fun c => absurd c (by decide)) (fun _ => ?_)
    refine s_aload_n hx hb dX1_init_143 rfl (la hl 1 rfl) ?_
    obtain ⟨v30, g30, hrun⟩ := bd hrun
    refine s_getfr hx hb hts kl_1 hown hE.1 hM (ci := 1) rfl (by decide) rfl (k := 12) (by decide) rfl (hts _ kw_309) g30 dX1_init_144 ?_
    refine lv_iload hx hb dX1_init_147 (la hl 0 rfl) ?_
    obtain ⟨h31, g31, hrun⟩ := bd hrun
    refine s_new hx hb hts kl_4 tyX4 tyX4_ok hown (hts _ kw_257) (hts _ kw_262) (hts _ kw_46) hE.1 hM hS hE.2.1 (ci := 4) rfl (by decide) rfl (by decide) g31 (Nat.le_of_ble_eq_true rfl) (Nat.le_of_ble_eq_true rfl) dX1_init_149 (fun H hM hS => ?_)
    refine lv_dup hx hb dX1_init_152 (vr_cat _) ?_
    obtain ⟨u33, g33, hrun⟩ := bd hrun
    obtain ⟨r32, g32, hrun⟩ := bd hrun
    refine s_callIN (n := 0) (rest := [vr (hN h29 : Int), vi 1, vr v30]) [] hx hb hml hown hts hE hM hS (c_X4_init l D G base h31 r32.2 (hN h29 : Int) r32.1 g32) kw_265 hE.2.2.1.2.1 kw_46 kw_264 rfl (by decide +kernel) ⟨Nat.le_of_ble_eq_true rfl, Nat.le_of_ble_eq_true rfl⟩ g33 rfl hl.1.1 rfl (c8 (c_r (c_i (c_r c_0))) (Nat.le_of_ble_eq_true rfl)) dX1_init_153 ⟨Nat.le_of_ble_eq_true rfl, Nat.le_of_ble_eq_true rfl⟩ (fun H locs i_r32 hM hS => ?_)
    refine W.eq (g2 := F0 m 156 ls [vr (hN h29 : Int), vi 1, vr v30]) rfl ?_
    obtain ⟨h34, g34, hrun⟩ := bd hrun
    refine s_aast hx hb hE.1 hM hS (kd := 14) (ci := 4) (by decide) (by decide) rfl rfl rfl (by decide) g34 dX1_init_156 (fun H locs hM hS => ?_)
    refine t_iinc (lv' := [(8, vi 2), (0, vr x0)]) hx hb dX1_init_157 hl (k := 0) rfl (by decide) (by decide) rfl (fun ls hl => ?_)
    refine lv_goto (tgt := 137) hx hb dX1_init_160 (by decide) ?_
    refine lv_iload hx hb dX1_init_137 (la hl 0 rfl) ?_
    refine lv_iconst (v := Int32.ofInt 3) hx hb dX1_init_139 rfl ?_
    refine s_icmp_ge (tgt := 163) hx hb dX1_init_140 (by decide) (by decide) (by decide) (fun c => absurd c (by decide)) (fun _ => ?_)
    refine s_aload_n hx hb dX1_init_143 rfl (la hl 1 rfl) ?_
    obtain ⟨v35, g35, hrun⟩ := bd hrun
    refine s_getfr hx hb hts kl_1 hown hE.1 hM (ci := 1) rfl (by decide) rfl (k := 12) (by decide) rfl (hts _ kw_309) g35 dX1_init_144 ?_
    refine lv_iload hx hb dX1_init_147 (la hl 0 rfl) ?_
    obtain ⟨h36, g36, hrun⟩ := bd hrun
    refine s_new hx hb hts kl_4 tyX4 tyX4_ok hown (hts _ kw_257) (hts _ kw_262) (hts _ kw_46) hE.1 hM hS hE.2.1 (ci := 4) rfl (by decide) rfl (by decide) g36 (Nat.le_of_ble_eq_true rfl) (Nat.le_of_ble_eq_true rfl) dX1_init_149 (fun H hM hS => ?_)
    refine lv_dup hx hb dX1_init_152 (vr_cat _) ?_
    obtain ⟨u38, g38, hrun⟩ := bd hrun
    obtain ⟨r37, g37, hrun⟩ := bd hrun
    refine s_callIN (n := 0) (rest := [vr (hN h34 : Int), vi 2, vr v35]) [] hx hb hml hown hts hE hM hS (c_X4_init l D G base h36 r37.2 (hN h34 : Int) r37.1 g37) kw_265 hE.2.2.1.2.1 kw_46 kw_264 rfl (by decide +kernel) ⟨Nat.le_of_ble_eq_true rfl, Nat.le_of_ble_eq_true rfl⟩ g38 rfl hl.1.1 rfl (c8 (c_r (c_i (c_r c_0))) (Nat.le_of_ble_eq_true rfl)) dX1_init_153 ⟨Nat.le_of_ble_eq_true rfl, Nat.le_of_ble_eq_true rfl⟩ (fun H locs i_r37 hM hS => ?_)
    refine W.eq (g2 := F0 m 156 ls [vr (hN h34 : Int), vi 2, vr v35]) rfl ?_
    obtain ⟨h39, g39, hrun⟩ := bd hrun
    refine s_aast hx hb hE.1 hM hS (kd := 14) (ci := 4) (by decide) (by decide) rfl rfl rfl (by decide) g39 dX1_init_156 (fun H locs hM hS => ?_)
    refine t_iinc (lv' := [(8, vi 3), (0, vr x0)]) hx hb dX1_init_157 hl (k := 0) rfl (by decide) (by decide) rfl (fun ls hl => ?_)
    refine lv_goto (tgt := 137) hx hb dX1_init_160 (by decide) ?_
    refine lv_iload hx hb dX1_init_137 (la hl 0 rfl) ?_
    refine lv_iconst (v := Int32.ofInt 3) hx hb dX1_init_139 rfl ?_
    refine s_icmp_ge (tgt := 163) hx hb dX1_init_140 (by decide) (by decide) (by decide) (fun _ => ?_) (fun c => absurd (by decide) c)
    refine lv_iconst (v := Int32.ofInt 0) hx hb dX1_init_163 rfl ?_
    refine t_istore (lv' := [(8, vi 0), (0, vr x0)]) hx hb dX1_init_164 hl (by decide) rfl (fun ls hl => ?_)
    refine lv_iload hx hb dX1_init_166 (la hl 0 rfl) ?_
    refine lv_iconst (v := Int32.ofInt 4) hx hb dX1_init_168 rfl ?_
    refine s_icmp_ge (tgt := 206) hx hb dX1_init_169 (by decide) (by decide) (by decide) (fun c => absurd c (by decide)) (fun _ => ?_)
    refine s_aload_n hx hb dX1_init_172 rfl (la hl 1 rfl) ?_
    obtain ⟨v40, g40, hrun⟩ := bd hrun
    refine s_getfr hx hb hts kl_1 hown hE.1 hM (ci := 1) rfl (by decide) rfl (k := 13) (by decide) rfl (hts _ kw_311) g40 dX1_init_173 ?_
    refine lv_iload hx hb dX1_init_176 (la hl 0 rfl) ?_
    obtain ⟨h41, g41, hrun⟩ := bd hrun
    refine s_new hx hb hts kl_2 tyX2 tyX2_ok hown (hts _ kw_259) (hts _ kw_272) (hts _ kw_47) hE.1 hM hS hE.2.1 (ci := 2) rfl (by decide) rfl (by decide) g41 (Nat.le_of_ble_eq_true rfl) (Nat.le_of_ble_eq_true rfl) dX1_init_178 (fun H hM hS => ?_)
    refine lv_dup hx hb dX1_init_181 (vr_cat _) ?_
    obtain ⟨u43, g43, hrun⟩ := bd hrun
    obtain ⟨r42, g42, hrun⟩ := bd hrun
    refine s_callIN (n := 0) (rest := [vr (hN h39 : Int), vi 0, vr v40]) [] hx hb hml hown hts hE hM hS (c_X2_init l D G base h41 r42.2 (hN h39 : Int) r42.1 g42) kw_275 hE.2.2.1.2.2 kw_47 kw_274 rfl (by decide +kernel) ⟨Nat.le_of_ble_eq_true rfl, Nat.le_of_ble_eq_true rfl⟩ g43 rfl hl.1.1 rfl (c8 (c_r (c_i (c_r c_0))) (Nat.le_of_ble_eq_true rfl)) dX1_init_182 ⟨Nat.le_of_ble_eq_true rfl, Nat.le_of_ble_eq_true rfl⟩ (fun H locs i_r42 hM hS => ?_)
    refine W.eq (g2 := F0 m 185 ls [vr (hN h39 : Int), vi 0, vr v40]) rfl ?_
    obtain ⟨h44, g44, hrun⟩ := bd hrun
    refine s_aast hx hb hE.1 hM hS (kd := 12) (ci := 2) (by decide) (by decide) rfl rfl rfl (by decide) g44 dX1_init_185 (fun H locs hM hS => ?_)
    refine s_aload_n hx hb dX1_init_186 rfl (la hl 1 rfl) ?_
    obtain ⟨v45, g45, hrun⟩ := bd hrun
    refine s_getfr hx hb hts kl_1 hown hE.1 hM (ci := 1) rfl (by decide) rfl (k := 14) (by decide) rfl (hts _ kw_313) g45 dX1_init_187 ?_
    refine lv_iload hx hb dX1_init_190 (la hl 0 rfl) ?_
    obtain ⟨h46, g46, hrun⟩ := bd hrun
    refine s_new hx hb hts kl_2 tyX2 tyX2_ok hown (hts _ kw_259) (hts _ kw_272) (hts _ kw_47) hE.1 hM hS hE.2.1 (ci := 2) rfl (by decide) rfl (by decide) g46 (Nat.le_of_ble_eq_true rfl) (Nat.le_of_ble_eq_true rfl) dX1_init_192 (fun H hM hS => ?_)
    refine lv_dup hx hb dX1_init_195 (vr_cat _) ?_
    obtain ⟨u48, g48, hrun⟩ := bd hrun
    obtain ⟨r47, g47, hrun⟩ := bd hrun
    refine s_callIN (n := 0) (rest := [vr (hN h44 : Int), vi 0, vr v45]) [] hx hb hml hown hts hE hM hS (c_X2_init l D G base h46 r47.2 (hN h44 : Int) r47.1 g47) kw_275 hE.2.2.1.2.2 kw_47 kw_274 rfl (by decide +kernel) ⟨Nat.le_of_ble_eq_true rfl, Nat.le_of_ble_eq_true rfl⟩ g48 rfl hl.1.1 rfl (c8 (c_r (c_i (c_r c_0))) (Nat.le_of_ble_eq_true rfl)) dX1_init_196 ⟨Nat.le_of_ble_eq_true rfl, Nat.le_of_ble_eq_true rfl⟩ (fun H locs i_r47 hM hS => ?_)
    refine W.eq (g2 := F0 m 199 ls [vr (hN h44 : Int), vi 0, vr v45]) rfl ?_
    obtain ⟨h49, g49, hrun⟩ := bd hrun
    refine s_aast hx hb hE.1 hM hS (kd := 12) (ci := 2) (by decide) (by decide) rfl rfl rfl (by decide) g49 dX1_init_199 (fun H locs hM hS => ?_)
    refine t_iinc (lv' := [(8, vi 1), (0, vr x0)]) hx hb dX1_init_200 hl (k := 0) rfl (by decide) (by decide) rfl (fun ls hl => ?_)
    refine lv_goto (tgt := 166) hx hb dX1_init_203 (by decide) ?_
    refine lv_iload hx hb dX1_init_166 (la hl 0 rfl) ?_
    refine lv_iconst (v := Int32.ofInt 4) hx hb dX1_init_168 rfl ?_
    refine s_icmp_ge (tgt := 206) hx hb dX1_init_169 (by decide) (by decide) (by decide) (fun c => absurd c (by decide)) (fun _ => ?_)
    refine s_aload_n hx hb dX1_init_172 rfl (la hl 1 rfl) ?_
    obtain ⟨v50, g50, hrun⟩ := bd hrun
    refine s_getfr hx hb hts kl_1 hown hE.1 hM (ci := 1) rfl (by decide) rfl (k := 13) (by decide) rfl (hts _ kw_311) g50 dX1_init_173 ?_
    refine lv_iload hx hb dX1_init_176 (la hl 0 rfl) ?_
    obtain ⟨h51, g51, hrun⟩ := bd hrun
    refine s_new hx hb hts kl_2 tyX2 tyX2_ok hown (hts _ kw_259) (hts _ kw_272) (hts _ kw_47) hE.1 hM hS hE.2.1 (ci := 2) rfl (by decide) rfl (by decide) g51 (Nat.le_of_ble_eq_true rfl) (Nat.le_of_ble_eq_true rfl) dX1_init_178 (fun H hM hS => ?_)
    refine lv_dup hx hb dX1_init_181 (vr_cat _) ?_
    obtain ⟨u53, g53, hrun⟩ := bd hrun
    obtain ⟨r52, g52, hrun⟩ := bd hrun
    refine s_callIN (n := 0) (rest := [vr (hN h49 : Int), vi 1, vr v50]) [] hx hb hml hown hts hE hM hS (c_X2_init l D G base h51 r52.2 (hN h49 : Int) r52.1 g52) kw_275 hE.2.2.1.2.2 kw_47 kw_274 rfl (by decide +kernel) ⟨Nat.le_of_ble_eq_true rfl, Nat.le_of_ble_eq_true rfl⟩ g53 rfl hl.1.1 rfl (c8 (c_r (c_i (c_r c_0))) (Nat.le_of_ble_eq_true rfl)) dX1_init_182 ⟨Nat.le_of_ble_eq_true rfl, Nat.le_of_ble_eq_true rfl⟩ (fun H locs i_r52 hM hS => ?_)
    refine W.eq (g2 := F0 m 185 ls [vr (hN h49 : Int), vi 1, vr v50]) rfl ?_
    obtain ⟨h54, g54, hrun⟩ := bd hrun
    refine s_aast hx hb hE.1 hM hS (kd := 12) (ci := 2) (by decide) (by decide) rfl rfl rfl (by decide) g54 dX1_init_185 (fun H locs hM hS => ?_)
    refine s_aload_n hx hb dX1_init_186 rfl (la hl 1 rfl) ?_
    obtain ⟨v55, g55, hrun⟩ := bd hrun
    refine s_getfr hx hb hts kl_1 hown hE.1 hM (ci := 1) rfl (by decide) rfl (k := 14) (by decide) rfl (hts _ kw_313) g55 dX1_init_187 ?_
    refine lv_iload hx hb dX1_init_190 (la hl 0 rfl) ?_
    obtain ⟨h56, g56, hrun⟩ := bd hrun
    refine s_new hx hb hts kl_2 tyX2 tyX2_ok hown (hts _ kw_259) (hts _ kw_272) (hts _ kw_47) hE.1 hM hS hE.2.1 (ci := 2) rfl (by decide) rfl (by decide) g56 (Nat.le_of_ble_eq_true rfl) (Nat.le_of_ble_eq_true rfl) dX1_init_192 (fun H hM hS => ?_)
    refine lv_dup hx hb dX1_init_195 (vr_cat _) ?_
    obtain ⟨u58, g58, hrun⟩ := bd hrun
    obtain ⟨r57, g57, hrun⟩ := bd hrun
    refine s_callIN (n := 0) (rest := [vr (hN h54 : Int), vi 1, vr v55]) [] hx hb hml hown hts hE hM hS (c_X2_init l D G base h56 r57.2 (hN h54 : Int) r57.1 g57) kw_275 hE.2.2.1.2.2 kw_47 kw_274 rfl (by decide +kernel) ⟨Nat.le_of_ble_eq_true rfl, Nat.le_of_ble_eq_true rfl⟩ g58 rfl hl.1.1 rfl (c8 (c_r (c_i (c_r c_0))) (Nat.le_of_ble_eq_true rfl)) dX1_init_196 ⟨Nat.le_of_ble_eq_true rfl, Nat.le_of_ble_eq_true rfl⟩ (fun H locs i_r57 hM hS => ?_)
    refine W.eq (g2 := F0 m 199 ls [vr (hN h54 : Int), vi 1, vr v55]) rfl ?_
    obtain ⟨h59, g59, hrun⟩ := bd hrun
    refine s_aast hx hb hE.1 hM hS (kd := 12) (ci := 2) (by decide) (by decide) rfl rfl rfl (by decide) g59 dX1_init_199 (fun H locs hM hS => ?_)
    refine t_iinc (lv' := [(8, vi 2), (0, vr x0)]) hx hb dX1_init_200 hl (k := 0) rfl (by decide) (by decide) rfl (fun ls hl => ?_)
    refine lv_goto (tgt := 166) hx hb dX1_init_203 (by decide) ?_
    refine lv_iload hx hb dX1_init_166 (la hl 0 rfl) ?_
    refine lv_iconst (v := Int32.ofInt 4) hx hb dX1_init_168 rfl ?_
    refine s_icmp_ge (tgt := 206) hx hb dX1_init_169 (by decide) (by decide) (by decide) (fun c => absurd c (by decide)) (fun _ => ?_)
    refine s_aload_n hx hb dX1_init_172 rfl (la hl 1 rfl) ?_
    obtain ⟨v60, g60, hrun⟩ := bd hrun
    refine s_getfr hx hb hts kl_1 hown hE.1 hM (ci := 1) rfl (by decide) rfl (k := 13) (by decide) rfl (hts _ kw_311) g60 dX1_init_173 ?_
    refine lv_iload hx hb dX1_init_176 (la hl 0 rfl) ?_
    obtain ⟨h61, g61, hrun⟩ := bd hrun
    refine s_new hx hb hts kl_2 tyX2 tyX2_ok hown (hts _ kw_259) (hts _ kw_272) (hts _ kw_47) hE.1 hM hS hE.2.1 (ci := 2) rfl (by decide) rfl (by decide) g61 (Nat.le_of_ble_eq_true rfl) (Nat.le_of_ble_eq_true rfl) dX1_init_178 (fun H hM hS => ?_)
    refine lv_dup hx hb dX1_init_181 (vr_cat _) ?_
    obtain ⟨u63, g63, hrun⟩ := bd hrun
    obtain ⟨r62, g62, hrun⟩ := bd hrun
    refine s_callIN (n := 0) (rest := [vr (hN h59 : Int), vi 2, vr v60]) [] hx hb hml hown hts hE hM hS (c_X2_init l D G base h61 r62.2 (hN h59 : Int) r62.1 g62) kw_275 hE.2.2.1.2.2 kw_47 kw_274 rfl (by decide +kernel) ⟨Nat.le_of_ble_eq_true rfl, Nat.le_of_ble_eq_true rfl⟩ g63 rfl hl.1.1 rfl (c8 (c_r (c_i (c_r c_0))) (Nat.le_of_ble_eq_true rfl)) dX1_init_182 ⟨Nat.le_of_ble_eq_true rfl, Nat.le_of_ble_eq_true rfl⟩ (fun H locs i_r62 hM hS => ?_)
    refine W.eq (g2 := F0 m 185 ls [vr (hN h59 : Int), vi 2, vr v60]) rfl ?_
    obtain ⟨h64, g64, hrun⟩ := bd hrun
    refine s_aast hx hb hE.1 hM hS (kd := 12) (ci := 2) (by decide) (by decide) rfl rfl rfl (by decide) g64 dX1_init_185 (fun H locs hM hS => ?_)
    refine s_aload_n hx hb dX1_init_186 rfl (la hl 1 rfl) ?_
    obtain ⟨v65, g65, hrun⟩ := bd hrun
    refine s_getfr hx hb hts kl_1 hown hE.1 hM (ci := 1) rfl (by decide) rfl (k := 14) (by decide) rfl (hts _ kw_313) g65 dX1_init_187 ?_
    refine lv_iload hx hb dX1_init_190 (la hl 0 rfl) ?_
    obtain ⟨h66, g66, hrun⟩ := bd hrun
    refine s_new hx hb hts kl_2 tyX2 tyX2_ok hown (hts _ kw_259) (hts _ kw_272) (hts _ kw_47) hE.1 hM hS hE.2.1 (ci := 2) rfl (by decide) rfl (by decide) g66 (Nat.le_of_ble_eq_true rfl) (Nat.le_of_ble_eq_true rfl) dX1_init_192 (fun H hM hS => ?_)
    refine lv_dup hx hb dX1_init_195 (vr_cat _) ?_
    obtain ⟨u68, g68, hrun⟩ := bd hrun
    obtain ⟨r67, g67, hrun⟩ := bd hrun
    refine s_callIN (n := 0) (rest := [vr (hN h64 : Int), vi 2, vr v65]) [] hx hb hml hown hts hE hM hS (c_X2_init l D G base h66 r67.2 (hN h64 : Int) r67.1 g67) kw_275 hE.2.2.1.2.2 kw_47 kw_274 rfl (by decide +kernel) ⟨Nat.le_of_ble_eq_true rfl, Nat.le_of_ble_eq_true rfl⟩ g68 rfl hl.1.1 rfl (c8 (c_r (c_i (c_r c_0))) (Nat.le_of_ble_eq_true rfl)) dX1_init_196 ⟨Nat.le_of_ble_eq_true rfl, Nat.le_of_ble_eq_true rfl⟩ (fun H locs i_r67 hM hS => ?_)
    refine W.eq (g2 := F0 m 199 ls [vr (hN h64 : Int), vi 2, vr v65]) rfl ?_
    obtain ⟨h69, g69, hrun⟩ := bd hrun
    refine s_aast hx hb hE.1 hM hS (kd := 12) (ci := 2) (by decide) (by decide) rfl rfl rfl (by decide) g69 dX1_init_199 (fun H locs hM hS => ?_)
    refine t_iinc (lv' := [(8, vi 3), (0, vr x0)]) hx hb dX1_init_200 hl (k := 0) rfl (by decide) (by decide) rfl (fun ls hl => ?_)
    refine lv_goto (tgt := 166) hx hb dX1_init_203 (by decide) ?_
    refine lv_iload hx hb dX1_init_166 (la hl 0 rfl) ?_
    refine lv_iconst (v := Int32.ofInt 4) hx hb dX1_init_168 rfl ?_
    refine s_icmp_ge (tgt := 206) hx hb dX1_init_169 (by decide) (by decide) (by decide) (fun c => absurd c (by decide)) (fun _ => ?_)
    refine s_aload_n hx hb dX1_init_172 rfl (la hl 1 rfl) ?_
    obtain ⟨v70, g70, hrun⟩ := bd hrun
    refine s_getfr hx hb hts kl_1 hown hE.1 hM (ci := 1) rfl (by decide) rfl (k := 13) (by decide) rfl (hts _ kw_311) g70 dX1_init_173 ?_
    refine lv_iload hx hb dX1_init_176 (la hl 0 rfl) ?_
    obtain ⟨h71, g71, hrun⟩ := bd hrun
    refine s_new hx hb hts kl_2 tyX2 tyX2_ok hown (hts _ kw_259) (hts _ kw_272) (hts _ kw_47) hE.1 hM hS hE.2.1 (ci := 2) rfl (by decide) rfl (by decide) g71 (Nat.le_of_ble_eq_true rfl) (Nat.le_of_ble_eq_true rfl) dX1_init_178 (fun H hM hS => ?_)
    refine lv_dup hx hb dX1_init_181 (vr_cat _) ?_
    obtain ⟨u73, g73, hrun⟩ := bd hrun
    obtain ⟨r72, g72, hrun⟩ := bd hrun
    refine s_callIN (n := 0) (rest := [vr (hN h69 : Int), vi 3, vr v70]) [] hx hb hml hown hts hE hM hS (c_X2_init l D G base h71 r72.2 (hN h69 : Int) r72.1 g72) kw_275 hE.2.2.1.2.2 kw_47 kw_274 rfl (by decide +kernel) ⟨Nat.le_of_ble_eq_true rfl, Nat.le_of_ble_eq_true rfl⟩ g73 rfl hl.1.1 rfl (c8 (c_r (c_i (c_r c_0))) (Nat.le_of_ble_eq_true rfl)) dX1_init_182 ⟨Nat.le_of_ble_eq_true rfl, Nat.le_of_ble_eq_true rfl⟩ (fun H locs i_r72 hM hS => ?_)
    refine W.eq (g2 := F0 m 185 ls [vr (hN h69 : Int), vi 3, vr v70]) rfl ?_
    obtain ⟨h74, g74, hrun⟩ := bd hrun
    refine s_aast hx hb hE.1 hM hS (kd := 12) (ci := 2) (by decide) (by decide) rfl rfl rfl (by decide) g74 dX1_init_185 (fun H locs hM hS => ?_)
    refine s_aload_n hx hb dX1_init_186 rfl (la hl 1 rfl) ?_
    obtain ⟨v75, g75, hrun⟩ := bd hrun
    refine s_getfr hx hb hts kl_1 hown hE.1 hM (ci := 1) rfl (by decide) rfl (k := 14) (by decide) rfl (hts _ kw_313) g75 dX1_init_187 ?_
    refine lv_iload hx hb dX1_init_190 (la hl 0 rfl) ?_
    obtain ⟨h76, g76, hrun⟩ := bd hrun
    refine s_new hx hb hts kl_2 tyX2 tyX2_ok hown (hts _ kw_259) (hts _ kw_272) (hts _ kw_47) hE.1 hM hS hE.2.1 (ci := 2) rfl (by decide) rfl (by decide) g76 (Nat.le_of_ble_eq_true rfl) (Nat.le_of_ble_eq_true rfl) dX1_init_192 (fun H hM hS => ?_)
    refine lv_dup hx hb dX1_init_195 (vr_cat _) ?_
    obtain ⟨u78, g78, hrun⟩ := bd hrun
    obtain ⟨r77, g77, hrun⟩ := bd hrun
    refine s_callIN (n := 0) (rest := [vr (hN h74 : Int), vi 3, vr v75]) [] hx hb hml hown hts hE hM hS (c_X2_init l D G base h76 r77.2 (hN h74 : Int) r77.1 g77) kw_275 hE.2.2.1.2.2 kw_47 kw_274 rfl (by decide +kernel) ⟨Nat.le_of_ble_eq_true rfl, Nat.le_of_ble_eq_true rfl⟩ g78 rfl hl.1.1 rfl (c8 (c_r (c_i (c_r c_0))) (Nat.le_of_ble_eq_true rfl)) dX1_init_196 ⟨Nat.le_of_ble_eq_true rfl, Nat.le_of_ble_eq_true rfl⟩ (fun H locs i_r77 hM hS => ?_)
    refine W.eq (g2 := F0 m 199 ls [vr (hN h74 : Int), vi 3, vr v75]) rfl ?_
    obtain ⟨h79, g79, hrun⟩ := bd hrun
    refine s_aast hx hb hE.1 hM hS (kd := 12) (ci := 2) (by decide) (by decide) rfl rfl rfl (by decide) g79 dX1_init_199 (fun H locs hM hS => ?_)
    refine t_iinc (lv' := [(8, vi 4), (0, vr x0)]) hx hb dX1_init_200 hl (k := 0) rfl (by decide) (by decide) rfl (fun ls hl => ?_)
    refine lv_goto (tgt := 166) hx hb dX1_init_203 (by decide) ?_
    refine lv_iload hx hb dX1_init_166 (la hl 0 rfl) ?_
    refine lv_iconst (v := Int32.ofInt 4) hx hb dX1_init_168 rfl ?_
    refine s_icmp_ge (tgt := 206) hx hb dX1_init_169 (by decide) (by decide) (by decide) (fun _ => ?_) (fun c => absurd (by decide) c)
    exact s_vret hx hb hr hlocks hM hS hrun (Nat.le_of_ble_eq_true rfl) (Nat.le_of_ble_eq_true rfl) dX1_init_206
  have j99 : ∀ (h : Hp) (x0 x3 x6 s0 s1 : Int) (H : Heap) (locs : List Loc) (ls : Array Slot), inr x3 → inr x6 → inr s1 → SM D G base h H → va_S (Ab base) s.heap H locs → lvh ls 9 [(0, vr x0), (3, vi x3), (6, vi x6)] → f_X1_init_j99 h x0 x3 x6 s0 s1 = some (rv, h') → W p l e (headSpec w_X1_init rm_X1_init).room s m args below meth c H locs 4 14 (QV D G base rv h' below args s 23 65) (F0 m 99 ls [vi s1, vr s0]) := by
    intro h x0 x3 x6 s0 s1 H locs ls i_x3 i_x6 i_s1 hM hS hl hrun
    unfold f_X1_init_j99 at hrun
    obtain ⟨h20, g20, hrun⟩ := bd hrun
    refine s_putF (b := false) hx hb hts kl_1 tyX1 tyX1_ok nmX1 hown hE.1 hM hS (ci := 1) rfl (by decide) rfl (k := 6) (by decide) rfl (hts _ kw_301) rfl hin rfl (vp_nar_int _) rfl (fun _ => i_s1) g20 dX1_init_99 (fun H locs hM hS => ?_)
    refine lv_iload hx hb dX1_init_102 (la hl 2 rfl) ?_
    refine s_aload_n hx hb dX1_init_104 rfl (la hl 0 rfl) ?_
    obtain ⟨v21, g21, hrun⟩ := bd hrun
    refine s_getfi hx hb hts kl_1 hown hE.1 hM (ci := 1) rfl (by decide) rfl (k := 6) (by decide) rfl (hts _ kw_301) g21 dX1_init_105 ?_
    have i_v21 : inr v21 := gtf_i hM g21 (by decide) rfl
    refine s_aload_n hx hb dX1_init_108 rfl (la hl 0 rfl) ?_
    obtain ⟨v22, g22, hrun⟩ := bd hrun
    refine s_getfi hx hb hts kl_1 hown hE.1 hM (ci := 1) rfl (by decide) rfl (k := 5) (by decide) rfl (hts _ kw_297) g22 dX1_init_109 ?_
    have i_v22 : inr v22 := gtf_i hM g22 (by decide) rfl
    refine s_imul hx hb dX1_init_112 ?_
    refine s_isub hx hb dX1_init_113 ?_
    refine t_istore (lv' := [(7, vi (wr (x6 - (wr (v21 * v22))))), (0, vr x0), (3, vi x3), (6, vi x6)]) hx hb dX1_init_114 hl (by decide) rfl (fun ls hl => ?_)
    refine s_aload_n hx hb dX1_init_116 rfl (la hl 1 rfl) ?_
    refine lv_iload_n hx hb dX1_init_117 rfl (la hl 2 rfl) ?_
    refine s_if_le (tgt := 130) hx hb dX1_init_118 (by decide) i_x3 (fun cd => ?_) (fun cd => ?_)
    · replace hrun := it_pos cd hrun
      refine lv_iconst (v := Int32.ofInt 1) hx hb dX1_init_130 rfl ?_
      exact j131 h20 x0 x0 1 H locs ls (by decide) hM hS (lsub hl [1] rfl) hrun
    · replace hrun := it_neg cd hrun
      refine lv_iload hx hb dX1_init_121 (la hl 0 rfl) ?_
      refine lv_iload_n hx hb dX1_init_123 rfl (la hl 2 rfl) ?_
      obtain ⟨v23, g23, hrun⟩ := bd hrun
      refine s_idiv hx hb (inr_wr _) i_x3 g23 dX1_init_124 ?_
      have i_v23 : inr v23 := inr_dv g23
      refine lv_iconst (v := Int32.ofInt 1) hx hb dX1_init_125 rfl ?_
      refine s_iadd hx hb dX1_init_126 ?_
      refine lv_goto (tgt := 131) hx hb dX1_init_127 (by decide) ?_
      exact j131 h20 x0 x0 (wr (v23 + 1)) H locs ls (inr_wr _) hM hS (lsub hl [1] rfl) hrun
  refine s_entry hargs hM (c_r (c_i (c_i (c_i (c_i (c_i c_0)))))) (Nat.le_of_ble_eq_true rfl) (fun H locs ls hM hS hl => ?_)
  replace hl : lvh ls 9 [(0, vr x0), (1, vi x1), (2, vi x2), (3, vi x3), (4, vi x4), (5, vi x5)] := hl
  unfold f_X1_init at hrun
  refine s_aload_n hx hb dX1_init_0 rfl (la hl 0 rfl) ?_
  obtain ⟨u1, g1, hrun⟩ := bd hrun
  refine s_objInit hx hb hml hown hts kw_256 kw_59 kw_60 g1 hl.1.1 dX1_init_1 (Nat.le_of_ble_eq_true rfl) (cN c_0 (Nat.le_of_ble_eq_true rfl)) ?_
  refine s_aload_n hx hb dX1_init_4 rfl (la hl 0 rfl) ?_
  refine lv_iconst (v := Int32.ofInt 3) hx hb dX1_init_5 rfl ?_
  obtain ⟨h2, g2, hrun⟩ := bd hrun
  refine s_newq hx hb (kd := 14) (bound := 3) hown (hts _ kw_257) hE.2.2.2.1.2.2.1 hE.1 (by decide) (by decide) rfl hM hS hE.2.1 (by decide) g2 (by decide) (Nat.le_of_ble_eq_true rfl) (Nat.le_of_ble_eq_true rfl) dX1_init_6 (fun H hM hS => ?_)
  obtain ⟨h3, g3, hrun⟩ := bd hrun
  refine s_putF (b := true) hx hb hts kl_1 tyX1 tyX1_ok nmX1 hown hE.1 hM hS (ci := 1) rfl (by decide) rfl (k := 12) (by decide) rfl (hts _ kw_309) rfl hin rfl (nar_a _) (fit_a _) (fun q => by cases q) g3 dX1_init_9 (fun H locs hM hS => ?_)
  refine s_aload_n hx hb dX1_init_12 rfl (la hl 0 rfl) ?_
  refine lv_iconst (v := Int32.ofInt 4) hx hb dX1_init_13 rfl ?_
  obtain ⟨h4, g4, hrun⟩ := bd hrun
  refine s_newq hx hb (kd := 12) (bound := 4) hown (hts _ kw_259) hE.2.2.2.1.2.2.2 hE.1 (by decide) (by decide) rfl hM hS hE.2.1 (by decide) g4 (by decide) (Nat.le_of_ble_eq_true rfl) (Nat.le_of_ble_eq_true rfl) dX1_init_14 (fun H hM hS => ?_)
  obtain ⟨h5, g5, hrun⟩ := bd hrun
  refine s_putF (b := true) hx hb hts kl_1 tyX1 tyX1_ok nmX1 hown hE.1 hM hS (ci := 1) rfl (by decide) rfl (k := 13) (by decide) rfl (hts _ kw_311) rfl hin rfl (nar_a _) (fit_a _) (fun q => by cases q) g5 dX1_init_17 (fun H locs hM hS => ?_)
  refine s_aload_n hx hb dX1_init_20 rfl (la hl 0 rfl) ?_
  refine lv_iconst (v := Int32.ofInt 4) hx hb dX1_init_21 rfl ?_
  obtain ⟨h6, g6, hrun⟩ := bd hrun
  refine s_newq hx hb (kd := 12) (bound := 4) hown (hts _ kw_259) hE.2.2.2.1.2.2.2 hE.1 (by decide) (by decide) rfl hM hS hE.2.1 (by decide) g6 (by decide) (Nat.le_of_ble_eq_true rfl) (Nat.le_of_ble_eq_true rfl) dX1_init_22 (fun H hM hS => ?_)
  obtain ⟨h7, g7, hrun⟩ := bd hrun
  refine s_putF (b := true) hx hb hts kl_1 tyX1 tyX1_ok nmX1 hown hE.1 hM hS (ci := 1) rfl (by decide) rfl (k := 14) (by decide) rfl (hts _ kw_313) rfl hin rfl (nar_a _) (fit_a _) (fun q => by cases q) g7 dX1_init_25 (fun H locs hM hS => ?_)
  refine s_aload_n hx hb dX1_init_28 rfl (la hl 0 rfl) ?_
  refine lv_iconst (v := Int32.ofInt 3) hx hb dX1_init_29 rfl ?_
  obtain ⟨h8, g8, hrun⟩ := bd hrun
  refine s_newq hx hb (kd := 12) (bound := 3) hown (hts _ kw_259) hE.2.2.2.1.2.2.2 hE.1 (by decide) (by decide) rfl hM hS hE.2.1 (by decide) g8 (by decide) (Nat.le_of_ble_eq_true rfl) (Nat.le_of_ble_eq_true rfl) dX1_init_30 (fun H hM hS => ?_)
  obtain ⟨h9, g9, hrun⟩ := bd hrun
  refine s_putF (b := true) hx hb hts kl_1 tyX1 tyX1_ok nmX1 hown hE.1 hM hS (ci := 1) rfl (by decide) rfl (k := 15) (by decide) rfl (hts _ kw_315) rfl hin rfl (nar_a _) (fit_a _) (fun q => by cases q) g9 dX1_init_33 (fun H locs hM hS => ?_)
  refine s_aload_n hx hb dX1_init_36 rfl (la hl 0 rfl) ?_
  refine lv_iload_n hx hb dX1_init_37 rfl (la hl 1 rfl) ?_
  obtain ⟨h10, g10, hrun⟩ := bd hrun
  refine s_putF (b := false) hx hb hts kl_1 tyX1 tyX1_ok nmX1 hown hE.1 hM hS (ci := 1) rfl (by decide) rfl (k := 0) (by decide) rfl (hts _ kw_286) rfl hin rfl (vp_nar_int _) rfl (fun _ => i_x1) g10 dX1_init_38 (fun H locs hM hS => ?_)
  refine s_aload_n hx hb dX1_init_41 rfl (la hl 0 rfl) ?_
  refine lv_iload_n hx hb dX1_init_42 rfl (la hl 2 rfl) ?_
  obtain ⟨h11, g11, hrun⟩ := bd hrun
  refine s_putF (b := false) hx hb hts kl_1 tyX1 tyX1_ok nmX1 hown hE.1 hM hS (ci := 1) rfl (by decide) rfl (k := 1) (by decide) rfl (hts _ kw_288) rfl hin rfl (vp_nar_int _) rfl (fun _ => i_x2) g11 dX1_init_43 (fun H locs hM hS => ?_)
  refine s_aload_n hx hb dX1_init_46 rfl (la hl 0 rfl) ?_
  refine lv_iload_n hx hb dX1_init_47 rfl (la hl 3 rfl) ?_
  obtain ⟨h12, g12, hrun⟩ := bd hrun
  refine s_putF (b := false) hx hb hts kl_1 tyX1 tyX1_ok nmX1 hown hE.1 hM hS (ci := 1) rfl (by decide) rfl (k := 2) (by decide) rfl (hts _ kw_290) rfl hin rfl (vp_nar_int _) rfl (fun _ => i_x3) g12 dX1_init_48 (fun H locs hM hS => ?_)
  refine s_aload_n hx hb dX1_init_51 rfl (la hl 0 rfl) ?_
  refine lv_iload hx hb dX1_init_52 (la hl 4 rfl) ?_
  obtain ⟨h13, g13, hrun⟩ := bd hrun
  refine s_putF (b := false) hx hb hts kl_1 tyX1 tyX1_ok nmX1 hown hE.1 hM hS (ci := 1) rfl (by decide) rfl (k := 3) (by decide) rfl (hts _ kw_292) rfl hin rfl (vp_nar_int _) rfl (fun _ => i_x4) g13 dX1_init_54 (fun H locs hM hS => ?_)
  refine s_aload_n hx hb dX1_init_57 rfl (la hl 0 rfl) ?_
  refine lv_iload hx hb dX1_init_58 (la hl 5 rfl) ?_
  obtain ⟨h14, g14, hrun⟩ := bd hrun
  refine s_putF (b := false) hx hb hts kl_1 tyX1 tyX1_ok nmX1 hown hE.1 hM hS (ci := 1) rfl (by decide) rfl (k := 4) (by decide) rfl (hts _ kw_294) rfl hin rfl (vp_nar_int _) rfl (fun _ => i_x5) g14 dX1_init_60 (fun H locs hM hS => ?_)
  refine s_aload_n hx hb dX1_init_63 rfl (la hl 0 rfl) ?_
  refine lv_iload_n hx hb dX1_init_64 rfl (la hl 2 rfl) ?_
  refine lv_iload_n hx hb dX1_init_65 rfl (la hl 3 rfl) ?_
  obtain ⟨r15, g15, hrun⟩ := bd hrun
  refine s_callSN (n := 2) (rest := [vr x0]) [vi x2, vi x3] hx hb hml hown hts hE hM hS (c_X5_roundedUp l D G base h14 r15.2 x2 x3 r15.1 i_x2 i_x3 g15) kw_250 hE.2.2.1.1 kw_37 kw_249 (by decide +kernel) ⟨Nat.le_of_ble_eq_true rfl, Nat.le_of_ble_eq_true rfl⟩ rfl hl.1.1 rfl (c8 (c_r c_0) (Nat.le_of_ble_eq_true rfl)) dX1_init_66 ⟨Nat.le_of_ble_eq_true rfl, Nat.le_of_ble_eq_true rfl⟩ (fun H locs i_r15 hM hS => ?_)
  refine W.eq (g2 := F0 m 69 ls [vi r15.1, vr x0]) rfl ?_
  obtain ⟨h16, g16, hrun⟩ := bd hrun
  refine s_putF (b := false) hx hb hts kl_1 tyX1 tyX1_ok nmX1 hown hE.1 hM hS (ci := 1) rfl (by decide) rfl (k := 5) (by decide) rfl (hts _ kw_297) rfl hin rfl (vp_nar_int _) rfl (fun _ => i_r15) g16 dX1_init_69 (fun H locs hM hS => ?_)
  refine lv_sipush (v := Int32.ofInt 1024) hx hb dX1_init_72 (by decide) ?_
  refine lv_iload hx hb dX1_init_75 (la hl 4 rfl) ?_
  refine s_ishl hx hb dX1_init_77 ?_
  refine t_istore (lv' := [(6, vi (ish 1024 x4)), (0, vr x0), (1, vi x1), (2, vi x2), (3, vi x3), (4, vi x4), (5, vi x5)]) hx hb dX1_init_78 hl (by decide) rfl (fun ls hl => ?_)
  refine s_aload_n hx hb dX1_init_80 rfl (la hl 1 rfl) ?_
  refine s_aload_n hx hb dX1_init_81 rfl (la hl 1 rfl) ?_
  obtain ⟨v17, g17, hrun⟩ := bd hrun
  refine s_getfi hx hb hts kl_1 hown hE.1 hM (ci := 1) rfl (by decide) rfl (k := 5) (by decide) rfl (hts _ kw_297) g17 dX1_init_82 ?_
  have i_v17 : inr v17 := gtf_i hM g17 (by decide) rfl
  refine s_if_le (tgt := 98) hx hb dX1_init_85 (by decide) i_v17 (fun cd => ?_) (fun cd => ?_)
  · replace hrun := it_pos cd hrun
    refine lv_iconst (v := Int32.ofInt 0) hx hb dX1_init_98 rfl ?_
    exact j99 h16 x0 x3 (ish 1024 x4) x0 0 H locs ls i_x3 (inr_sh _ _) (by decide) hM hS (lsub hl [1, 4, 0] rfl) hrun
  · replace hrun := it_neg cd hrun
    refine lv_iload hx hb dX1_init_88 (la hl 0 rfl) ?_
    refine s_aload_n hx hb dX1_init_90 rfl (la hl 1 rfl) ?_
    obtain ⟨v18, g18, hrun⟩ := bd hrun
    refine s_getfi hx hb hts kl_1 hown hE.1 hM (ci := 1) rfl (by decide) rfl (k := 5) (by decide) rfl (hts _ kw_297) g18 dX1_init_91 ?_
    have i_v18 : inr v18 := gtf_i hM g18 (by decide) rfl
    obtain ⟨v19, g19, hrun⟩ := bd hrun
    refine s_idiv hx hb (inr_sh _ _) i_v18 g19 dX1_init_94 ?_
    have i_v19 : inr v19 := inr_dv g19
    refine lv_goto (tgt := 99) hx hb dX1_init_95 (by decide) ?_
    exact j99 h16 x0 x3 (ish 1024 x4) x0 v19 H locs ls i_x3 (inr_sh _ _) i_v19 hM hS (lsub hl [1, 4, 0] rfl) hrun
def f_X1_unlist_j26 (h : Hp) : Option (Int × Hp) :=
  some (0, h)
def f_X1_unlist (h : Hp) (x0 x1 : Int) : Option (Int × Hp) :=
  Option.bind (gtf h 3 4 x1) fun v1 =>
  if v1 = (-1) then (
    f_X1_unlist_j26 h
  ) else (
    Option.bind (gtf h 1 12 x0) fun v2 =>
    Option.bind (gtf h 3 4 x1) fun v3 =>
    Option.bind (ald h 14 v2 v3) fun v4 =>
    Option.bind (ckd h 4 v4) fun u6 =>
    Option.bind (f_X4_remove h v4 x1) fun r5 =>
    Option.bind (ptf r5.2 3 4 x1 (-1)) fun h7 =>
    f_X1_unlist_j26 h7
  )
abbrev w_X1_unlist : List Cond := Cond.code yX1_unlist cX1_unlist 2 none :: BW
abbrev rm_X1_unlist : Room := { frames := 1, cells := 0, slots := 0, locals := 21 }
set_option maxHeartbeats 4000000 in
set_option maxRecDepth 100000 in
theorem c_X1_unlist (l : Launch) (D : va_G) (G : Nat → ClassId) (base : Nat) (h h' : Hp) (x0 x1 : Int) (rv : Int) (hrun : f_X1_unlist h x0 x1 = some (rv, h')) : Met l yX1_unlist w_X1_unlist rm_X1_unlist (PC l D G base h [vr x0, vr x1]) (QR D G base none True h') rm_X1_unlist.cells rm_X1_unlist.slots (Ab base) := by
  refine Met.ofW (cc := cX1_unlist) (maxL := 2) (ret := none) (by decide) rfl ?_
  intro p e s m args below meth c s₁ B hml hv
  obtain ⟨hargs, hE, hM⟩ := hv
  have hx := B.exec
  have hb := B.bytes
  have hr := B.returns
  have hts0 := atoms_spec (ws := w_X1_unlist) B.pre
  have hts : ∀ w ∈ BW, w.before args s = true := fun w hw => hts0 w (List.mem_cons_of_mem _ hw)
  have hown : s.vm.findClass RX1 = some m.cls := findClass_of_methodNamed B.named
  have hlocks := B.notSynchronized
  have j26 : ∀ (h : Hp) (H : Heap) (locs : List Loc) (ls : Array Slot), SM D G base h H → va_S (Ab base) s.heap H locs → lvh ls 2 [] → f_X1_unlist_j26 h = some (rv, h') → W p l e (headSpec w_X1_unlist rm_X1_unlist).room s m args below meth c H locs 0 0 (QV D G base rv h' below args s 0 0) (F0 m 26 ls []) := by
    intro h H locs ls hM hS hl hrun
    unfold f_X1_unlist_j26 at hrun
    exact s_vret hx hb hr hlocks hM hS hrun (Nat.le_of_ble_eq_true rfl) (Nat.le_of_ble_eq_true rfl) dX1_unlist_26
  refine s_entry hargs hM (c_r (c_r c_0)) (Nat.le_of_ble_eq_true rfl) (fun H locs ls hM hS hl => ?_)
  replace hl : lvh ls 2 [(0, vr x0), (1, vr x1)] := hl
  unfold f_X1_unlist at hrun
  refine s_aload_n hx hb dX1_unlist_0 rfl (la hl 1 rfl) ?_
  obtain ⟨v1, g1, hrun⟩ := bd hrun
  refine s_getfi hx hb hts kl_3 hown hE.1 hM (ci := 3) rfl (by decide) rfl (k := 4) (by decide) rfl (hts _ kw_463) g1 dX1_unlist_1 ?_
  have i_v1 : inr v1 := gtf_i hM g1 (by decide) rfl
  refine lv_iconst (v := Int32.ofInt (-1)) hx hb dX1_unlist_4 rfl ?_
  refine s_icmp_eq (tgt := 26) hx hb dX1_unlist_5 (by decide) i_v1 (by decide) (fun cd => ?_) (fun cd => ?_)
  · replace hrun := it_pos cd hrun
    exact j26 h H locs ls hM hS (lsub hl [] rfl) hrun
  · replace hrun := it_neg cd hrun
    refine s_aload_n hx hb dX1_unlist_8 rfl (la hl 0 rfl) ?_
    obtain ⟨v2, g2, hrun⟩ := bd hrun
    refine s_getfr hx hb hts kl_1 hown hE.1 hM (ci := 1) rfl (by decide) rfl (k := 12) (by decide) rfl (hts _ kw_309) g2 dX1_unlist_9 ?_
    refine s_aload_n hx hb dX1_unlist_12 rfl (la hl 1 rfl) ?_
    obtain ⟨v3, g3, hrun⟩ := bd hrun
    refine s_getfi hx hb hts kl_3 hown hE.1 hM (ci := 3) rfl (by decide) rfl (k := 4) (by decide) rfl (hts _ kw_463) g3 dX1_unlist_13 ?_
    have i_v3 : inr v3 := gtf_i hM g3 (by decide) rfl
    obtain ⟨v4, g4, hrun⟩ := bd hrun
    refine s_aald hx hb hE.1 hM (kd := 14) (by decide) rfl i_v3 g4 dX1_unlist_16 ?_
    refine s_aload_n hx hb dX1_unlist_17 rfl (la hl 1 rfl) ?_
    obtain ⟨u6, g6, hrun⟩ := bd hrun
    obtain ⟨r5, g5, hrun⟩ := bd hrun
    refine s_callV (n := 1) (rest := []) [vr x1] hx hb hml hown hts hE hM hS (c_X4_remove l D G base h r5.2 v4 x1 r5.1 g5) kw_111 kw_108 kw_46 kw_109 kw_110 (by decide +kernel) ⟨Nat.le_of_ble_eq_true rfl, Nat.le_of_ble_eq_true rfl⟩ rfl rfl (by decide) g6 rfl hl.1.1 rfl (c8 c_0 (Nat.le_of_ble_eq_true rfl)) dX1_unlist_18 ⟨Nat.le_of_ble_eq_true rfl, Nat.le_of_ble_eq_true rfl⟩ (fun H locs i_r5 hM hS => ?_)
    refine W.eq (g2 := F0 m 21 ls []) rfl ?_
    refine s_aload_n hx hb dX1_unlist_21 rfl (la hl 1 rfl) ?_
    refine lv_iconst (v := Int32.ofInt (-1)) hx hb dX1_unlist_22 rfl ?_
    obtain ⟨h7, g7, hrun⟩ := bd hrun
    refine s_put (b := false) hx hb hts kl_3 tyX3 tyX3_ok nmX3 hown hE.1 hM hS (ci := 3) rfl (by decide) rfl (k := 4) (by decide) rfl (hts _ kw_463) rfl (vp_nar_int _) rfl (fun _ => (by decide)) g7 dX1_unlist_23 (fun H locs hM hS => ?_)
    exact j26 h7 H locs ls hM hS (lsub hl [] rfl) hrun
def f_X1_relist_j33 (h : Hp) : Option (Int × Hp) :=
  some (0, h)
def f_X1_relist (h : Hp) (x0 x1 : Int) : Option (Int × Hp) :=
  Option.bind (ckd h 3 x1) fun u2 =>
  Option.bind (f_X3_kind h x1) fun r1 =>
  Option.bind (gtf r1.2 3 4 x1) fun v3 =>
  if v3 = r1.1 then (
    f_X1_relist_j33 r1.2
  ) else (
    Option.bind (ckd r1.2 1 x0) fun u5 =>
    Option.bind (f_X1_unlist r1.2 x0 x1) fun r4 =>
    Option.bind (ptf r4.2 3 4 x1 r1.1) fun h6 =>
    Option.bind (gtf h6 1 12 x0) fun v7 =>
    Option.bind (ald h6 14 v7 r1.1) fun v8 =>
    Option.bind (ckd h6 4 v8) fun u10 =>
    Option.bind (f_X4_putFirst h6 v8 x1) fun r9 =>
    f_X1_relist_j33 r9.2
  )
abbrev w_X1_relist : List Cond := Cond.code yX1_relist cX1_relist 3 none :: BW
abbrev rm_X1_relist : Room := { frames := 2, cells := 0, slots := 0, locals := 42 }
set_option maxHeartbeats 4000000 in
set_option maxRecDepth 100000 in
theorem c_X1_relist (l : Launch) (D : va_G) (G : Nat → ClassId) (base : Nat) (h h' : Hp) (x0 x1 : Int) (rv : Int) (hrun : f_X1_relist h x0 x1 = some (rv, h')) : Met l yX1_relist w_X1_relist rm_X1_relist (PC l D G base h [vr x0, vr x1]) (QR D G base none True h') rm_X1_relist.cells rm_X1_relist.slots (Ab base) := by
  refine Met.ofW (cc := cX1_relist) (maxL := 3) (ret := none) (by decide) rfl ?_
  intro p e s m args below meth c s₁ B hml hv
  obtain ⟨hargs, hE, hM⟩ := hv
  have hx := B.exec
  have hb := B.bytes
  have hr := B.returns
  have hts0 := atoms_spec (ws := w_X1_relist) B.pre
  have hts : ∀ w ∈ BW, w.before args s = true := fun w hw => hts0 w (List.mem_cons_of_mem _ hw)
  have hown : s.vm.findClass RX1 = some m.cls := findClass_of_methodNamed B.named
  have hlocks := B.notSynchronized
  have j33 : ∀ (h : Hp) (H : Heap) (locs : List Loc) (ls : Array Slot), SM D G base h H → va_S (Ab base) s.heap H locs → lvh ls 3 [] → f_X1_relist_j33 h = some (rv, h') → W p l e (headSpec w_X1_relist rm_X1_relist).room s m args below meth c H locs 0 0 (QV D G base rv h' below args s 0 0) (F0 m 33 ls []) := by
    intro h H locs ls hM hS hl hrun
    unfold f_X1_relist_j33 at hrun
    exact s_vret hx hb hr hlocks hM hS hrun (Nat.le_of_ble_eq_true rfl) (Nat.le_of_ble_eq_true rfl) dX1_relist_33
  refine s_entry hargs hM (c_r (c_r c_0)) (Nat.le_of_ble_eq_true rfl) (fun H locs ls hM hS hl => ?_)
  replace hl : lvh ls 3 [(0, vr x0), (1, vr x1)] := hl
  unfold f_X1_relist at hrun
  refine s_aload_n hx hb dX1_relist_0 rfl (la hl 1 rfl) ?_
  obtain ⟨u2, g2, hrun⟩ := bd hrun
  obtain ⟨r1, g1, hrun⟩ := bd hrun
  refine s_callV (n := 0) (rest := []) [] hx hb hml hown hts hE hM hS (c_X3_kind l D G base h r1.2 x1 r1.1 g1) kw_501 kw_498 kw_51 kw_499 kw_500 (by decide +kernel) ⟨Nat.le_of_ble_eq_true rfl, Nat.le_of_ble_eq_true rfl⟩ rfl rfl (by decide) g2 rfl hl.1.1 rfl (c8 c_0 (Nat.le_of_ble_eq_true rfl)) dX1_relist_1 ⟨Nat.le_of_ble_eq_true rfl, Nat.le_of_ble_eq_true rfl⟩ (fun H locs i_r1 hM hS => ?_)
  refine W.eq (g2 := F0 m 4 ls [vi r1.1]) rfl ?_
  refine t_istore_n (lv' := [(2, vi r1.1), (0, vr x0), (1, vr x1)]) hx hb dX1_relist_4 rfl hl (by decide) rfl (fun ls hl => ?_)
  refine s_aload_n hx hb dX1_relist_5 rfl (la hl 2 rfl) ?_
  obtain ⟨v3, g3, hrun⟩ := bd hrun
  refine s_getfi hx hb hts kl_3 hown hE.1 hM (ci := 3) rfl (by decide) rfl (k := 4) (by decide) rfl (hts _ kw_463) g3 dX1_relist_6 ?_
  have i_v3 : inr v3 := gtf_i hM g3 (by decide) rfl
  refine lv_iload_n hx hb dX1_relist_9 rfl (la hl 0 rfl) ?_
  refine s_icmp_eq (tgt := 33) hx hb dX1_relist_10 (by decide) i_v3 i_r1 (fun cd => ?_) (fun cd => ?_)
  · replace hrun := it_pos cd hrun
    exact j33 r1.2 H locs ls hM hS (lsub hl [] rfl) hrun
  · replace hrun := it_neg cd hrun
    refine s_aload_n hx hb dX1_relist_13 rfl (la hl 1 rfl) ?_
    refine s_aload_n hx hb dX1_relist_14 rfl (la hl 2 rfl) ?_
    obtain ⟨u5, g5, hrun⟩ := bd hrun
    obtain ⟨r4, g4, hrun⟩ := bd hrun
    refine s_callV (n := 1) (rest := []) [vr x1] hx hb hml hown hts hE hM hS (c_X1_unlist l D G base r1.2 r4.2 x0 x1 r4.1 g4) kw_107 kw_502 kw_45 kw_105 kw_106 (by decide +kernel) ⟨Nat.le_of_ble_eq_true rfl, Nat.le_of_ble_eq_true rfl⟩ rfl rfl (by decide) g5 rfl hl.1.1 rfl (c8 c_0 (Nat.le_of_ble_eq_true rfl)) dX1_relist_15 ⟨Nat.le_of_ble_eq_true rfl, Nat.le_of_ble_eq_true rfl⟩ (fun H locs i_r4 hM hS => ?_)
    refine W.eq (g2 := F0 m 18 ls []) rfl ?_
    refine s_aload_n hx hb dX1_relist_18 rfl (la hl 2 rfl) ?_
    refine lv_iload_n hx hb dX1_relist_19 rfl (la hl 0 rfl) ?_
    obtain ⟨h6, g6, hrun⟩ := bd hrun
    refine s_put (b := false) hx hb hts kl_3 tyX3 tyX3_ok nmX3 hown hE.1 hM hS (ci := 3) rfl (by decide) rfl (k := 4) (by decide) rfl (hts _ kw_463) rfl (vp_nar_int _) rfl (fun _ => i_r1) g6 dX1_relist_20 (fun H locs hM hS => ?_)
    refine s_aload_n hx hb dX1_relist_23 rfl (la hl 1 rfl) ?_
    obtain ⟨v7, g7, hrun⟩ := bd hrun
    refine s_getfr hx hb hts kl_1 hown hE.1 hM (ci := 1) rfl (by decide) rfl (k := 12) (by decide) rfl (hts _ kw_309) g7 dX1_relist_24 ?_
    refine lv_iload_n hx hb dX1_relist_27 rfl (la hl 0 rfl) ?_
    obtain ⟨v8, g8, hrun⟩ := bd hrun
    refine s_aald hx hb hE.1 hM (kd := 14) (by decide) rfl i_r1 g8 dX1_relist_28 ?_
    refine s_aload_n hx hb dX1_relist_29 rfl (la hl 2 rfl) ?_
    obtain ⟨u10, g10, hrun⟩ := bd hrun
    obtain ⟨r9, g9, hrun⟩ := bd hrun
    refine s_callV (n := 1) (rest := []) [vr x1] hx hb hml hown hts hE hM hS (c_X4_putFirst l D G base h6 r9.2 v8 x1 r9.1 g9) kw_506 kw_503 kw_46 kw_504 kw_505 (by decide +kernel) ⟨Nat.le_of_ble_eq_true rfl, Nat.le_of_ble_eq_true rfl⟩ rfl rfl (by decide) g10 rfl hl.1.1 rfl (c8 c_0 (Nat.le_of_ble_eq_true rfl)) dX1_relist_30 ⟨Nat.le_of_ble_eq_true rfl, Nat.le_of_ble_eq_true rfl⟩ (fun H locs i_r9 hM hS => ?_)
    refine W.eq (g2 := F0 m 33 ls []) rfl ?_
    exact j33 r9.2 H locs ls hM hS (lsub hl [] rfl) hrun
def f_X1_takeFromDepot (h : Hp) (x0 : Int) : Option (Int × Hp) :=
  Option.bind (gtf h 1 16 x0) fun v1 =>
  if 0 < v1 then (
    Option.bind (gtf h 1 16 x0) fun v2 =>
    Option.bind (ptf h 1 16 x0 (wr (v2 - 1))) fun h3 =>
    Option.bind (gtf h3 1 15 x0) fun v4 =>
    Option.bind (gtf h3 1 16 x0) fun v5 =>
    Option.bind (ald h3 12 v4 v5) fun v6 =>
    Option.bind (gtf h3 1 15 x0) fun v7 =>
    Option.bind (gtf h3 1 16 x0) fun v8 =>
    Option.bind (asr h3 12 v7 v8 (-1)) fun h9 =>
    some (v6, h9)
  ) else (
    some ((-1), h)
  )
abbrev w_X1_takeFromDepot : List Cond := Cond.code yX1_takeFromDepot cX1_takeFromDepot 2 (some (.object "SlabHouse$Magazine")) :: BW
abbrev rm_X1_takeFromDepot : Room := { frames := 0, cells := 0, slots := 0, locals := 0 }
set_option maxHeartbeats 4000000 in
set_option maxRecDepth 100000 in
theorem c_X1_takeFromDepot (l : Launch) (D : va_G) (G : Nat → ClassId) (base : Nat) (h h' : Hp) (x0 : Int) (rv : Int) (hrun : f_X1_takeFromDepot h x0 = some (rv, h')) : Met l yX1_takeFromDepot w_X1_takeFromDepot rm_X1_takeFromDepot (PC l D G base h [vr x0]) (QR D G base (some (vr rv)) True h') rm_X1_takeFromDepot.cells rm_X1_takeFromDepot.slots (Ab base) := by
  refine Met.ofW (cc := cX1_takeFromDepot) (maxL := 2) (ret := (some (.object "SlabHouse$Magazine"))) (by decide) rfl ?_
  intro p e s m args below meth c s₁ B hml hv
  obtain ⟨hargs, hE, hM⟩ := hv
  have hx := B.exec
  have hb := B.bytes
  have hr := B.returns
  have hts0 := atoms_spec (ws := w_X1_takeFromDepot) B.pre
  have hts : ∀ w ∈ BW, w.before args s = true := fun w hw => hts0 w (List.mem_cons_of_mem _ hw)
  have hown : s.vm.findClass RX1 = some m.cls := findClass_of_methodNamed B.named
  have hlocks := B.notSynchronized
  refine s_entry hargs hM (c_r c_0) (Nat.le_of_ble_eq_true rfl) (fun H locs ls hM hS hl => ?_)
  replace hl : lvh ls 2 [(0, vr x0)] := hl
  unfold f_X1_takeFromDepot at hrun
  refine s_aload_n hx hb dX1_takeFromDepot_0 rfl (la hl 0 rfl) ?_
  obtain ⟨v1, g1, hrun⟩ := bd hrun
  refine s_getfi hx hb hts kl_1 hown hE.1 hM (ci := 1) rfl (by decide) rfl (k := 16) (by decide) rfl (hts _ kw_316) g1 dX1_takeFromDepot_1 ?_
  have i_v1 : inr v1 := gtf_i hM g1 (by decide) rfl
  refine s_if_gt (tgt := 9) hx hb dX1_takeFromDepot_4 (by decide) i_v1 (fun cd => ?_) (fun cd => ?_)
  · replace hrun := it_pos cd hrun
    refine s_aload_n hx hb dX1_takeFromDepot_9 rfl (la hl 0 rfl) ?_
    refine lv_dup hx hb dX1_takeFromDepot_10 (vr_cat _) ?_
    obtain ⟨v2, g2, hrun⟩ := bd hrun
    refine s_getfi hx hb hts kl_1 hown hE.1 hM (ci := 1) rfl (by decide) rfl (k := 16) (by decide) rfl (hts _ kw_316) g2 dX1_takeFromDepot_11 ?_
    have i_v2 : inr v2 := gtf_i hM g2 (by decide) rfl
    refine lv_iconst (v := Int32.ofInt 1) hx hb dX1_takeFromDepot_14 rfl ?_
    refine s_isub hx hb dX1_takeFromDepot_15 ?_
    obtain ⟨h3, g3, hrun⟩ := bd hrun
    refine s_put (b := false) hx hb hts kl_1 tyX1 tyX1_ok nmX1 hown hE.1 hM hS (ci := 1) rfl (by decide) rfl (k := 16) (by decide) rfl (hts _ kw_316) rfl (vp_nar_int _) rfl (fun _ => (inr_wr _)) g3 dX1_takeFromDepot_16 (fun H locs hM hS => ?_)
    refine s_aload_n hx hb dX1_takeFromDepot_19 rfl (la hl 0 rfl) ?_
    obtain ⟨v4, g4, hrun⟩ := bd hrun
    refine s_getfr hx hb hts kl_1 hown hE.1 hM (ci := 1) rfl (by decide) rfl (k := 15) (by decide) rfl (hts _ kw_315) g4 dX1_takeFromDepot_20 ?_
    refine s_aload_n hx hb dX1_takeFromDepot_23 rfl (la hl 0 rfl) ?_
    obtain ⟨v5, g5, hrun⟩ := bd hrun
    refine s_getfi hx hb hts kl_1 hown hE.1 hM (ci := 1) rfl (by decide) rfl (k := 16) (by decide) rfl (hts _ kw_316) g5 dX1_takeFromDepot_24 ?_
    have i_v5 : inr v5 := gtf_i hM g5 (by decide) rfl
    obtain ⟨v6, g6, hrun⟩ := bd hrun
    refine s_aald hx hb hE.1 hM (kd := 12) (by decide) rfl i_v5 g6 dX1_takeFromDepot_27 ?_
    refine t_astore_n (lv' := [(1, vr v6), (0, vr x0)]) hx hb dX1_takeFromDepot_28 rfl hl (by decide) rfl (fun ls hl => ?_)
    refine s_aload_n hx hb dX1_takeFromDepot_29 rfl (la hl 1 rfl) ?_
    obtain ⟨v7, g7, hrun⟩ := bd hrun
    refine s_getfr hx hb hts kl_1 hown hE.1 hM (ci := 1) rfl (by decide) rfl (k := 15) (by decide) rfl (hts _ kw_315) g7 dX1_takeFromDepot_30 ?_
    refine s_aload_n hx hb dX1_takeFromDepot_33 rfl (la hl 1 rfl) ?_
    obtain ⟨v8, g8, hrun⟩ := bd hrun
    refine s_getfi hx hb hts kl_1 hown hE.1 hM (ci := 1) rfl (by decide) rfl (k := 16) (by decide) rfl (hts _ kw_316) g8 dX1_takeFromDepot_34 ?_
    have i_v8 : inr v8 := gtf_i hM g8 (by decide) rfl
    refine s_null hx hb dX1_takeFromDepot_37 ?_
    obtain ⟨h9, g9, hrun⟩ := bd hrun
    refine s_aast hx hb hE.1 hM hS (kd := 12) (ci := 2) (by decide) (by decide) rfl rfl rfl i_v8 g9 dX1_takeFromDepot_38 (fun H locs hM hS => ?_)
    refine s_aload_n hx hb dX1_takeFromDepot_39 rfl (la hl 0 rfl) ?_
    exact s_aret hx hb hr (Or.inl ⟨_, rfl⟩) hlocks hM hS hrun (Nat.le_of_ble_eq_true rfl) (Nat.le_of_ble_eq_true rfl) dX1_takeFromDepot_40
  · replace hrun := it_neg cd hrun
    refine s_null hx hb dX1_takeFromDepot_7 ?_
    exact s_aret hx hb hr (Or.inl ⟨_, rfl⟩) hlocks hM hS hrun (Nat.le_of_ble_eq_true rfl) (Nat.le_of_ble_eq_true rfl) dX1_takeFromDepot_8
def f_X1_changePlaces (h : Hp) (x0 x1 : Int) : Option (Int × Hp) :=
  Option.bind (gtf h 1 13 x0) fun v1 =>
  Option.bind (ald h 12 v1 x1) fun v2 =>
  Option.bind (gtf h 1 13 x0) fun v3 =>
  Option.bind (gtf h 1 14 x0) fun v4 =>
  Option.bind (ald h 12 v4 x1) fun v5 =>
  Option.bind (asr h 12 v3 x1 v5) fun h6 =>
  Option.bind (gtf h6 1 14 x0) fun v7 =>
  Option.bind (asr h6 12 v7 x1 v2) fun h8 =>
  some (0, h8)
abbrev w_X1_changePlaces : List Cond := Cond.code yX1_changePlaces cX1_changePlaces 3 none :: BW
abbrev rm_X1_changePlaces : Room := { frames := 0, cells := 0, slots := 0, locals := 0 }
set_option maxHeartbeats 4000000 in
set_option maxRecDepth 100000 in
theorem c_X1_changePlaces (l : Launch) (D : va_G) (G : Nat → ClassId) (base : Nat) (h h' : Hp) (x0 x1 : Int) (rv : Int) (i_x1 : inr x1) (hrun : f_X1_changePlaces h x0 x1 = some (rv, h')) : Met l yX1_changePlaces w_X1_changePlaces rm_X1_changePlaces (PC l D G base h [vr x0, vi x1]) (QR D G base none True h') rm_X1_changePlaces.cells rm_X1_changePlaces.slots (Ab base) := by
  refine Met.ofW (cc := cX1_changePlaces) (maxL := 3) (ret := none) (by decide) rfl ?_
  intro p e s m args below meth c s₁ B hml hv
  obtain ⟨hargs, hE, hM⟩ := hv
  have hx := B.exec
  have hb := B.bytes
  have hr := B.returns
  have hts0 := atoms_spec (ws := w_X1_changePlaces) B.pre
  have hts : ∀ w ∈ BW, w.before args s = true := fun w hw => hts0 w (List.mem_cons_of_mem _ hw)
  have hown : s.vm.findClass RX1 = some m.cls := findClass_of_methodNamed B.named
  have hlocks := B.notSynchronized
  refine s_entry hargs hM (c_r (c_i c_0)) (Nat.le_of_ble_eq_true rfl) (fun H locs ls hM hS hl => ?_)
  replace hl : lvh ls 3 [(0, vr x0), (1, vi x1)] := hl
  unfold f_X1_changePlaces at hrun
  refine s_aload_n hx hb dX1_changePlaces_0 rfl (la hl 0 rfl) ?_
  obtain ⟨v1, g1, hrun⟩ := bd hrun
  refine s_getfr hx hb hts kl_1 hown hE.1 hM (ci := 1) rfl (by decide) rfl (k := 13) (by decide) rfl (hts _ kw_311) g1 dX1_changePlaces_1 ?_
  refine lv_iload_n hx hb dX1_changePlaces_4 rfl (la hl 1 rfl) ?_
  obtain ⟨v2, g2, hrun⟩ := bd hrun
  refine s_aald hx hb hE.1 hM (kd := 12) (by decide) rfl i_x1 g2 dX1_changePlaces_5 ?_
  refine t_astore_n (lv' := [(2, vr v2), (0, vr x0), (1, vi x1)]) hx hb dX1_changePlaces_6 rfl hl (by decide) rfl (fun ls hl => ?_)
  refine s_aload_n hx hb dX1_changePlaces_7 rfl (la hl 1 rfl) ?_
  obtain ⟨v3, g3, hrun⟩ := bd hrun
  refine s_getfr hx hb hts kl_1 hown hE.1 hM (ci := 1) rfl (by decide) rfl (k := 13) (by decide) rfl (hts _ kw_311) g3 dX1_changePlaces_8 ?_
  refine lv_iload_n hx hb dX1_changePlaces_11 rfl (la hl 2 rfl) ?_
  refine s_aload_n hx hb dX1_changePlaces_12 rfl (la hl 1 rfl) ?_
  obtain ⟨v4, g4, hrun⟩ := bd hrun
  refine s_getfr hx hb hts kl_1 hown hE.1 hM (ci := 1) rfl (by decide) rfl (k := 14) (by decide) rfl (hts _ kw_313) g4 dX1_changePlaces_13 ?_
  refine lv_iload_n hx hb dX1_changePlaces_16 rfl (la hl 2 rfl) ?_
  obtain ⟨v5, g5, hrun⟩ := bd hrun
  refine s_aald hx hb hE.1 hM (kd := 12) (by decide) rfl i_x1 g5 dX1_changePlaces_17 ?_
  obtain ⟨h6, g6, hrun⟩ := bd hrun
  refine s_aast hx hb hE.1 hM hS (kd := 12) (ci := 2) (by decide) (by decide) rfl rfl rfl i_x1 g6 dX1_changePlaces_18 (fun H locs hM hS => ?_)
  refine s_aload_n hx hb dX1_changePlaces_19 rfl (la hl 1 rfl) ?_
  obtain ⟨v7, g7, hrun⟩ := bd hrun
  refine s_getfr hx hb hts kl_1 hown hE.1 hM (ci := 1) rfl (by decide) rfl (k := 14) (by decide) rfl (hts _ kw_313) g7 dX1_changePlaces_20 ?_
  refine lv_iload_n hx hb dX1_changePlaces_23 rfl (la hl 2 rfl) ?_
  refine s_aload_n hx hb dX1_changePlaces_24 rfl (la hl 0 rfl) ?_
  obtain ⟨h8, g8, hrun⟩ := bd hrun
  refine s_aast hx hb hE.1 hM hS (kd := 12) (ci := 2) (by decide) (by decide) rfl rfl rfl i_x1 g8 dX1_changePlaces_25 (fun H locs hM hS => ?_)
  exact s_vret hx hb hr hlocks hM hS hrun (Nat.le_of_ble_eq_true rfl) (Nat.le_of_ble_eq_true rfl) dX1_changePlaces_26
def f_X1_takeFromMagazines_j69 (h : Hp) (x0 x1 : Int) : Option (Int × Hp) :=
  Option.bind (gtf h 1 13 x0) fun v17 =>
  Option.bind (ald h 12 v17 x1) fun v18 =>
  Option.bind (ckd h 2 v18) fun u20 =>
  Option.bind (f_X2_takeLast h v18) fun r19 =>
  some (r19.1, r19.2)
def f_X1_takeFromMagazines_j68 (h : Hp) (x0 x1 s0 s1 s2 : Int) : Option (Int × Hp) :=
  Option.bind (asr h 12 s0 s1 s2) fun h21 =>
  f_X1_takeFromMagazines_j69 h21 x0 x1
def f_X1_takeFromMagazines_j32 (h : Hp) (x0 x1 : Int) : Option (Int × Hp) :=
  Option.bind (gtf h 1 13 x0) fun v9 =>
  Option.bind (ald h 12 v9 x1) fun v10 =>
  Option.bind (gtf h 2 1 v10) fun v11 =>
  if v11 ≠ 0 then (
    f_X1_takeFromMagazines_j69 h x0 x1
  ) else (
    Option.bind (ckd h 1 x0) fun u13 =>
    Option.bind (f_X1_takeFromDepot h x0) fun r12 =>
    Option.bind (gtf r12.2 1 13 x0) fun v14 =>
    if 0 ≤ r12.1 then (
      f_X1_takeFromMagazines_j68 r12.2 x0 x1 v14 x1 r12.1
    ) else (
      Option.bind (gtf r12.2 1 13 x0) fun v15 =>
      Option.bind (ald r12.2 12 v15 x1) fun v16 =>
      f_X1_takeFromMagazines_j68 r12.2 x0 x1 v14 x1 v16
    )
  )
def f_X1_takeFromMagazines (h : Hp) (x0 x1 : Int) : Option (Int × Hp) :=
  Option.bind (gtf h 1 13 x0) fun v1 =>
  Option.bind (ald h 12 v1 x1) fun v2 =>
  Option.bind (gtf h 2 1 v2) fun v3 =>
  if v3 ≠ 0 then (
    f_X1_takeFromMagazines_j32 h x0 x1
  ) else (
    Option.bind (gtf h 1 14 x0) fun v4 =>
    Option.bind (ald h 12 v4 x1) fun v5 =>
    Option.bind (gtf h 2 1 v5) fun v6 =>
    if v6 ≤ 0 then (
      f_X1_takeFromMagazines_j32 h x0 x1
    ) else (
      Option.bind (ckd h 1 x0) fun u8 =>
      Option.bind (f_X1_changePlaces h x0 x1) fun r7 =>
      f_X1_takeFromMagazines_j69 r7.2 x0 x1
    )
  )
abbrev w_X1_takeFromMagazines : List Cond := Cond.code yX1_takeFromMagazines cX1_takeFromMagazines 3 (some .int) :: BW
abbrev rm_X1_takeFromMagazines : Room := { frames := 1, cells := 0, slots := 0, locals := 22 }
set_option maxHeartbeats 4000000 in
set_option maxRecDepth 100000 in
theorem c_X1_takeFromMagazines (l : Launch) (D : va_G) (G : Nat → ClassId) (base : Nat) (h h' : Hp) (x0 x1 : Int) (rv : Int) (i_x1 : inr x1) (hrun : f_X1_takeFromMagazines h x0 x1 = some (rv, h')) : Met l yX1_takeFromMagazines w_X1_takeFromMagazines rm_X1_takeFromMagazines (PC l D G base h [vr x0, vi x1]) (QR D G base (some (vi rv)) (inr rv) h') rm_X1_takeFromMagazines.cells rm_X1_takeFromMagazines.slots (Ab base) := by
  refine Met.ofW (cc := cX1_takeFromMagazines) (maxL := 3) (ret := (some .int)) (by decide) rfl ?_
  intro p e s m args below meth c s₁ B hml hv
  obtain ⟨hargs, hE, hM⟩ := hv
  have hx := B.exec
  have hb := B.bytes
  have hr := B.returns
  have hts0 := atoms_spec (ws := w_X1_takeFromMagazines) B.pre
  have hts : ∀ w ∈ BW, w.before args s = true := fun w hw => hts0 w (List.mem_cons_of_mem _ hw)
  have hown : s.vm.findClass RX1 = some m.cls := findClass_of_methodNamed B.named
  have hlocks := B.notSynchronized
  have j69 : ∀ (h : Hp) (x0 x1 : Int) (H : Heap) (locs : List Loc) (ls : Array Slot), inr x1 → SM D G base h H → va_S (Ab base) s.heap H locs → lvh ls 3 [(0, vr x0), (1, vi x1)] → f_X1_takeFromMagazines_j69 h x0 x1 = some (rv, h') → W p l e (headSpec w_X1_takeFromMagazines rm_X1_takeFromMagazines).room s m args below meth c H locs 0 0 (QI D G base rv h' below args s 0 0) (F0 m 69 ls []) := by
    intro h x0 x1 H locs ls i_x1 hM hS hl hrun
    unfold f_X1_takeFromMagazines_j69 at hrun
    refine s_aload_n hx hb dX1_takeFromMagazines_69 rfl (la hl 0 rfl) ?_
    obtain ⟨v17, g17, hrun⟩ := bd hrun
    refine s_getfr hx hb hts kl_1 hown hE.1 hM (ci := 1) rfl (by decide) rfl (k := 13) (by decide) rfl (hts _ kw_311) g17 dX1_takeFromMagazines_70 ?_
    refine lv_iload_n hx hb dX1_takeFromMagazines_73 rfl (la hl 1 rfl) ?_
    obtain ⟨v18, g18, hrun⟩ := bd hrun
    refine s_aald hx hb hE.1 hM (kd := 12) (by decide) rfl i_x1 g18 dX1_takeFromMagazines_74 ?_
    obtain ⟨u20, g20, hrun⟩ := bd hrun
    obtain ⟨r19, g19, hrun⟩ := bd hrun
    refine s_callV (n := 0) (rest := []) [] hx hb hml hown hts hE hM hS (c_X2_takeLast l D G base h r19.2 v18 r19.1 g19) kw_424 kw_421 kw_47 kw_422 kw_423 (by decide +kernel) ⟨Nat.le_of_ble_eq_true rfl, Nat.le_of_ble_eq_true rfl⟩ rfl rfl (by decide) g20 rfl hl.1.1 rfl (c8 c_0 (Nat.le_of_ble_eq_true rfl)) dX1_takeFromMagazines_75 ⟨Nat.le_of_ble_eq_true rfl, Nat.le_of_ble_eq_true rfl⟩ (fun H locs i_r19 hM hS => ?_)
    refine W.eq (g2 := F0 m 78 ls [vi r19.1]) rfl ?_
    exact s_iret hx hb hr hlocks hM hS i_r19 hrun (Nat.le_of_ble_eq_true rfl) (Nat.le_of_ble_eq_true rfl) dX1_takeFromMagazines_78
  have j68 : ∀ (h : Hp) (x0 x1 s0 s1 s2 : Int) (H : Heap) (locs : List Loc) (ls : Array Slot), inr x1 → inr s1 → SM D G base h H → va_S (Ab base) s.heap H locs → lvh ls 3 [(0, vr x0), (1, vi x1)] → f_X1_takeFromMagazines_j68 h x0 x1 s0 s1 s2 = some (rv, h') → W p l e (headSpec w_X1_takeFromMagazines rm_X1_takeFromMagazines).room s m args below meth c H locs 0 0 (QI D G base rv h' below args s 0 0) (F0 m 68 ls [vr s2, vi s1, vr s0]) := by
    intro h x0 x1 s0 s1 s2 H locs ls i_x1 i_s1 hM hS hl hrun
    unfold f_X1_takeFromMagazines_j68 at hrun
    obtain ⟨h21, g21, hrun⟩ := bd hrun
    refine s_aast hx hb hE.1 hM hS (kd := 12) (ci := 2) (by decide) (by decide) rfl rfl rfl i_s1 g21 dX1_takeFromMagazines_68 (fun H locs hM hS => ?_)
    exact j69 h21 x0 x1 H locs ls i_x1 hM hS (lsub hl [0, 1] rfl) hrun
  have j32 : ∀ (h : Hp) (x0 x1 : Int) (H : Heap) (locs : List Loc) (ls : Array Slot), inr x1 → SM D G base h H → va_S (Ab base) s.heap H locs → lvh ls 3 [(0, vr x0), (1, vi x1)] → f_X1_takeFromMagazines_j32 h x0 x1 = some (rv, h') → W p l e (headSpec w_X1_takeFromMagazines rm_X1_takeFromMagazines).room s m args below meth c H locs 0 0 (QI D G base rv h' below args s 0 0) (F0 m 32 ls []) := by
    intro h x0 x1 H locs ls i_x1 hM hS hl hrun
    unfold f_X1_takeFromMagazines_j32 at hrun
    refine s_aload_n hx hb dX1_takeFromMagazines_32 rfl (la hl 0 rfl) ?_
    obtain ⟨v9, g9, hrun⟩ := bd hrun
    refine s_getfr hx hb hts kl_1 hown hE.1 hM (ci := 1) rfl (by decide) rfl (k := 13) (by decide) rfl (hts _ kw_311) g9 dX1_takeFromMagazines_33 ?_
    refine lv_iload_n hx hb dX1_takeFromMagazines_36 rfl (la hl 1 rfl) ?_
    obtain ⟨v10, g10, hrun⟩ := bd hrun
    refine s_aald hx hb hE.1 hM (kd := 12) (by decide) rfl i_x1 g10 dX1_takeFromMagazines_37 ?_
    obtain ⟨v11, g11, hrun⟩ := bd hrun
    refine s_getfi hx hb hts kl_2 hown hE.1 hM (ci := 2) rfl (by decide) rfl (k := 1) (by decide) rfl (hts _ kw_279) g11 dX1_takeFromMagazines_38 ?_
    have i_v11 : inr v11 := gtf_i hM g11 (by decide) rfl
    refine s_if_ne (tgt := 69) hx hb dX1_takeFromMagazines_41 (by decide) i_v11 (fun cd => ?_) (fun cd => ?_)
    · replace hrun := it_pos cd hrun
      exact j69 h x0 x1 H locs ls i_x1 hM hS (lsub hl [0, 1] rfl) hrun
    · replace hrun := it_neg cd hrun
      refine s_aload_n hx hb dX1_takeFromMagazines_44 rfl (la hl 0 rfl) ?_
      obtain ⟨u13, g13, hrun⟩ := bd hrun
      obtain ⟨r12, g12, hrun⟩ := bd hrun
      refine s_callV (n := 0) (rest := []) [] hx hb hml hown hts hE hM hS (c_X1_takeFromDepot l D G base h r12.2 x0 r12.1 g12) kw_420 kw_417 kw_45 kw_418 kw_419 (by decide +kernel) ⟨Nat.le_of_ble_eq_true rfl, Nat.le_of_ble_eq_true rfl⟩ rfl rfl (by decide) g13 rfl hl.1.1 rfl (c8 c_0 (Nat.le_of_ble_eq_true rfl)) dX1_takeFromMagazines_45 ⟨Nat.le_of_ble_eq_true rfl, Nat.le_of_ble_eq_true rfl⟩ (fun H locs i_r12 hM hS => ?_)
      refine W.eq (g2 := F0 m 48 ls [vr r12.1]) rfl ?_
      refine t_astore_n (lv' := [(2, vr r12.1), (0, vr x0), (1, vi x1)]) hx hb dX1_takeFromMagazines_48 rfl hl (by decide) rfl (fun ls hl => ?_)
      refine s_aload_n hx hb dX1_takeFromMagazines_49 rfl (la hl 1 rfl) ?_
      obtain ⟨v14, g14, hrun⟩ := bd hrun
      refine s_getfr hx hb hts kl_1 hown hE.1 hM (ci := 1) rfl (by decide) rfl (k := 13) (by decide) rfl (hts _ kw_311) g14 dX1_takeFromMagazines_50 ?_
      refine lv_iload_n hx hb dX1_takeFromMagazines_53 rfl (la hl 2 rfl) ?_
      refine s_aload_n hx hb dX1_takeFromMagazines_54 rfl (la hl 0 rfl) ?_
      refine s_ifnonnull (tgt := 67) hx hb dX1_takeFromMagazines_55 (by decide) (fun cd => ?_) (fun cd => ?_)
      · replace hrun := it_pos cd hrun
        refine s_aload_n hx hb dX1_takeFromMagazines_67 rfl (la hl 0 rfl) ?_
        exact j68 r12.2 x0 x1 v14 x1 r12.1 H locs ls i_x1 i_x1 hM hS (lsub hl [1, 2] rfl) hrun
      · replace hrun := it_neg cd hrun
        refine s_aload_n hx hb dX1_takeFromMagazines_58 rfl (la hl 1 rfl) ?_
        obtain ⟨v15, g15, hrun⟩ := bd hrun
        refine s_getfr hx hb hts kl_1 hown hE.1 hM (ci := 1) rfl (by decide) rfl (k := 13) (by decide) rfl (hts _ kw_311) g15 dX1_takeFromMagazines_59 ?_
        refine lv_iload_n hx hb dX1_takeFromMagazines_62 rfl (la hl 2 rfl) ?_
        obtain ⟨v16, g16, hrun⟩ := bd hrun
        refine s_aald hx hb hE.1 hM (kd := 12) (by decide) rfl i_x1 g16 dX1_takeFromMagazines_63 ?_
        refine lv_goto (tgt := 68) hx hb dX1_takeFromMagazines_64 (by decide) ?_
        exact j68 r12.2 x0 x1 v14 x1 v16 H locs ls i_x1 i_x1 hM hS (lsub hl [1, 2] rfl) hrun
  refine s_entry hargs hM (c_r (c_i c_0)) (Nat.le_of_ble_eq_true rfl) (fun H locs ls hM hS hl => ?_)
  replace hl : lvh ls 3 [(0, vr x0), (1, vi x1)] := hl
  unfold f_X1_takeFromMagazines at hrun
  refine s_aload_n hx hb dX1_takeFromMagazines_0 rfl (la hl 0 rfl) ?_
  obtain ⟨v1, g1, hrun⟩ := bd hrun
  refine s_getfr hx hb hts kl_1 hown hE.1 hM (ci := 1) rfl (by decide) rfl (k := 13) (by decide) rfl (hts _ kw_311) g1 dX1_takeFromMagazines_1 ?_
  refine lv_iload_n hx hb dX1_takeFromMagazines_4 rfl (la hl 1 rfl) ?_
  obtain ⟨v2, g2, hrun⟩ := bd hrun
  refine s_aald hx hb hE.1 hM (kd := 12) (by decide) rfl i_x1 g2 dX1_takeFromMagazines_5 ?_
  obtain ⟨v3, g3, hrun⟩ := bd hrun
  refine s_getfi hx hb hts kl_2 hown hE.1 hM (ci := 2) rfl (by decide) rfl (k := 1) (by decide) rfl (hts _ kw_279) g3 dX1_takeFromMagazines_6 ?_
  have i_v3 : inr v3 := gtf_i hM g3 (by decide) rfl
  refine s_if_ne (tgt := 32) hx hb dX1_takeFromMagazines_9 (by decide) i_v3 (fun cd => ?_) (fun cd => ?_)
  · replace hrun := it_pos cd hrun
    exact j32 h x0 x1 H locs ls i_x1 hM hS (lsub hl [0, 1] rfl) hrun
  · replace hrun := it_neg cd hrun
    refine s_aload_n hx hb dX1_takeFromMagazines_12 rfl (la hl 0 rfl) ?_
    obtain ⟨v4, g4, hrun⟩ := bd hrun
    refine s_getfr hx hb hts kl_1 hown hE.1 hM (ci := 1) rfl (by decide) rfl (k := 14) (by decide) rfl (hts _ kw_313) g4 dX1_takeFromMagazines_13 ?_
    refine lv_iload_n hx hb dX1_takeFromMagazines_16 rfl (la hl 1 rfl) ?_
    obtain ⟨v5, g5, hrun⟩ := bd hrun
    refine s_aald hx hb hE.1 hM (kd := 12) (by decide) rfl i_x1 g5 dX1_takeFromMagazines_17 ?_
    obtain ⟨v6, g6, hrun⟩ := bd hrun
    refine s_getfi hx hb hts kl_2 hown hE.1 hM (ci := 2) rfl (by decide) rfl (k := 1) (by decide) rfl (hts _ kw_279) g6 dX1_takeFromMagazines_18 ?_
    have i_v6 : inr v6 := gtf_i hM g6 (by decide) rfl
    refine s_if_le (tgt := 32) hx hb dX1_takeFromMagazines_21 (by decide) i_v6 (fun cd => ?_) (fun cd => ?_)
    · replace hrun := it_pos cd hrun
      exact j32 h x0 x1 H locs ls i_x1 hM hS (lsub hl [0, 1] rfl) hrun
    · replace hrun := it_neg cd hrun
      refine s_aload_n hx hb dX1_takeFromMagazines_24 rfl (la hl 0 rfl) ?_
      refine lv_iload_n hx hb dX1_takeFromMagazines_25 rfl (la hl 1 rfl) ?_
      obtain ⟨u8, g8, hrun⟩ := bd hrun
      obtain ⟨r7, g7, hrun⟩ := bd hrun
      refine s_callV (n := 1) (rest := []) [vi x1] hx hb hml hown hts hE hM hS (c_X1_changePlaces l D G base h r7.2 x0 x1 r7.1 i_x1 g7) kw_416 kw_413 kw_45 kw_415 kw_8 (by decide +kernel) ⟨Nat.le_of_ble_eq_true rfl, Nat.le_of_ble_eq_true rfl⟩ rfl rfl (by decide) g8 rfl hl.1.1 rfl (c8 c_0 (Nat.le_of_ble_eq_true rfl)) dX1_takeFromMagazines_26 ⟨Nat.le_of_ble_eq_true rfl, Nat.le_of_ble_eq_true rfl⟩ (fun H locs i_r7 hM hS => ?_)
      refine W.eq (g2 := F0 m 29 ls []) rfl ?_
      refine lv_goto (tgt := 69) hx hb dX1_takeFromMagazines_29 (by decide) ?_
      exact j69 r7.2 x0 x1 H locs ls i_x1 hM hS (lsub hl [0, 1] rfl) hrun
def f_X1_putIntoMagazines_j90 (h : Hp) (x0 x1 x2 : Int) : Option (Int × Hp) :=
  Option.bind (gtf h 1 13 x0) fun v28 =>
  Option.bind (ald h 12 v28 x1) fun v29 =>
  Option.bind (ckd h 2 v29) fun u31 =>
  Option.bind (f_X2_put h v29 x2) fun r30 =>
  rtB r30.1 r30.2
def f_X1_putIntoMagazines (h : Hp) (x0 x1 x2 : Int) : Option (Int × Hp) :=
  Option.bind (gtf h 1 13 x0) fun v1 =>
  Option.bind (ald h 12 v1 x1) fun v2 =>
  Option.bind (ckd h 2 v2) fun u4 =>
  Option.bind (f_X2_isFull h v2) fun r3 =>
  if r3.1 = 0 then (
    f_X1_putIntoMagazines_j90 r3.2 x0 x1 x2
  ) else (
    Option.bind (gtf r3.2 1 14 x0) fun v5 =>
    Option.bind (ald r3.2 12 v5 x1) fun v6 =>
    Option.bind (ckd r3.2 2 v6) fun u8 =>
    Option.bind (f_X2_isFull r3.2 v6) fun r7 =>
    if r7.1 ≠ 0 then (
      Option.bind (gtf r7.2 1 16 x0) fun v9 =>
      if 3 ≤ v9 then (
        f_X1_putIntoMagazines_j90 r7.2 x0 x1 x2
      ) else (
        Option.bind (gtf r7.2 1 15 x0) fun v10 =>
        Option.bind (gtf r7.2 1 16 x0) fun v11 =>
        Option.bind (gtf r7.2 1 14 x0) fun v12 =>
        Option.bind (ald r7.2 12 v12 x1) fun v13 =>
        Option.bind (asr r7.2 12 v10 v11 v13) fun h14 =>
        Option.bind (gtf h14 1 16 x0) fun v15 =>
        Option.bind (ptf h14 1 16 x0 (wr (v15 + 1))) fun h16 =>
        Option.bind (gtf h16 1 14 x0) fun v17 =>
        Option.bind (gtf h16 1 13 x0) fun v18 =>
        Option.bind (ald h16 12 v18 x1) fun v19 =>
        Option.bind (asr h16 12 v17 x1 v19) fun h20 =>
        Option.bind (gtf h20 1 13 x0) fun v21 =>
        Option.bind (nwo h20 2) fun h22 =>
        Option.bind (ckd h22 2 (hN h20 : Int)) fun u24 =>
        Option.bind (f_X2_init h22 (hN h20 : Int)) fun r23 =>
        Option.bind (asr r23.2 12 v21 x1 (hN h20 : Int)) fun h25 =>
        f_X1_putIntoMagazines_j90 h25 x0 x1 x2
      )
    ) else (
      Option.bind (ckd r7.2 1 x0) fun u27 =>
      Option.bind (f_X1_changePlaces r7.2 x0 x1) fun r26 =>
      f_X1_putIntoMagazines_j90 r26.2 x0 x1 x2
    )
  )
abbrev w_X1_putIntoMagazines : List Cond := Cond.code yX1_putIntoMagazines cX1_putIntoMagazines 3 (some .boolean) :: BW
abbrev rm_X1_putIntoMagazines : Room := { frames := 2, cells := 2, slots := 6, locals := 41 }
set_option maxHeartbeats 4000000 in
set_option maxRecDepth 100000 in
theorem c_X1_putIntoMagazines (l : Launch) (D : va_G) (G : Nat → ClassId) (base : Nat) (h h' : Hp) (x0 x1 x2 : Int) (rv : Int) (i_x1 : inr x1) (i_x2 : inr x2) (hrun : f_X1_putIntoMagazines h x0 x1 x2 = some (rv, h')) : Met l yX1_putIntoMagazines w_X1_putIntoMagazines rm_X1_putIntoMagazines (PC l D G base h [vr x0, vi x1, vi x2]) (QR D G base (some (vi rv)) (inr rv) h') rm_X1_putIntoMagazines.cells rm_X1_putIntoMagazines.slots (Ab base) := by
  refine Met.ofW (cc := cX1_putIntoMagazines) (maxL := 3) (ret := (some .boolean)) (by decide) rfl ?_
  intro p e s m args below meth c s₁ B hml hv
  obtain ⟨hargs, hE, hM⟩ := hv
  have hx := B.exec
  have hb := B.bytes
  have hr := B.returns
  have hts0 := atoms_spec (ws := w_X1_putIntoMagazines) B.pre
  have hts : ∀ w ∈ BW, w.before args s = true := fun w hw => hts0 w (List.mem_cons_of_mem _ hw)
  have hown : s.vm.findClass RX1 = some m.cls := findClass_of_methodNamed B.named
  have hlocks := B.notSynchronized
  have j90 : ∀ (h : Hp) (x0 x1 x2 : Int) (H : Heap) (locs : List Loc) (ls : Array Slot), inr x1 → inr x2 → SM D G base h H → va_S (Ab base) s.heap H locs → lvh ls 3 [(0, vr x0), (1, vi x1), (2, vi x2)] → f_X1_putIntoMagazines_j90 h x0 x1 x2 = some (rv, h') → W p l e (headSpec w_X1_putIntoMagazines rm_X1_putIntoMagazines).room s m args below meth c H locs 2 6 (QI D G base rv h' below args s 2 6) (F0 m 90 ls []) := by
    intro h x0 x1 x2 H locs ls i_x1 i_x2 hM hS hl hrun
    unfold f_X1_putIntoMagazines_j90 at hrun
    refine s_aload_n hx hb dX1_putIntoMagazines_90 rfl (la hl 0 rfl) ?_
    obtain ⟨v28, g28, hrun⟩ := bd hrun
    refine s_getfr hx hb hts kl_1 hown hE.1 hM (ci := 1) rfl (by decide) rfl (k := 13) (by decide) rfl (hts _ kw_311) g28 dX1_putIntoMagazines_91 ?_
    refine lv_iload_n hx hb dX1_putIntoMagazines_94 rfl (la hl 1 rfl) ?_
    obtain ⟨v29, g29, hrun⟩ := bd hrun
    refine s_aald hx hb hE.1 hM (kd := 12) (by decide) rfl i_x1 g29 dX1_putIntoMagazines_95 ?_
    refine lv_iload_n hx hb dX1_putIntoMagazines_96 rfl (la hl 2 rfl) ?_
    obtain ⟨u31, g31, hrun⟩ := bd hrun
    obtain ⟨r30, g30, hrun⟩ := bd hrun
    refine s_callV (n := 1) (rest := []) [vi x2] hx hb hml hown hts hE hM hS (c_X2_put l D G base h r30.2 v29 x2 r30.1 i_x2 g30) kw_567 kw_564 kw_47 kw_565 kw_566 (by decide +kernel) ⟨Nat.le_of_ble_eq_true rfl, Nat.le_of_ble_eq_true rfl⟩ rfl rfl (by decide) g31 rfl hl.1.1 rfl (c8 c_0 (Nat.le_of_ble_eq_true rfl)) dX1_putIntoMagazines_97 ⟨Nat.le_of_ble_eq_true rfl, Nat.le_of_ble_eq_true rfl⟩ (fun H locs i_r30 hM hS => ?_)
    refine W.eq (g2 := F0 m 100 ls [vi r30.1]) rfl ?_
    exact s_zret hx hb hr hlocks hM hS i_r30 hrun (Nat.le_of_ble_eq_true rfl) (Nat.le_of_ble_eq_true rfl) dX1_putIntoMagazines_100
  refine s_entry hargs hM (c_r (c_i (c_i c_0))) (Nat.le_of_ble_eq_true rfl) (fun H locs ls hM hS hl => ?_)
  replace hl : lvh ls 3 [(0, vr x0), (1, vi x1), (2, vi x2)] := hl
  unfold f_X1_putIntoMagazines at hrun
  refine s_aload_n hx hb dX1_putIntoMagazines_0 rfl (la hl 0 rfl) ?_
  obtain ⟨v1, g1, hrun⟩ := bd hrun
  refine s_getfr hx hb hts kl_1 hown hE.1 hM (ci := 1) rfl (by decide) rfl (k := 13) (by decide) rfl (hts _ kw_311) g1 dX1_putIntoMagazines_1 ?_
  refine lv_iload_n hx hb dX1_putIntoMagazines_4 rfl (la hl 1 rfl) ?_
  obtain ⟨v2, g2, hrun⟩ := bd hrun
  refine s_aald hx hb hE.1 hM (kd := 12) (by decide) rfl i_x1 g2 dX1_putIntoMagazines_5 ?_
  obtain ⟨u4, g4, hrun⟩ := bd hrun
  obtain ⟨r3, g3, hrun⟩ := bd hrun
  refine s_callV (n := 0) (rest := []) [] hx hb hml hown hts hE hM hS (c_X2_isFull l D G base h r3.2 v2 r3.1 g3) kw_563 kw_560 kw_47 kw_561 kw_562 (by decide +kernel) ⟨Nat.le_of_ble_eq_true rfl, Nat.le_of_ble_eq_true rfl⟩ rfl rfl (by decide) g4 rfl hl.1.1 rfl (c8 c_0 (Nat.le_of_ble_eq_true rfl)) dX1_putIntoMagazines_6 ⟨Nat.le_of_ble_eq_true rfl, Nat.le_of_ble_eq_true rfl⟩ (fun H locs i_r3 hM hS => ?_)
  refine W.eq (g2 := F0 m 9 ls [vi r3.1]) rfl ?_
  refine s_if_eq (tgt := 90) hx hb dX1_putIntoMagazines_9 (by decide) i_r3 (fun cd => ?_) (fun cd => ?_)
  · replace hrun := it_pos cd hrun
    refine W.widen (k := 2) (n := 6) (Nat.le_of_ble_eq_true rfl) (Nat.le_of_ble_eq_true rfl) ?_
    exact j90 r3.2 x0 x1 x2 H locs ls i_x1 i_x2 hM hS (lsub hl [0, 1, 2] rfl) hrun
  · replace hrun := it_neg cd hrun
    refine s_aload_n hx hb dX1_putIntoMagazines_12 rfl (la hl 0 rfl) ?_
    obtain ⟨v5, g5, hrun⟩ := bd hrun
    refine s_getfr hx hb hts kl_1 hown hE.1 hM (ci := 1) rfl (by decide) rfl (k := 14) (by decide) rfl (hts _ kw_313) g5 dX1_putIntoMagazines_13 ?_
    refine lv_iload_n hx hb dX1_putIntoMagazines_16 rfl (la hl 1 rfl) ?_
    obtain ⟨v6, g6, hrun⟩ := bd hrun
    refine s_aald hx hb hE.1 hM (kd := 12) (by decide) rfl i_x1 g6 dX1_putIntoMagazines_17 ?_
    obtain ⟨u8, g8, hrun⟩ := bd hrun
    obtain ⟨r7, g7, hrun⟩ := bd hrun
    refine s_callV (n := 0) (rest := []) [] hx hb hml hown hts hE hM hS (c_X2_isFull l D G base r3.2 r7.2 v6 r7.1 g7) kw_563 kw_560 kw_47 kw_561 kw_562 (by decide +kernel) ⟨Nat.le_of_ble_eq_true rfl, Nat.le_of_ble_eq_true rfl⟩ rfl rfl (by decide) g8 rfl hl.1.1 rfl (c8 c_0 (Nat.le_of_ble_eq_true rfl)) dX1_putIntoMagazines_18 ⟨Nat.le_of_ble_eq_true rfl, Nat.le_of_ble_eq_true rfl⟩ (fun H locs i_r7 hM hS => ?_)
    refine W.eq (g2 := F0 m 21 ls [vi r7.1]) rfl ?_
    refine s_if_ne (tgt := 32) hx hb dX1_putIntoMagazines_21 (by decide) i_r7 (fun cd => ?_) (fun cd => ?_)
    · replace hrun := it_pos cd hrun
      refine s_aload_n hx hb dX1_putIntoMagazines_32 rfl (la hl 0 rfl) ?_
      obtain ⟨v9, g9, hrun⟩ := bd hrun
      refine s_getfi hx hb hts kl_1 hown hE.1 hM (ci := 1) rfl (by decide) rfl (k := 16) (by decide) rfl (hts _ kw_316) g9 dX1_putIntoMagazines_33 ?_
      have i_v9 : inr v9 := gtf_i hM g9 (by decide) rfl
      refine lv_iconst (v := Int32.ofInt 3) hx hb dX1_putIntoMagazines_36 rfl ?_
      refine s_icmp_ge (tgt := 90) hx hb dX1_putIntoMagazines_37 (by decide) i_v9 (by decide) (fun cd => ?_) (fun cd => ?_)
      · replace hrun := it_pos cd hrun
        refine W.widen (k := 2) (n := 6) (Nat.le_of_ble_eq_true rfl) (Nat.le_of_ble_eq_true rfl) ?_
        exact j90 r7.2 x0 x1 x2 H locs ls i_x1 i_x2 hM hS (lsub hl [0, 1, 2] rfl) hrun
      · replace hrun := it_neg cd hrun
        refine s_aload_n hx hb dX1_putIntoMagazines_40 rfl (la hl 0 rfl) ?_
        obtain ⟨v10, g10, hrun⟩ := bd hrun
        refine s_getfr hx hb hts kl_1 hown hE.1 hM (ci := 1) rfl (by decide) rfl (k := 15) (by decide) rfl (hts _ kw_315) g10 dX1_putIntoMagazines_41 ?_
        refine s_aload_n hx hb dX1_putIntoMagazines_44 rfl (la hl 0 rfl) ?_
        obtain ⟨v11, g11, hrun⟩ := bd hrun
        refine s_getfi hx hb hts kl_1 hown hE.1 hM (ci := 1) rfl (by decide) rfl (k := 16) (by decide) rfl (hts _ kw_316) g11 dX1_putIntoMagazines_45 ?_
        have i_v11 : inr v11 := gtf_i hM g11 (by decide) rfl
        refine s_aload_n hx hb dX1_putIntoMagazines_48 rfl (la hl 0 rfl) ?_
        obtain ⟨v12, g12, hrun⟩ := bd hrun
        refine s_getfr hx hb hts kl_1 hown hE.1 hM (ci := 1) rfl (by decide) rfl (k := 14) (by decide) rfl (hts _ kw_313) g12 dX1_putIntoMagazines_49 ?_
        refine lv_iload_n hx hb dX1_putIntoMagazines_52 rfl (la hl 1 rfl) ?_
        obtain ⟨v13, g13, hrun⟩ := bd hrun
        refine s_aald hx hb hE.1 hM (kd := 12) (by decide) rfl i_x1 g13 dX1_putIntoMagazines_53 ?_
        obtain ⟨h14, g14, hrun⟩ := bd hrun
        refine s_aast hx hb hE.1 hM hS (kd := 12) (ci := 2) (by decide) (by decide) rfl rfl rfl i_v11 g14 dX1_putIntoMagazines_54 (fun H locs hM hS => ?_)
        refine s_aload_n hx hb dX1_putIntoMagazines_55 rfl (la hl 0 rfl) ?_
        refine lv_dup hx hb dX1_putIntoMagazines_56 (vr_cat _) ?_
        obtain ⟨v15, g15, hrun⟩ := bd hrun
        refine s_getfi hx hb hts kl_1 hown hE.1 hM (ci := 1) rfl (by decide) rfl (k := 16) (by decide) rfl (hts _ kw_316) g15 dX1_putIntoMagazines_57 ?_
        have i_v15 : inr v15 := gtf_i hM g15 (by decide) rfl
        refine lv_iconst (v := Int32.ofInt 1) hx hb dX1_putIntoMagazines_60 rfl ?_
        refine s_iadd hx hb dX1_putIntoMagazines_61 ?_
        obtain ⟨h16, g16, hrun⟩ := bd hrun
        refine s_put (b := false) hx hb hts kl_1 tyX1 tyX1_ok nmX1 hown hE.1 hM hS (ci := 1) rfl (by decide) rfl (k := 16) (by decide) rfl (hts _ kw_316) rfl (vp_nar_int _) rfl (fun _ => (inr_wr _)) g16 dX1_putIntoMagazines_62 (fun H locs hM hS => ?_)
        refine s_aload_n hx hb dX1_putIntoMagazines_65 rfl (la hl 0 rfl) ?_
        obtain ⟨v17, g17, hrun⟩ := bd hrun
        refine s_getfr hx hb hts kl_1 hown hE.1 hM (ci := 1) rfl (by decide) rfl (k := 14) (by decide) rfl (hts _ kw_313) g17 dX1_putIntoMagazines_66 ?_
        refine lv_iload_n hx hb dX1_putIntoMagazines_69 rfl (la hl 1 rfl) ?_
        refine s_aload_n hx hb dX1_putIntoMagazines_70 rfl (la hl 0 rfl) ?_
        obtain ⟨v18, g18, hrun⟩ := bd hrun
        refine s_getfr hx hb hts kl_1 hown hE.1 hM (ci := 1) rfl (by decide) rfl (k := 13) (by decide) rfl (hts _ kw_311) g18 dX1_putIntoMagazines_71 ?_
        refine lv_iload_n hx hb dX1_putIntoMagazines_74 rfl (la hl 1 rfl) ?_
        obtain ⟨v19, g19, hrun⟩ := bd hrun
        refine s_aald hx hb hE.1 hM (kd := 12) (by decide) rfl i_x1 g19 dX1_putIntoMagazines_75 ?_
        obtain ⟨h20, g20, hrun⟩ := bd hrun
        refine s_aast hx hb hE.1 hM hS (kd := 12) (ci := 2) (by decide) (by decide) rfl rfl rfl i_x1 g20 dX1_putIntoMagazines_76 (fun H locs hM hS => ?_)
        refine s_aload_n hx hb dX1_putIntoMagazines_77 rfl (la hl 0 rfl) ?_
        obtain ⟨v21, g21, hrun⟩ := bd hrun
        refine s_getfr hx hb hts kl_1 hown hE.1 hM (ci := 1) rfl (by decide) rfl (k := 13) (by decide) rfl (hts _ kw_311) g21 dX1_putIntoMagazines_78 ?_
        refine lv_iload_n hx hb dX1_putIntoMagazines_81 rfl (la hl 1 rfl) ?_
        obtain ⟨h22, g22, hrun⟩ := bd hrun
        refine s_new hx hb hts kl_2 tyX2 tyX2_ok hown (hts _ kw_259) (hts _ kw_272) (hts _ kw_47) hE.1 hM hS hE.2.1 (ci := 2) rfl (by decide) rfl (by decide) g22 (Nat.le_of_ble_eq_true rfl) (Nat.le_of_ble_eq_true rfl) dX1_putIntoMagazines_82 (fun H hM hS => ?_)
        refine lv_dup hx hb dX1_putIntoMagazines_85 (vr_cat _) ?_
        obtain ⟨u24, g24, hrun⟩ := bd hrun
        obtain ⟨r23, g23, hrun⟩ := bd hrun
        refine s_callIN (n := 0) (rest := [vr (hN h20 : Int), vi x1, vr v21]) [] hx hb hml hown hts hE hM hS (c_X2_init l D G base h22 r23.2 (hN h20 : Int) r23.1 g23) kw_275 hE.2.2.1.2.2 kw_47 kw_274 rfl (by decide +kernel) ⟨Nat.le_of_ble_eq_true rfl, Nat.le_of_ble_eq_true rfl⟩ g24 rfl hl.1.1 rfl (c8 (c_r (c_i (c_r c_0))) (Nat.le_of_ble_eq_true rfl)) dX1_putIntoMagazines_86 ⟨Nat.le_of_ble_eq_true rfl, Nat.le_of_ble_eq_true rfl⟩ (fun H locs i_r23 hM hS => ?_)
        refine W.eq (g2 := F0 m 89 ls [vr (hN h20 : Int), vi x1, vr v21]) rfl ?_
        obtain ⟨h25, g25, hrun⟩ := bd hrun
        refine s_aast hx hb hE.1 hM hS (kd := 12) (ci := 2) (by decide) (by decide) rfl rfl rfl i_x1 g25 dX1_putIntoMagazines_89 (fun H locs hM hS => ?_)
        exact j90 h25 x0 x1 x2 H locs ls i_x1 i_x2 hM hS (lsub hl [0, 1, 2] rfl) hrun
    · replace hrun := it_neg cd hrun
      refine s_aload_n hx hb dX1_putIntoMagazines_24 rfl (la hl 0 rfl) ?_
      refine lv_iload_n hx hb dX1_putIntoMagazines_25 rfl (la hl 1 rfl) ?_
      obtain ⟨u27, g27, hrun⟩ := bd hrun
      obtain ⟨r26, g26, hrun⟩ := bd hrun
      refine s_callV (n := 1) (rest := []) [vi x1] hx hb hml hown hts hE hM hS (c_X1_changePlaces l D G base r7.2 r26.2 x0 x1 r26.1 i_x1 g26) kw_416 kw_413 kw_45 kw_415 kw_8 (by decide +kernel) ⟨Nat.le_of_ble_eq_true rfl, Nat.le_of_ble_eq_true rfl⟩ rfl rfl (by decide) g27 rfl hl.1.1 rfl (c8 c_0 (Nat.le_of_ble_eq_true rfl)) dX1_putIntoMagazines_26 ⟨Nat.le_of_ble_eq_true rfl, Nat.le_of_ble_eq_true rfl⟩ (fun H locs i_r26 hM hS => ?_)
      refine W.eq (g2 := F0 m 29 ls []) rfl ?_
      refine lv_goto (tgt := 90) hx hb dX1_putIntoMagazines_29 (by decide) ?_
      refine W.widen (k := 2) (n := 6) (Nat.le_of_ble_eq_true rfl) (Nat.le_of_ble_eq_true rfl) ?_
      exact j90 r26.2 x0 x1 x2 H locs ls i_x1 i_x2 hM hS (lsub hl [0, 1, 2] rfl) hrun
def f_X1_inMagazines_s9 (k9 : Hp → Int → Int → Int → Option (Int × Hp)) (h : Hp) (x0 x1 x2 : Int) : Option (Int × Hp) :=
  if 4 ≤ x2 then (
    some (x1, h)
  ) else (
    Option.bind (gtf h 1 13 x0) fun v2 =>
    Option.bind (ald h 12 v2 x2) fun v3 =>
    Option.bind (gtf h 2 1 v3) fun v4 =>
    Option.bind (gtf h 1 14 x0) fun v5 =>
    Option.bind (ald h 12 v5 x2) fun v6 =>
    Option.bind (gtf h 2 1 v6) fun v7 =>
    k9 h x0 (wr (x1 + (wr (v4 + v7)))) (wr (x2 + 1))
  )
def f_X1_inMagazines_b9 : Nat → Hp → Int → Int → Int → Option (Int × Hp)
  | 0, _, _, _, _ => none
  | n + 1, h, x0, x1, x2 => f_X1_inMagazines_s9 (f_X1_inMagazines_b9 n) h x0 x1 x2
def f_X1_inMagazines (h : Hp) (x0 : Int) : Option (Int × Hp) :=
  Option.bind (gtf h 1 16 x0) fun v1 =>
  f_X1_inMagazines_b9 fuel h x0 (wr (v1 * 4)) 0
abbrev w_X1_inMagazines : List Cond := Cond.code yX1_inMagazines cX1_inMagazines 3 (some .int) :: BW
abbrev rm_X1_inMagazines : Room := { frames := 0, cells := 0, slots := 0, locals := 0 }
set_option maxHeartbeats 4000000 in
set_option maxRecDepth 100000 in
theorem c_X1_inMagazines (l : Launch) (D : va_G) (G : Nat → ClassId) (base : Nat) (h h' : Hp) (x0 : Int) (rv : Int) (hrun : f_X1_inMagazines h x0 = some (rv, h')) : Met l yX1_inMagazines w_X1_inMagazines rm_X1_inMagazines (PC l D G base h [vr x0]) (QR D G base (some (vi rv)) (inr rv) h') rm_X1_inMagazines.cells rm_X1_inMagazines.slots (Ab base) := by
  refine Met.ofW (cc := cX1_inMagazines) (maxL := 3) (ret := (some .int)) (by decide) rfl ?_
  intro p e s m args below meth c s₁ B hml hv
  obtain ⟨hargs, hE, hM⟩ := hv
  have hx := B.exec
  have hb := B.bytes
  have hr := B.returns
  have hts0 := atoms_spec (ws := w_X1_inMagazines) B.pre
  have hts : ∀ w ∈ BW, w.before args s = true := fun w hw => hts0 w (List.mem_cons_of_mem _ hw)
  have hown : s.vm.findClass RX1 = some m.cls := findClass_of_methodNamed B.named
  have hlocks := B.notSynchronized
  have lp9 : ∀ (n9 : Nat) (h : Hp) (x0 x1 x2 : Int) (H : Heap) (locs : List Loc) (ls : Array Slot), inr x1 → inr x2 → SM D G base h H → va_S (Ab base) s.heap H locs → lvh ls 3 [(0, vr x0), (1, vi x1), (2, vi x2)] → f_X1_inMagazines_b9 n9 h x0 x1 x2 = some (rv, h') → W p l e (headSpec w_X1_inMagazines rm_X1_inMagazines).room s m args below meth c H locs 0 0 (QI D G base rv h' below args s 0 0) (F0 m 9 ls []) := by
    intro n9
    induction n9 with
    | zero => intro h x0 x1 x2 H locs ls i_x1 i_x2 hM hS hl hrun; exact absurd hrun (fun q => nomatch (show (none : Option (Int × Hp)) = some (rv, h') from q))
    | succ n9 ih9 =>
      intro h x0 x1 x2 H locs ls i_x1 i_x2 hM hS hl hrun
      replace hrun : f_X1_inMagazines_s9 (f_X1_inMagazines_b9 n9) h x0 x1 x2 = some (rv, h') := hrun
      unfold f_X1_inMagazines_s9 at hrun
      refine lv_iload_n hx hb dX1_inMagazines_9 rfl (la hl 2 rfl) ?_
      refine lv_iconst (v := Int32.ofInt 4) hx hb dX1_inMagazines_10 rfl ?_
      refine s_icmp_ge (tgt := 42) hx hb dX1_inMagazines_11 (by decide) i_x2 (by decide) (fun cd => ?_) (fun cd => ?_)
      · replace hrun := it_pos cd hrun
        refine lv_iload_n hx hb dX1_inMagazines_42 rfl (la hl 1 rfl) ?_
        exact s_iret hx hb hr hlocks hM hS i_x1 hrun (Nat.le_of_ble_eq_true rfl) (Nat.le_of_ble_eq_true rfl) dX1_inMagazines_43
      · replace hrun := it_neg cd hrun
        refine lv_iload_n hx hb dX1_inMagazines_14 rfl (la hl 1 rfl) ?_
        refine s_aload_n hx hb dX1_inMagazines_15 rfl (la hl 0 rfl) ?_
        obtain ⟨v2, g2, hrun⟩ := bd hrun
        refine s_getfr hx hb hts kl_1 hown hE.1 hM (ci := 1) rfl (by decide) rfl (k := 13) (by decide) rfl (hts _ kw_311) g2 dX1_inMagazines_16 ?_
        refine lv_iload_n hx hb dX1_inMagazines_19 rfl (la hl 2 rfl) ?_
        obtain ⟨v3, g3, hrun⟩ := bd hrun
        refine s_aald hx hb hE.1 hM (kd := 12) (by decide) rfl i_x2 g3 dX1_inMagazines_20 ?_
        obtain ⟨v4, g4, hrun⟩ := bd hrun
        refine s_getfi hx hb hts kl_2 hown hE.1 hM (ci := 2) rfl (by decide) rfl (k := 1) (by decide) rfl (hts _ kw_279) g4 dX1_inMagazines_21 ?_
        have i_v4 : inr v4 := gtf_i hM g4 (by decide) rfl
        refine s_aload_n hx hb dX1_inMagazines_24 rfl (la hl 0 rfl) ?_
        obtain ⟨v5, g5, hrun⟩ := bd hrun
        refine s_getfr hx hb hts kl_1 hown hE.1 hM (ci := 1) rfl (by decide) rfl (k := 14) (by decide) rfl (hts _ kw_313) g5 dX1_inMagazines_25 ?_
        refine lv_iload_n hx hb dX1_inMagazines_28 rfl (la hl 2 rfl) ?_
        obtain ⟨v6, g6, hrun⟩ := bd hrun
        refine s_aald hx hb hE.1 hM (kd := 12) (by decide) rfl i_x2 g6 dX1_inMagazines_29 ?_
        obtain ⟨v7, g7, hrun⟩ := bd hrun
        refine s_getfi hx hb hts kl_2 hown hE.1 hM (ci := 2) rfl (by decide) rfl (k := 1) (by decide) rfl (hts _ kw_279) g7 dX1_inMagazines_30 ?_
        have i_v7 : inr v7 := gtf_i hM g7 (by decide) rfl
        refine s_iadd hx hb dX1_inMagazines_33 ?_
        refine s_iadd hx hb dX1_inMagazines_34 ?_
        refine t_istore_n (lv' := [(1, vi (wr (x1 + (wr (v4 + v7))))), (0, vr x0), (2, vi x2)]) hx hb dX1_inMagazines_35 rfl hl (by decide) rfl (fun ls hl => ?_)
        refine t_iinc (lv' := [(2, vi (wr (x2 + 1))), (1, vi (wr (x1 + (wr (v4 + v7))))), (0, vr x0)]) hx hb dX1_inMagazines_36 hl (k := 2) rfl (by decide) rfl rfl (fun ls hl => ?_)
        refine lv_goto (tgt := 9) hx hb dX1_inMagazines_39 (by decide) ?_
        exact ih9 h x0 (wr (x1 + (wr (v4 + v7)))) (wr (x2 + 1)) H locs ls (inr_wr _) (inr_wr _) hM hS (lsub hl [2, 1, 0] rfl) hrun
  refine s_entry hargs hM (c_r c_0) (Nat.le_of_ble_eq_true rfl) (fun H locs ls hM hS hl => ?_)
  replace hl : lvh ls 3 [(0, vr x0)] := hl
  unfold f_X1_inMagazines at hrun
  refine s_aload_n hx hb dX1_inMagazines_0 rfl (la hl 0 rfl) ?_
  obtain ⟨v1, g1, hrun⟩ := bd hrun
  refine s_getfi hx hb hts kl_1 hown hE.1 hM (ci := 1) rfl (by decide) rfl (k := 16) (by decide) rfl (hts _ kw_316) g1 dX1_inMagazines_1 ?_
  have i_v1 : inr v1 := gtf_i hM g1 (by decide) rfl
  refine lv_iconst (v := Int32.ofInt 4) hx hb dX1_inMagazines_4 rfl ?_
  refine s_imul hx hb dX1_inMagazines_5 ?_
  refine t_istore_n (lv' := [(1, vi (wr (v1 * 4))), (0, vr x0)]) hx hb dX1_inMagazines_6 rfl hl (by decide) rfl (fun ls hl => ?_)
  refine lv_iconst (v := Int32.ofInt 0) hx hb dX1_inMagazines_7 rfl ?_
  refine t_istore_n (lv' := [(2, vi 0), (1, vi (wr (v1 * 4))), (0, vr x0)]) hx hb dX1_inMagazines_8 rfl hl (by decide) rfl (fun ls hl => ?_)
  exact lp9 fuel h x0 (wr (v1 * 4)) 0 H locs ls (inr_wr _) (by decide) hM hS (lsub hl [2, 1, 0] rfl) hrun
