def f_X6_giveSlab_s50 (k50 : Hp → Int → Int → Int → Int → Option (Int × Hp)) (h : Hp) (x0 x1 x2 x3 : Int) : Option (Int × Hp) :=
  Option.bind (gtf h 6 7 x0) fun v13 =>
  Option.bind (ald h 8 v13 x2) fun v14 =>
  if (wr (x1 + (ish 1 v14))) ≤ x3 then (
    Option.bind (gtf h 6 7 x0) fun v15 =>
    Option.bind (ald h 8 v15 x2) fun v16 =>
    Option.bind (ckd h 6 x0) fun u18 =>
    Option.bind (f_X6_giveBlock h x0 x1 v16) fun r17 =>
    Option.bind (gtf r17.2 6 7 x0) fun v19 =>
    Option.bind (ald r17.2 8 v19 x2) fun v20 =>
    some (ish 1 v20, r17.2)
  ) else (
    Option.bind (gtf h 6 2 x0) fun v21 =>
    Option.bind (ast h 8 v21 x3 (-1)) fun h22 =>
    k50 h22 x0 x1 x2 (wr (x3 + 1))
  )
def f_X6_giveSlab_b50 : Nat → Hp → Int → Int → Int → Int → Option (Int × Hp)
  | 0, _, _, _, _, _ => none
  | n + 1, h, x0, x1, x2, x3 => f_X6_giveSlab_s50 (f_X6_giveSlab_b50 n) h x0 x1 x2 x3
def f_X6_giveSlab_s20 (k20 : Hp → Int → Int → Int → Int → Option (Int × Hp)) (h : Hp) (x0 x1 x2 x3 : Int) : Option (Int × Hp) :=
  Option.bind (gtf h 6 10 x0) fun v7 =>
  Option.bind (ald h 8 v7 x2) fun v8 =>
  if v8 ≤ x3 then (
    f_X6_giveSlab_b50 fuel h x0 x1 x2 x1
  ) else (
    Option.bind (gtf h 6 18 x0) fun v9 =>
    Option.bind (ckd h 6 x0) fun u11 =>
    Option.bind (f_X6_unitOf h x0 x1 x3) fun r10 =>
    Option.bind (ast r10.2 8 v9 r10.1 0) fun h12 =>
    k20 h12 x0 x1 x2 (wr (x3 + 1))
  )
def f_X6_giveSlab_b20 : Nat → Hp → Int → Int → Int → Int → Option (Int × Hp)
  | 0, _, _, _, _, _ => none
  | n + 1, h, x0, x1, x2, x3 => f_X6_giveSlab_s20 (f_X6_giveSlab_b20 n) h x0 x1 x2 x3
def f_X6_giveSlab (h : Hp) (x0 x1 : Int) : Option (Int × Hp) :=
  Option.bind (gtf h 6 14 x0) fun v1 =>
  Option.bind (ald h 8 v1 x1) fun v2 =>
  Option.bind (ckd h 6 x0) fun u4 =>
  Option.bind (f_X6_whichOf h x0 x1) fun r3 =>
  Option.bind (ckd r3.2 6 x0) fun u6 =>
  Option.bind (f_X6_leave r3.2 x0 v2 r3.1 x1) fun r5 =>
  f_X6_giveSlab_b20 fuel r5.2 x0 x1 v2 0
abbrev w_X6_giveSlab : List Cond := Cond.code yX6_giveSlab cX6_giveSlab 4 (some .int) :: BW
abbrev rm_X6_giveSlab : Room := { frames := 1, cells := 0, slots := 0, locals := 26 }
set_option maxHeartbeats 4000000 in
set_option maxRecDepth 100000 in
theorem c_X6_giveSlab (l : Launch) (D : va_G) (G : Nat → ClassId) (base : Nat) (h h' : Hp) (x0 x1 : Int) (rv : Int) (i_x1 : inr x1) (hrun : f_X6_giveSlab h x0 x1 = some (rv, h')) : Met l yX6_giveSlab w_X6_giveSlab rm_X6_giveSlab (PC l D G base h [vr x0, vi x1]) (QR D G base (some (vi rv)) (inr rv) h') rm_X6_giveSlab.cells rm_X6_giveSlab.slots (Ab base) := by
  refine Met.ofW (cc := cX6_giveSlab) (maxL := 4) (ret := (some .int)) (by decide) rfl ?_
  intro p e s m args below meth c s₁ B hml hv
  obtain ⟨hargs, hE, hM⟩ := hv
  have hx := B.exec
  have hb := B.bytes
  have hr := B.returns
  have hts0 := atoms_spec (ws := w_X6_giveSlab) B.pre
  have hts : ∀ w ∈ BW, w.before args s = true := fun w hw => hts0 w (List.mem_cons_of_mem _ hw)
  have hown : s.vm.findClass RX6 = some m.cls := findClass_of_methodNamed B.named
  have hlocks := B.notSynchronized
  have lp50 : ∀ (n50 : Nat) (h : Hp) (x0 x1 x2 x3 : Int) (H : Heap) (locs : List Loc) (ls : Array Slot), inr x1 → inr x2 → inr x3 → SM D G base h H → va_S (Ab base) s.heap H locs → lvh ls 4 [(0, vr x0), (1, vi x1), (2, vi x2), (3, vi x3)] → f_X6_giveSlab_b50 n50 h x0 x1 x2 x3 = some (rv, h') → W p l e (headSpec w_X6_giveSlab rm_X6_giveSlab).room s m args below meth c H locs 0 0 (QI D G base rv h' below args s 0 0) (F0 m 50 ls []) := by
    intro n50
    induction n50 with
    | zero => intro h x0 x1 x2 x3 H locs ls i_x1 i_x2 i_x3 hM hS hl hrun; exact absurd hrun (fun q => nomatch (show (none : Option (Int × Hp)) = some (rv, h') from q))
    | succ n50 ih50 =>
      intro h x0 x1 x2 x3 H locs ls i_x1 i_x2 i_x3 hM hS hl hrun
      replace hrun : f_X6_giveSlab_s50 (f_X6_giveSlab_b50 n50) h x0 x1 x2 x3 = some (rv, h') := hrun
      unfold f_X6_giveSlab_s50 at hrun
      refine lv_iload_n hx hb dX6_giveSlab_50 rfl (la hl 3 rfl) ?_
      refine lv_iload_n hx hb dX6_giveSlab_51 rfl (la hl 1 rfl) ?_
      refine lv_iconst (v := Int32.ofInt 1) hx hb dX6_giveSlab_52 rfl ?_
      refine s_aload_n hx hb dX6_giveSlab_53 rfl (la hl 0 rfl) ?_
      obtain ⟨v13, g13, hrun⟩ := bd hrun
      refine s_getfr hx hb hts kl_6 hown hE.1 hM (ci := 6) rfl (by decide) rfl (k := 7) (by decide) rfl (hts _ kw_675) g13 dX6_giveSlab_54 ?_
      refine lv_iload_n hx hb dX6_giveSlab_57 rfl (la hl 2 rfl) ?_
      obtain ⟨v14, g14, hrun⟩ := bd hrun
      refine s_iald hx hb hE.1 hM i_x2 g14 dX6_giveSlab_58 ?_
      have i_v14 : inr v14 := ald_i hM g14 (by decide) (by decide)
      refine s_ishl hx hb dX6_giveSlab_59 ?_
      refine s_iadd hx hb dX6_giveSlab_60 ?_
      refine s_icmp_ge (tgt := 77) hx hb dX6_giveSlab_61 (by decide) i_x3 (inr_wr _) (fun cd => ?_) (fun cd => ?_)
      · replace hrun := it_pos cd hrun
        refine s_aload_n hx hb dX6_giveSlab_77 rfl (la hl 0 rfl) ?_
        refine lv_iload_n hx hb dX6_giveSlab_78 rfl (la hl 1 rfl) ?_
        refine s_aload_n hx hb dX6_giveSlab_79 rfl (la hl 0 rfl) ?_
        obtain ⟨v15, g15, hrun⟩ := bd hrun
        refine s_getfr hx hb hts kl_6 hown hE.1 hM (ci := 6) rfl (by decide) rfl (k := 7) (by decide) rfl (hts _ kw_675) g15 dX6_giveSlab_80 ?_
        refine lv_iload_n hx hb dX6_giveSlab_83 rfl (la hl 2 rfl) ?_
        obtain ⟨v16, g16, hrun⟩ := bd hrun
        refine s_iald hx hb hE.1 hM i_x2 g16 dX6_giveSlab_84 ?_
        have i_v16 : inr v16 := ald_i hM g16 (by decide) (by decide)
        obtain ⟨u18, g18, hrun⟩ := bd hrun
        obtain ⟨r17, g17, hrun⟩ := bd hrun
        refine s_callV (n := 2) (rest := []) [vi x1, vi v16] hx hb hml hown hts hE hM hS (c_X6_giveBlock l D G base h r17.2 x0 x1 v16 r17.1 i_x1 i_v16 g17) kw_817 kw_814 kw_40 kw_816 kw_27 (by decide +kernel) ⟨Nat.le_of_ble_eq_true rfl, Nat.le_of_ble_eq_true rfl⟩ rfl rfl (by decide) g18 rfl hl.1.1 rfl (c8 c_0 (Nat.le_of_ble_eq_true rfl)) dX6_giveSlab_85 ⟨Nat.le_of_ble_eq_true rfl, Nat.le_of_ble_eq_true rfl⟩ (fun H locs i_r17 hM hS => ?_)
        refine W.eq (g2 := F0 m 88 ls []) rfl ?_
        refine lv_iconst (v := Int32.ofInt 1) hx hb dX6_giveSlab_88 rfl ?_
        refine s_aload_n hx hb dX6_giveSlab_89 rfl (la hl 0 rfl) ?_
        obtain ⟨v19, g19, hrun⟩ := bd hrun
        refine s_getfr hx hb hts kl_6 hown hE.1 hM (ci := 6) rfl (by decide) rfl (k := 7) (by decide) rfl (hts _ kw_675) g19 dX6_giveSlab_90 ?_
        refine lv_iload_n hx hb dX6_giveSlab_93 rfl (la hl 2 rfl) ?_
        obtain ⟨v20, g20, hrun⟩ := bd hrun
        refine s_iald hx hb hE.1 hM i_x2 g20 dX6_giveSlab_94 ?_
        have i_v20 : inr v20 := ald_i hM g20 (by decide) (by decide)
        refine s_ishl hx hb dX6_giveSlab_95 ?_
        exact s_iret hx hb hr hlocks hM hS (inr_sh _ _) hrun (Nat.le_of_ble_eq_true rfl) (Nat.le_of_ble_eq_true rfl) dX6_giveSlab_96
      · replace hrun := it_neg cd hrun
        refine s_aload_n hx hb dX6_giveSlab_64 rfl (la hl 0 rfl) ?_
        obtain ⟨v21, g21, hrun⟩ := bd hrun
        refine s_getfr hx hb hts kl_6 hown hE.1 hM (ci := 6) rfl (by decide) rfl (k := 2) (by decide) rfl (hts _ kw_670) g21 dX6_giveSlab_65 ?_
        refine lv_iload_n hx hb dX6_giveSlab_68 rfl (la hl 3 rfl) ?_
        refine lv_iconst (v := Int32.ofInt (-1)) hx hb dX6_giveSlab_69 rfl ?_
        obtain ⟨h22, g22, hrun⟩ := bd hrun
        refine s_iast hx hb hE.1 hM hS i_x3 (by decide) g22 dX6_giveSlab_70 (fun H locs hM hS => ?_)
        refine t_iinc (lv' := [(3, vi (wr (x3 + 1))), (0, vr x0), (1, vi x1), (2, vi x2)]) hx hb dX6_giveSlab_71 hl (k := 3) rfl (by decide) rfl rfl (fun ls hl => ?_)
        refine lv_goto (tgt := 50) hx hb dX6_giveSlab_74 (by decide) ?_
        exact ih50 h22 x0 x1 x2 (wr (x3 + 1)) H locs ls i_x1 i_x2 (inr_wr _) hM hS (lsub hl [1, 2, 3, 0] rfl) hrun
  have lp20 : ∀ (n20 : Nat) (h : Hp) (x0 x1 x2 x3 : Int) (H : Heap) (locs : List Loc) (ls : Array Slot), inr x1 → inr x2 → inr x3 → SM D G base h H → va_S (Ab base) s.heap H locs → lvh ls 4 [(0, vr x0), (1, vi x1), (2, vi x2), (3, vi x3)] → f_X6_giveSlab_b20 n20 h x0 x1 x2 x3 = some (rv, h') → W p l e (headSpec w_X6_giveSlab rm_X6_giveSlab).room s m args below meth c H locs 0 0 (QI D G base rv h' below args s 0 0) (F0 m 20 ls []) := by
    intro n20
    induction n20 with
    | zero => intro h x0 x1 x2 x3 H locs ls i_x1 i_x2 i_x3 hM hS hl hrun; exact absurd hrun (fun q => nomatch (show (none : Option (Int × Hp)) = some (rv, h') from q))
    | succ n20 ih20 =>
      intro h x0 x1 x2 x3 H locs ls i_x1 i_x2 i_x3 hM hS hl hrun
      replace hrun : f_X6_giveSlab_s20 (f_X6_giveSlab_b20 n20) h x0 x1 x2 x3 = some (rv, h') := hrun
      unfold f_X6_giveSlab_s20 at hrun
      refine lv_iload_n hx hb dX6_giveSlab_20 rfl (la hl 3 rfl) ?_
      refine s_aload_n hx hb dX6_giveSlab_21 rfl (la hl 0 rfl) ?_
      obtain ⟨v7, g7, hrun⟩ := bd hrun
      refine s_getfr hx hb hts kl_6 hown hE.1 hM (ci := 6) rfl (by decide) rfl (k := 10) (by decide) rfl (hts _ kw_678) g7 dX6_giveSlab_22 ?_
      refine lv_iload_n hx hb dX6_giveSlab_25 rfl (la hl 2 rfl) ?_
      obtain ⟨v8, g8, hrun⟩ := bd hrun
      refine s_iald hx hb hE.1 hM i_x2 g8 dX6_giveSlab_26 ?_
      have i_v8 : inr v8 := ald_i hM g8 (by decide) (by decide)
      refine s_icmp_ge (tgt := 48) hx hb dX6_giveSlab_27 (by decide) i_x3 i_v8 (fun cd => ?_) (fun cd => ?_)
      · replace hrun := it_pos cd hrun
        refine lv_iload_n hx hb dX6_giveSlab_48 rfl (la hl 1 rfl) ?_
        refine t_istore_n (lv' := [(3, vi x1), (0, vr x0), (1, vi x1), (2, vi x2)]) hx hb dX6_giveSlab_49 rfl hl (by decide) rfl (fun ls hl => ?_)
        exact lp50 fuel h x0 x1 x2 x1 H locs ls i_x1 i_x2 i_x1 hM hS (lsub hl [1, 2, 3, 0] rfl) hrun
      · replace hrun := it_neg cd hrun
        refine s_aload_n hx hb dX6_giveSlab_30 rfl (la hl 0 rfl) ?_
        obtain ⟨v9, g9, hrun⟩ := bd hrun
        refine s_getfr hx hb hts kl_6 hown hE.1 hM (ci := 6) rfl (by decide) rfl (k := 18) (by decide) rfl (hts _ kw_686) g9 dX6_giveSlab_31 ?_
        refine s_aload_n hx hb dX6_giveSlab_34 rfl (la hl 0 rfl) ?_
        refine lv_iload_n hx hb dX6_giveSlab_35 rfl (la hl 1 rfl) ?_
        refine lv_iload_n hx hb dX6_giveSlab_36 rfl (la hl 3 rfl) ?_
        obtain ⟨u11, g11, hrun⟩ := bd hrun
        obtain ⟨r10, g10, hrun⟩ := bd hrun
        refine s_callV (n := 2) (rest := [vr v9]) [vi x1, vi x3] hx hb hml hown hts hE hM hS (c_X6_unitOf l D G base h r10.2 x0 x1 x3 r10.1 i_x1 i_x3 g10) kw_813 kw_810 kw_40 kw_812 kw_26 (by decide +kernel) ⟨Nat.le_of_ble_eq_true rfl, Nat.le_of_ble_eq_true rfl⟩ rfl rfl (by decide) g11 rfl hl.1.1 rfl (c8 (c_r c_0) (Nat.le_of_ble_eq_true rfl)) dX6_giveSlab_37 ⟨Nat.le_of_ble_eq_true rfl, Nat.le_of_ble_eq_true rfl⟩ (fun H locs i_r10 hM hS => ?_)
        refine W.eq (g2 := F0 m 40 ls [vi r10.1, vr v9]) rfl ?_
        refine lv_iconst (v := Int32.ofInt 0) hx hb dX6_giveSlab_40 rfl ?_
        obtain ⟨h12, g12, hrun⟩ := bd hrun
        refine s_iast hx hb hE.1 hM hS i_r10 (by decide) g12 dX6_giveSlab_41 (fun H locs hM hS => ?_)
        refine t_iinc (lv' := [(3, vi (wr (x3 + 1))), (0, vr x0), (1, vi x1), (2, vi x2)]) hx hb dX6_giveSlab_42 hl (k := 3) rfl (by decide) rfl rfl (fun ls hl => ?_)
        refine lv_goto (tgt := 20) hx hb dX6_giveSlab_45 (by decide) ?_
        exact ih20 h12 x0 x1 x2 (wr (x3 + 1)) H locs ls i_x1 i_x2 (inr_wr _) hM hS (lsub hl [1, 2, 3, 0] rfl) hrun
  refine s_entry hargs hM (c_r (c_i c_0)) (Nat.le_of_ble_eq_true rfl) (fun H locs ls hM hS hl => ?_)
  replace hl : lvh ls 4 [(0, vr x0), (1, vi x1)] := hl
  unfold f_X6_giveSlab at hrun
  refine s_aload_n hx hb dX6_giveSlab_0 rfl (la hl 0 rfl) ?_
  obtain ⟨v1, g1, hrun⟩ := bd hrun
  refine s_getfr hx hb hts kl_6 hown hE.1 hM (ci := 6) rfl (by decide) rfl (k := 14) (by decide) rfl (hts _ kw_682) g1 dX6_giveSlab_1 ?_
  refine lv_iload_n hx hb dX6_giveSlab_4 rfl (la hl 1 rfl) ?_
  obtain ⟨v2, g2, hrun⟩ := bd hrun
  refine s_iald hx hb hE.1 hM i_x1 g2 dX6_giveSlab_5 ?_
  have i_v2 : inr v2 := ald_i hM g2 (by decide) (by decide)
  refine t_istore_n (lv' := [(2, vi v2), (0, vr x0), (1, vi x1)]) hx hb dX6_giveSlab_6 rfl hl (by decide) rfl (fun ls hl => ?_)
  refine s_aload_n hx hb dX6_giveSlab_7 rfl (la hl 1 rfl) ?_
  refine lv_iload_n hx hb dX6_giveSlab_8 rfl (la hl 0 rfl) ?_
  refine s_aload_n hx hb dX6_giveSlab_9 rfl (la hl 1 rfl) ?_
  refine lv_iload_n hx hb dX6_giveSlab_10 rfl (la hl 2 rfl) ?_
  obtain ⟨u4, g4, hrun⟩ := bd hrun
  obtain ⟨r3, g3, hrun⟩ := bd hrun
  refine s_callV (n := 1) (rest := [vi v2, vr x0]) [vi x1] hx hb hml hown hts hE hM hS (c_X6_whichOf l D G base h r3.2 x0 x1 r3.1 i_x1 g3) kw_793 kw_790 kw_40 kw_792 kw_21 (by decide +kernel) ⟨Nat.le_of_ble_eq_true rfl, Nat.le_of_ble_eq_true rfl⟩ rfl rfl (by decide) g4 rfl hl.1.1 rfl (c8 (c_i (c_r c_0)) (Nat.le_of_ble_eq_true rfl)) dX6_giveSlab_11 ⟨Nat.le_of_ble_eq_true rfl, Nat.le_of_ble_eq_true rfl⟩ (fun H locs i_r3 hM hS => ?_)
  refine W.eq (g2 := F0 m 14 ls [vi r3.1, vi v2, vr x0]) rfl ?_
  refine lv_iload_n hx hb dX6_giveSlab_14 rfl (la hl 2 rfl) ?_
  obtain ⟨u6, g6, hrun⟩ := bd hrun
  obtain ⟨r5, g5, hrun⟩ := bd hrun
  refine s_callV (n := 3) (rest := []) [vi v2, vi r3.1, vi x1] hx hb hml hown hts hE hM hS (c_X6_leave l D G base r3.2 r5.2 x0 v2 r3.1 x1 r5.1 i_v2 i_r3 i_x1 g5) kw_797 kw_794 kw_40 kw_796 kw_22 (by decide +kernel) ⟨Nat.le_of_ble_eq_true rfl, Nat.le_of_ble_eq_true rfl⟩ rfl rfl (by decide) g6 rfl hl.1.1 rfl (c8 c_0 (Nat.le_of_ble_eq_true rfl)) dX6_giveSlab_15 ⟨Nat.le_of_ble_eq_true rfl, Nat.le_of_ble_eq_true rfl⟩ (fun H locs i_r5 hM hS => ?_)
  refine W.eq (g2 := F0 m 18 ls []) rfl ?_
  refine lv_iconst (v := Int32.ofInt 0) hx hb dX6_giveSlab_18 rfl ?_
  refine t_istore_n (lv' := [(3, vi 0), (2, vi v2), (0, vr x0), (1, vi x1)]) hx hb dX6_giveSlab_19 rfl hl (by decide) rfl (fun ls hl => ?_)
  exact lp20 fuel r5.2 x0 x1 v2 0 H locs ls i_x1 i_v2 (by decide) hM hS (lsub hl [2, 3, 1, 0] rfl) hrun
def f_X6_reapAll_s12 (k4 : Hp → Int → Int → Int → Option (Int × Hp)) (k12 : Hp → Int → Int → Int → Option (Int × Hp)) (h : Hp) (x0 x1 x2 : Int) : Option (Int × Hp) :=
  Option.bind (gtf h 6 21 x0) fun v2 =>
  Option.bind (ald h 8 v2 (wr ((wr (3 * x2)) + 2))) fun v3 =>
  if v3 ≤ 0 then (
    k4 h x0 x1 (wr (x2 + 1))
  ) else (
    Option.bind (gtf h 6 22 x0) fun v4 =>
    Option.bind (ald h 8 v4 (wr (256 * (wr ((wr (3 * x2)) + 2))))) fun v5 =>
    Option.bind (ckd h 6 x0) fun u7 =>
    Option.bind (f_X6_giveSlab h x0 v5) fun r6 =>
    k12 r6.2 x0 (wr (x1 + r6.1)) x2
  )
def f_X6_reapAll_b12 (k4 : Hp → Int → Int → Int → Option (Int × Hp)) : Nat → Hp → Int → Int → Int → Option (Int × Hp)
  | 0, _, _, _, _ => none
  | n + 1, h, x0, x1, x2 => f_X6_reapAll_s12 k4 (f_X6_reapAll_b12 k4 n) h x0 x1 x2
def f_X6_reapAll_s4 (k4 : Hp → Int → Int → Int → Option (Int × Hp)) (h : Hp) (x0 x1 x2 : Int) : Option (Int × Hp) :=
  Option.bind (gtf h 6 3 x0) fun v1 =>
  if v1 ≤ x2 then (
    some (x1, h)
  ) else (
    f_X6_reapAll_b12 k4 fuel h x0 x1 x2
  )
def f_X6_reapAll_b4 : Nat → Hp → Int → Int → Int → Option (Int × Hp)
  | 0, _, _, _, _ => none
  | n + 1, h, x0, x1, x2 => f_X6_reapAll_s4 (f_X6_reapAll_b4 n) h x0 x1 x2
def f_X6_reapAll (h : Hp) (x0 : Int) : Option (Int × Hp) :=
  f_X6_reapAll_b4 fuel h x0 0 0
abbrev w_X6_reapAll : List Cond := Cond.code yX6_reapAll cX6_reapAll 3 (some .int) :: BW
abbrev rm_X6_reapAll : Room := { frames := 2, cells := 0, slots := 0, locals := 49 }
set_option maxHeartbeats 4000000 in
set_option maxRecDepth 100000 in
theorem c_X6_reapAll (l : Launch) (D : va_G) (G : Nat → ClassId) (base : Nat) (h h' : Hp) (x0 : Int) (rv : Int) (hrun : f_X6_reapAll h x0 = some (rv, h')) : Met l yX6_reapAll w_X6_reapAll rm_X6_reapAll (PC l D G base h [vr x0]) (QR D G base (some (vi rv)) (inr rv) h') rm_X6_reapAll.cells rm_X6_reapAll.slots (Ab base) := by
  refine Met.ofW (cc := cX6_reapAll) (maxL := 3) (ret := (some .int)) (by decide) rfl ?_
  intro p e s m args below meth c s₁ B hml hv
  obtain ⟨hargs, hE, hM⟩ := hv
  have hx := B.exec
  have hb := B.bytes
  have hr := B.returns
  have hts0 := atoms_spec (ws := w_X6_reapAll) B.pre
  have hts : ∀ w ∈ BW, w.before args s = true := fun w hw => hts0 w (List.mem_cons_of_mem _ hw)
  have hown : s.vm.findClass RX6 = some m.cls := findClass_of_methodNamed B.named
  have hlocks := B.notSynchronized
  have lp4 : ∀ (n4 : Nat) (h : Hp) (x0 x1 x2 : Int) (H : Heap) (locs : List Loc) (ls : Array Slot), inr x1 → inr x2 → SM D G base h H → va_S (Ab base) s.heap H locs → lvh ls 3 [(0, vr x0), (1, vi x1), (2, vi x2)] → f_X6_reapAll_b4 n4 h x0 x1 x2 = some (rv, h') → W p l e (headSpec w_X6_reapAll rm_X6_reapAll).room s m args below meth c H locs 0 0 (QI D G base rv h' below args s 0 0) (F0 m 4 ls []) := by
    intro n4
    induction n4 with
    | zero => intro h x0 x1 x2 H locs ls i_x1 i_x2 hM hS hl hrun; exact absurd hrun (fun q => nomatch (show (none : Option (Int × Hp)) = some (rv, h') from q))
    | succ n4 ih4 =>
      have lp12 : ∀ (n12 : Nat) (h : Hp) (x0 x1 x2 : Int) (H : Heap) (locs : List Loc) (ls : Array Slot), inr x1 → inr x2 → SM D G base h H → va_S (Ab base) s.heap H locs → lvh ls 3 [(0, vr x0), (1, vi x1), (2, vi x2)] → f_X6_reapAll_b12 (f_X6_reapAll_b4 n4) n12 h x0 x1 x2 = some (rv, h') → W p l e (headSpec w_X6_reapAll rm_X6_reapAll).room s m args below meth c H locs 0 0 (QI D G base rv h' below args s 0 0) (F0 m 12 ls []) := by
        intro n12
        induction n12 with
        | zero => intro h x0 x1 x2 H locs ls i_x1 i_x2 hM hS hl hrun; exact absurd hrun (fun q => nomatch (show (none : Option (Int × Hp)) = some (rv, h') from q))
        | succ n12 ih12 =>
          intro h x0 x1 x2 H locs ls i_x1 i_x2 hM hS hl hrun
          replace hrun : f_X6_reapAll_s12 (f_X6_reapAll_b4 n4) (f_X6_reapAll_b12 (f_X6_reapAll_b4 n4) n12) h x0 x1 x2 = some (rv, h') := hrun
          unfold f_X6_reapAll_s12 at hrun
          refine s_aload_n hx hb dX6_reapAll_12 rfl (la hl 0 rfl) ?_
          obtain ⟨v2, g2, hrun⟩ := bd hrun
          refine s_getfr hx hb hts kl_6 hown hE.1 hM (ci := 6) rfl (by decide) rfl (k := 21) (by decide) rfl (hts _ kw_689) g2 dX6_reapAll_13 ?_
          refine lv_iconst (v := Int32.ofInt 3) hx hb dX6_reapAll_16 rfl ?_
          refine lv_iload_n hx hb dX6_reapAll_17 rfl (la hl 2 rfl) ?_
          refine s_imul hx hb dX6_reapAll_18 ?_
          refine lv_iconst (v := Int32.ofInt 2) hx hb dX6_reapAll_19 rfl ?_
          refine s_iadd hx hb dX6_reapAll_20 ?_
          obtain ⟨v3, g3, hrun⟩ := bd hrun
          refine s_iald hx hb hE.1 hM (inr_wr _) g3 dX6_reapAll_21 ?_
          have i_v3 : inr v3 := ald_i hM g3 (by decide) (by decide)
          refine s_if_le (tgt := 49) hx hb dX6_reapAll_22 (by decide) i_v3 (fun cd => ?_) (fun cd => ?_)
          · replace hrun := it_pos cd hrun
            refine t_iinc (lv' := [(2, vi (wr (x2 + 1))), (0, vr x0), (1, vi x1)]) hx hb dX6_reapAll_49 hl (k := 2) rfl (by decide) rfl rfl (fun ls hl => ?_)
            refine lv_goto (tgt := 4) hx hb dX6_reapAll_52 (by decide) ?_
            exact ih4 h x0 x1 (wr (x2 + 1)) H locs ls i_x1 (inr_wr _) hM hS (lsub hl [1, 2, 0] rfl) hrun
          · replace hrun := it_neg cd hrun
            refine lv_iload_n hx hb dX6_reapAll_25 rfl (la hl 1 rfl) ?_
            refine s_aload_n hx hb dX6_reapAll_26 rfl (la hl 0 rfl) ?_
            refine s_aload_n hx hb dX6_reapAll_27 rfl (la hl 0 rfl) ?_
            obtain ⟨v4, g4, hrun⟩ := bd hrun
            refine s_getfr hx hb hts kl_6 hown hE.1 hM (ci := 6) rfl (by decide) rfl (k := 22) (by decide) rfl (hts _ kw_690) g4 dX6_reapAll_28 ?_
            refine lv_sipush (v := Int32.ofInt 256) hx hb dX6_reapAll_31 (by decide) ?_
            refine lv_iconst (v := Int32.ofInt 3) hx hb dX6_reapAll_34 rfl ?_
            refine lv_iload_n hx hb dX6_reapAll_35 rfl (la hl 2 rfl) ?_
            refine s_imul hx hb dX6_reapAll_36 ?_
            refine lv_iconst (v := Int32.ofInt 2) hx hb dX6_reapAll_37 rfl ?_
            refine s_iadd hx hb dX6_reapAll_38 ?_
            refine s_imul hx hb dX6_reapAll_39 ?_
            obtain ⟨v5, g5, hrun⟩ := bd hrun
            refine s_iald hx hb hE.1 hM (inr_wr _) g5 dX6_reapAll_40 ?_
            have i_v5 : inr v5 := ald_i hM g5 (by decide) (by decide)
            obtain ⟨u7, g7, hrun⟩ := bd hrun
            obtain ⟨r6, g6, hrun⟩ := bd hrun
            refine s_callV (n := 1) (rest := [vi x1]) [vi v5] hx hb hml hown hts hE hM hS (c_X6_giveSlab l D G base h r6.2 x0 v5 r6.1 i_v5 g6) kw_809 kw_806 kw_40 kw_808 kw_25 (by decide +kernel) ⟨Nat.le_of_ble_eq_true rfl, Nat.le_of_ble_eq_true rfl⟩ rfl rfl (by decide) g7 rfl hl.1.1 rfl (c8 (c_i c_0) (Nat.le_of_ble_eq_true rfl)) dX6_reapAll_41 ⟨Nat.le_of_ble_eq_true rfl, Nat.le_of_ble_eq_true rfl⟩ (fun H locs i_r6 hM hS => ?_)
            refine W.eq (g2 := F0 m 44 ls [vi r6.1, vi x1]) rfl ?_
            refine s_iadd hx hb dX6_reapAll_44 ?_
            refine t_istore_n (lv' := [(1, vi (wr (x1 + r6.1))), (0, vr x0), (2, vi x2)]) hx hb dX6_reapAll_45 rfl hl (by decide) rfl (fun ls hl => ?_)
            refine lv_goto (tgt := 12) hx hb dX6_reapAll_46 (by decide) ?_
            exact ih12 r6.2 x0 (wr (x1 + r6.1)) x2 H locs ls (inr_wr _) i_x2 hM hS (lsub hl [1, 0, 2] rfl) hrun
      intro h x0 x1 x2 H locs ls i_x1 i_x2 hM hS hl hrun
      replace hrun : f_X6_reapAll_s4 (f_X6_reapAll_b4 n4) h x0 x1 x2 = some (rv, h') := hrun
      unfold f_X6_reapAll_s4 at hrun
      refine lv_iload_n hx hb dX6_reapAll_4 rfl (la hl 2 rfl) ?_
      refine s_aload_n hx hb dX6_reapAll_5 rfl (la hl 0 rfl) ?_
      obtain ⟨v1, g1, hrun⟩ := bd hrun
      refine s_getfi hx hb hts kl_6 hown hE.1 hM (ci := 6) rfl (by decide) rfl (k := 3) (by decide) rfl (hts _ kw_671) g1 dX6_reapAll_6 ?_
      have i_v1 : inr v1 := gtf_i hM g1 (by decide) rfl
      refine s_icmp_ge (tgt := 55) hx hb dX6_reapAll_9 (by decide) i_x2 i_v1 (fun cd => ?_) (fun cd => ?_)
      · replace hrun := it_pos cd hrun
        refine lv_iload_n hx hb dX6_reapAll_55 rfl (la hl 1 rfl) ?_
        exact s_iret hx hb hr hlocks hM hS i_x1 hrun (Nat.le_of_ble_eq_true rfl) (Nat.le_of_ble_eq_true rfl) dX6_reapAll_56
      · replace hrun := it_neg cd hrun
        exact lp12 fuel h x0 x1 x2 H locs ls i_x1 i_x2 hM hS (lsub hl [0, 1, 2] rfl) hrun
  refine s_entry hargs hM (c_r c_0) (Nat.le_of_ble_eq_true rfl) (fun H locs ls hM hS hl => ?_)
  replace hl : lvh ls 3 [(0, vr x0)] := hl
  unfold f_X6_reapAll at hrun
  refine lv_iconst (v := Int32.ofInt 0) hx hb dX6_reapAll_0 rfl ?_
  refine t_istore_n (lv' := [(1, vi 0), (0, vr x0)]) hx hb dX6_reapAll_1 rfl hl (by decide) rfl (fun ls hl => ?_)
  refine lv_iconst (v := Int32.ofInt 0) hx hb dX6_reapAll_2 rfl ?_
  refine t_istore_n (lv' := [(2, vi 0), (1, vi 0), (0, vr x0)]) hx hb dX6_reapAll_3 rfl hl (by decide) rfl (fun ls hl => ?_)
  exact lp4 fuel h x0 0 0 H locs ls (by decide) (by decide) hM hS (lsub hl [2, 1, 0] rfl) hrun
def f_X6_makeSlab_j210 (k141 : Hp → Int → Int → Int → Int → Option (Int × Hp)) (h : Hp) (x0 x1 x2 x3 s0 s1 s2 : Int) : Option (Int × Hp) :=
  Option.bind (ast h 8 s0 s1 s2) fun h52 =>
  k141 h52 x0 x1 x2 (wr (x3 + 1))
def f_X6_makeSlab_s141 (k141 : Hp → Int → Int → Int → Int → Option (Int × Hp)) (h : Hp) (x0 x1 x2 x3 : Int) : Option (Int × Hp) :=
  Option.bind (gtf h 6 10 x0) fun v35 =>
  Option.bind (ald h 8 v35 x1) fun v36 =>
  if v36 ≤ x3 then (
    Option.bind (ckd h 6 x0) fun u38 =>
    Option.bind (f_X6_enter h x0 x1 2 x2) fun r37 =>
    rtB 1 r37.2
  ) else (
    Option.bind (ckd h 6 x0) fun u40 =>
    Option.bind (f_X6_unitOf h x0 x2 x3) fun r39 =>
    Option.bind (gtf r39.2 6 18 x0) fun v41 =>
    Option.bind (ast r39.2 8 v41 r39.1 1) fun h42 =>
    Option.bind (gtf h42 6 20 x0) fun v43 =>
    Option.bind (gtf h42 6 8 x0) fun v44 =>
    Option.bind (ald h42 8 v44 x1) fun v45 =>
    Option.bind (ast h42 8 v43 r39.1 v45) fun h46 =>
    Option.bind (gtf h46 6 19 x0) fun v47 =>
    Option.bind (gtf h46 6 10 x0) fun v48 =>
    Option.bind (ald h46 8 v48 x1) fun v49 =>
    if v49 ≤ (wr (x3 + 1)) then (
      f_X6_makeSlab_j210 k141 h46 x0 x1 x2 x3 v47 r39.1 (-1)
    ) else (
      Option.bind (ckd h46 6 x0) fun u51 =>
      Option.bind (f_X6_unitOf h46 x0 x2 (wr (x3 + 1))) fun r50 =>
      f_X6_makeSlab_j210 k141 r50.2 x0 x1 x2 x3 v47 r39.1 r50.1
    )
  )
def f_X6_makeSlab_b141 : Nat → Hp → Int → Int → Int → Int → Option (Int × Hp)
  | 0, _, _, _, _, _ => none
  | n + 1, h, x0, x1, x2, x3 => f_X6_makeSlab_s141 (f_X6_makeSlab_b141 n) h x0 x1 x2 x3
def f_X6_makeSlab_j119 (h : Hp) (x0 x1 x2 s0 s1 s2 : Int) : Option (Int × Hp) :=
  Option.bind (ast h 8 s0 s1 s2) fun h28 =>
  Option.bind (gtf h28 6 16 x0) fun v29 =>
  Option.bind (ast h28 8 v29 x2 0) fun h30 =>
  Option.bind (gtf h30 6 17 x0) fun v31 =>
  Option.bind (ckd h30 6 x0) fun u33 =>
  Option.bind (f_X6_unitOf h30 x0 x2 0) fun r32 =>
  Option.bind (ast r32.2 8 v31 x2 r32.1) fun h34 =>
  f_X6_makeSlab_b141 fuel h34 x0 x1 x2 0
def f_X6_makeSlab_s39 (k39 : Hp → Int → Int → Int → Int → Option (Int × Hp)) (h : Hp) (x0 x1 x2 x3 : Int) : Option (Int × Hp) :=
  Option.bind (gtf h 6 7 x0) fun v11 =>
  Option.bind (ald h 8 v11 x1) fun v12 =>
  if (wr (x2 + (ish 1 v12))) ≤ x3 then (
    Option.bind (gtf h 6 14 x0) fun v13 =>
    Option.bind (ast h 8 v13 x2 x1) fun h14 =>
    Option.bind (gtf h14 6 15 x0) fun v15 =>
    Option.bind (gtf h14 6 12 x0) fun v16 =>
    Option.bind (ald h14 8 v16 x1) fun v17 =>
    Option.bind (ast h14 8 v15 x2 v17) fun h18 =>
    Option.bind (gtf h18 6 12 x0) fun v19 =>
    Option.bind (gtf h18 6 12 x0) fun v20 =>
    Option.bind (ald h18 8 v20 x1) fun v21 =>
    Option.bind (gtf h18 6 11 x0) fun v22 =>
    Option.bind (ald h18 8 v22 x1) fun v23 =>
    if (wr (v21 + 1)) ≠ v23 then (
      Option.bind (gtf h18 6 12 x0) fun v24 =>
      Option.bind (ald h18 8 v24 x1) fun v25 =>
      f_X6_makeSlab_j119 h18 x0 x1 x2 v19 x1 (wr (v25 + 1))
    ) else (
      f_X6_makeSlab_j119 h18 x0 x1 x2 v19 x1 0
    )
  ) else (
    Option.bind (gtf h 6 2 x0) fun v26 =>
    Option.bind (ast h 8 v26 x3 x2) fun h27 =>
    k39 h27 x0 x1 x2 (wr (x3 + 1))
  )
def f_X6_makeSlab_b39 : Nat → Hp → Int → Int → Int → Int → Option (Int × Hp)
  | 0, _, _, _, _, _ => none
  | n + 1, h, x0, x1, x2, x3 => f_X6_makeSlab_s39 (f_X6_makeSlab_b39 n) h x0 x1 x2 x3
def f_X6_makeSlab_j31 (h : Hp) (x0 x1 x2 : Int) : Option (Int × Hp) :=
  if 0 ≤ x2 then (
    f_X6_makeSlab_b39 fuel h x0 x1 x2 x2
  ) else (
    rtB 0 h
  )
def f_X6_makeSlab (h : Hp) (x0 x1 : Int) : Option (Int × Hp) :=
  Option.bind (gtf h 6 7 x0) fun v1 =>
  Option.bind (ald h 8 v1 x1) fun v2 =>
  Option.bind (ckd h 6 x0) fun u4 =>
  Option.bind (f_X6_takeBlock h x0 v2) fun r3 =>
  if 0 ≤ r3.1 then (
    f_X6_makeSlab_j31 r3.2 x0 x1 r3.1
  ) else (
    Option.bind (ckd r3.2 6 x0) fun u6 =>
    Option.bind (f_X6_reapAll r3.2 x0) fun r5 =>
    Option.bind (gtf r5.2 6 7 x0) fun v7 =>
    Option.bind (ald r5.2 8 v7 x1) fun v8 =>
    Option.bind (ckd r5.2 6 x0) fun u10 =>
    Option.bind (f_X6_takeBlock r5.2 x0 v8) fun r9 =>
    f_X6_makeSlab_j31 r9.2 x0 x1 r9.1
  )
abbrev w_X6_makeSlab : List Cond := Cond.code yX6_makeSlab cX6_makeSlab 5 (some .boolean) :: BW
abbrev rm_X6_makeSlab : Room := { frames := 3, cells := 0, slots := 0, locals := 71 }
set_option maxHeartbeats 4000000 in
set_option maxRecDepth 100000 in
theorem c_X6_makeSlab (l : Launch) (D : va_G) (G : Nat → ClassId) (base : Nat) (h h' : Hp) (x0 x1 : Int) (rv : Int) (i_x1 : inr x1) (hrun : f_X6_makeSlab h x0 x1 = some (rv, h')) : Met l yX6_makeSlab w_X6_makeSlab rm_X6_makeSlab (PC l D G base h [vr x0, vi x1]) (QR D G base (some (vi rv)) (inr rv) h') rm_X6_makeSlab.cells rm_X6_makeSlab.slots (Ab base) := by
  refine Met.ofW (cc := cX6_makeSlab) (maxL := 5) (ret := (some .boolean)) (by decide) rfl ?_
  intro p e s m args below meth c s₁ B hml hv
  obtain ⟨hargs, hE, hM⟩ := hv
  have hx := B.exec
  have hb := B.bytes
  have hr := B.returns
  have hts0 := atoms_spec (ws := w_X6_makeSlab) B.pre
  have hts : ∀ w ∈ BW, w.before args s = true := fun w hw => hts0 w (List.mem_cons_of_mem _ hw)
  have hown : s.vm.findClass RX6 = some m.cls := findClass_of_methodNamed B.named
  have hlocks := B.notSynchronized
  have lp141 : ∀ (n141 : Nat) (h : Hp) (x0 x1 x2 x3 : Int) (H : Heap) (locs : List Loc) (ls : Array Slot), inr x1 → inr x2 → inr x3 → SM D G base h H → va_S (Ab base) s.heap H locs → lvh ls 5 [(0, vr x0), (1, vi x1), (2, vi x2), (3, vi x3)] → f_X6_makeSlab_b141 n141 h x0 x1 x2 x3 = some (rv, h') → W p l e (headSpec w_X6_makeSlab rm_X6_makeSlab).room s m args below meth c H locs 0 0 (QI D G base rv h' below args s 0 0) (F0 m 141 ls []) := by
    intro n141
    induction n141 with
    | zero => intro h x0 x1 x2 x3 H locs ls i_x1 i_x2 i_x3 hM hS hl hrun; exact absurd hrun (fun q => nomatch (show (none : Option (Int × Hp)) = some (rv, h') from q))
    | succ n141 ih141 =>
      have j210 : ∀ (h : Hp) (x0 x1 x2 x3 s0 s1 s2 : Int) (H : Heap) (locs : List Loc) (ls : Array Slot), inr x1 → inr x2 → inr x3 → inr s1 → inr s2 → SM D G base h H → va_S (Ab base) s.heap H locs → lvh ls 5 [(0, vr x0), (1, vi x1), (2, vi x2), (3, vi x3)] → f_X6_makeSlab_j210 (f_X6_makeSlab_b141 n141) h x0 x1 x2 x3 s0 s1 s2 = some (rv, h') → W p l e (headSpec w_X6_makeSlab rm_X6_makeSlab).room s m args below meth c H locs 0 0 (QI D G base rv h' below args s 0 0) (F0 m 210 ls [vi s2, vi s1, vr s0]) := by
        intro h x0 x1 x2 x3 s0 s1 s2 H locs ls i_x1 i_x2 i_x3 i_s1 i_s2 hM hS hl hrun
        unfold f_X6_makeSlab_j210 at hrun
        obtain ⟨h52, g52, hrun⟩ := bd hrun
        refine s_iast hx hb hE.1 hM hS i_s1 i_s2 g52 dX6_makeSlab_210 (fun H locs hM hS => ?_)
        refine t_iinc (lv' := [(3, vi (wr (x3 + 1))), (0, vr x0), (1, vi x1), (2, vi x2)]) hx hb dX6_makeSlab_211 hl (k := 3) rfl (by decide) rfl rfl (fun ls hl => ?_)
        refine lv_goto (tgt := 141) hx hb dX6_makeSlab_214 (by decide) ?_
        exact ih141 h52 x0 x1 x2 (wr (x3 + 1)) H locs ls i_x1 i_x2 (inr_wr _) hM hS (lsub hl [1, 2, 3, 0] rfl) hrun
      intro h x0 x1 x2 x3 H locs ls i_x1 i_x2 i_x3 hM hS hl hrun
      replace hrun : f_X6_makeSlab_s141 (f_X6_makeSlab_b141 n141) h x0 x1 x2 x3 = some (rv, h') := hrun
      unfold f_X6_makeSlab_s141 at hrun
      refine lv_iload_n hx hb dX6_makeSlab_141 rfl (la hl 3 rfl) ?_
      refine s_aload_n hx hb dX6_makeSlab_142 rfl (la hl 0 rfl) ?_
      obtain ⟨v35, g35, hrun⟩ := bd hrun
      refine s_getfr hx hb hts kl_6 hown hE.1 hM (ci := 6) rfl (by decide) rfl (k := 10) (by decide) rfl (hts _ kw_678) g35 dX6_makeSlab_143 ?_
      refine lv_iload_n hx hb dX6_makeSlab_146 rfl (la hl 1 rfl) ?_
      obtain ⟨v36, g36, hrun⟩ := bd hrun
      refine s_iald hx hb hE.1 hM i_x1 g36 dX6_makeSlab_147 ?_
      have i_v36 : inr v36 := ald_i hM g36 (by decide) (by decide)
      refine s_icmp_ge (tgt := 217) hx hb dX6_makeSlab_148 (by decide) i_x3 i_v36 (fun cd => ?_) (fun cd => ?_)
      · replace hrun := it_pos cd hrun
        refine s_aload_n hx hb dX6_makeSlab_217 rfl (la hl 0 rfl) ?_
        refine lv_iload_n hx hb dX6_makeSlab_218 rfl (la hl 1 rfl) ?_
        refine lv_iconst (v := Int32.ofInt 2) hx hb dX6_makeSlab_219 rfl ?_
        refine lv_iload_n hx hb dX6_makeSlab_220 rfl (la hl 2 rfl) ?_
        obtain ⟨u38, g38, hrun⟩ := bd hrun
        obtain ⟨r37, g37, hrun⟩ := bd hrun
        refine s_callV (n := 3) (rest := []) [vi x1, vi 2, vi x2] hx hb hml hown hts hE hM hS (c_X6_enter l D G base h r37.2 x0 x1 2 x2 r37.1 i_x1 (by decide) i_x2 g37) kw_801 kw_798 kw_40 kw_800 kw_23 (by decide +kernel) ⟨Nat.le_of_ble_eq_true rfl, Nat.le_of_ble_eq_true rfl⟩ rfl rfl (by decide) g38 rfl hl.1.1 rfl (c8 c_0 (Nat.le_of_ble_eq_true rfl)) dX6_makeSlab_221 ⟨Nat.le_of_ble_eq_true rfl, Nat.le_of_ble_eq_true rfl⟩ (fun H locs i_r37 hM hS => ?_)
        refine W.eq (g2 := F0 m 224 ls []) rfl ?_
        refine lv_iconst (v := Int32.ofInt 1) hx hb dX6_makeSlab_224 rfl ?_
        exact s_zret hx hb hr hlocks hM hS (by decide) hrun (Nat.le_of_ble_eq_true rfl) (Nat.le_of_ble_eq_true rfl) dX6_makeSlab_225
      · replace hrun := it_neg cd hrun
        refine s_aload_n hx hb dX6_makeSlab_151 rfl (la hl 0 rfl) ?_
        refine lv_iload_n hx hb dX6_makeSlab_152 rfl (la hl 2 rfl) ?_
        refine lv_iload_n hx hb dX6_makeSlab_153 rfl (la hl 3 rfl) ?_
        obtain ⟨u40, g40, hrun⟩ := bd hrun
        obtain ⟨r39, g39, hrun⟩ := bd hrun
        refine s_callV (n := 2) (rest := []) [vi x2, vi x3] hx hb hml hown hts hE hM hS (c_X6_unitOf l D G base h r39.2 x0 x2 x3 r39.1 i_x2 i_x3 g39) kw_813 kw_810 kw_40 kw_812 kw_26 (by decide +kernel) ⟨Nat.le_of_ble_eq_true rfl, Nat.le_of_ble_eq_true rfl⟩ rfl rfl (by decide) g40 rfl hl.1.1 rfl (c8 c_0 (Nat.le_of_ble_eq_true rfl)) dX6_makeSlab_154 ⟨Nat.le_of_ble_eq_true rfl, Nat.le_of_ble_eq_true rfl⟩ (fun H locs i_r39 hM hS => ?_)
        refine W.eq (g2 := F0 m 157 ls [vi r39.1]) rfl ?_
        refine t_istore (lv' := [(4, vi r39.1), (0, vr x0), (1, vi x1), (2, vi x2), (3, vi x3)]) hx hb dX6_makeSlab_157 hl (by decide) rfl (fun ls hl => ?_)
        refine s_aload_n hx hb dX6_makeSlab_159 rfl (la hl 1 rfl) ?_
        obtain ⟨v41, g41, hrun⟩ := bd hrun
        refine s_getfr hx hb hts kl_6 hown hE.1 hM (ci := 6) rfl (by decide) rfl (k := 18) (by decide) rfl (hts _ kw_686) g41 dX6_makeSlab_160 ?_
        refine lv_iload hx hb dX6_makeSlab_163 (la hl 0 rfl) ?_
        refine lv_iconst (v := Int32.ofInt 1) hx hb dX6_makeSlab_165 rfl ?_
        obtain ⟨h42, g42, hrun⟩ := bd hrun
        refine s_iast hx hb hE.1 hM hS i_r39 (by decide) g42 dX6_makeSlab_166 (fun H locs hM hS => ?_)
        refine s_aload_n hx hb dX6_makeSlab_167 rfl (la hl 1 rfl) ?_
        obtain ⟨v43, g43, hrun⟩ := bd hrun
        refine s_getfr hx hb hts kl_6 hown hE.1 hM (ci := 6) rfl (by decide) rfl (k := 20) (by decide) rfl (hts _ kw_688) g43 dX6_makeSlab_168 ?_
        refine lv_iload hx hb dX6_makeSlab_171 (la hl 0 rfl) ?_
        refine s_aload_n hx hb dX6_makeSlab_173 rfl (la hl 1 rfl) ?_
        obtain ⟨v44, g44, hrun⟩ := bd hrun
        refine s_getfr hx hb hts kl_6 hown hE.1 hM (ci := 6) rfl (by decide) rfl (k := 8) (by decide) rfl (hts _ kw_676) g44 dX6_makeSlab_174 ?_
        refine lv_iload_n hx hb dX6_makeSlab_177 rfl (la hl 2 rfl) ?_
        obtain ⟨v45, g45, hrun⟩ := bd hrun
        refine s_iald hx hb hE.1 hM i_x1 g45 dX6_makeSlab_178 ?_
        have i_v45 : inr v45 := ald_i hM g45 (by decide) (by decide)
        obtain ⟨h46, g46, hrun⟩ := bd hrun
        refine s_iast hx hb hE.1 hM hS i_r39 i_v45 g46 dX6_makeSlab_179 (fun H locs hM hS => ?_)
        refine s_aload_n hx hb dX6_makeSlab_180 rfl (la hl 1 rfl) ?_
        obtain ⟨v47, g47, hrun⟩ := bd hrun
        refine s_getfr hx hb hts kl_6 hown hE.1 hM (ci := 6) rfl (by decide) rfl (k := 19) (by decide) rfl (hts _ kw_687) g47 dX6_makeSlab_181 ?_
        refine lv_iload hx hb dX6_makeSlab_184 (la hl 0 rfl) ?_
        refine lv_iload_n hx hb dX6_makeSlab_186 rfl (la hl 4 rfl) ?_
        refine lv_iconst (v := Int32.ofInt 1) hx hb dX6_makeSlab_187 rfl ?_
        refine s_iadd hx hb dX6_makeSlab_188 ?_
        refine s_aload_n hx hb dX6_makeSlab_189 rfl (la hl 1 rfl) ?_
        obtain ⟨v48, g48, hrun⟩ := bd hrun
        refine s_getfr hx hb hts kl_6 hown hE.1 hM (ci := 6) rfl (by decide) rfl (k := 10) (by decide) rfl (hts _ kw_678) g48 dX6_makeSlab_190 ?_
        refine lv_iload_n hx hb dX6_makeSlab_193 rfl (la hl 2 rfl) ?_
        obtain ⟨v49, g49, hrun⟩ := bd hrun
        refine s_iald hx hb hE.1 hM i_x1 g49 dX6_makeSlab_194 ?_
        have i_v49 : inr v49 := ald_i hM g49 (by decide) (by decide)
        refine s_icmp_ge (tgt := 209) hx hb dX6_makeSlab_195 (by decide) (inr_wr _) i_v49 (fun cd => ?_) (fun cd => ?_)
        · replace hrun := it_pos cd hrun
          refine lv_iconst (v := Int32.ofInt (-1)) hx hb dX6_makeSlab_209 rfl ?_
          exact j210 h46 x0 x1 x2 x3 v47 r39.1 (-1) H locs ls i_x1 i_x2 i_x3 i_r39 (by decide) hM hS (lsub hl [1, 2, 3, 4] rfl) hrun
        · replace hrun := it_neg cd hrun
          refine s_aload_n hx hb dX6_makeSlab_198 rfl (la hl 1 rfl) ?_
          refine lv_iload_n hx hb dX6_makeSlab_199 rfl (la hl 3 rfl) ?_
          refine lv_iload_n hx hb dX6_makeSlab_200 rfl (la hl 4 rfl) ?_
          refine lv_iconst (v := Int32.ofInt 1) hx hb dX6_makeSlab_201 rfl ?_
          refine s_iadd hx hb dX6_makeSlab_202 ?_
          obtain ⟨u51, g51, hrun⟩ := bd hrun
          obtain ⟨r50, g50, hrun⟩ := bd hrun
          refine s_callV (n := 2) (rest := [vi r39.1, vr v47]) [vi x2, vi (wr (x3 + 1))] hx hb hml hown hts hE hM hS (c_X6_unitOf l D G base h46 r50.2 x0 x2 (wr (x3 + 1)) r50.1 i_x2 (inr_wr _) g50) kw_813 kw_810 kw_40 kw_812 kw_26 (by decide +kernel) ⟨Nat.le_of_ble_eq_true rfl, Nat.le_of_ble_eq_true rfl⟩ rfl rfl (by decide) g51 rfl hl.1.1 rfl (c8 (c_i (c_r c_0)) (Nat.le_of_ble_eq_true rfl)) dX6_makeSlab_203 ⟨Nat.le_of_ble_eq_true rfl, Nat.le_of_ble_eq_true rfl⟩ (fun H locs i_r50 hM hS => ?_)
          refine W.eq (g2 := F0 m 206 ls [vi r50.1, vi r39.1, vr v47]) rfl ?_
          refine lv_goto (tgt := 210) hx hb dX6_makeSlab_206 (by decide) ?_
          exact j210 r50.2 x0 x1 x2 x3 v47 r39.1 r50.1 H locs ls i_x1 i_x2 i_x3 i_r39 i_r50 hM hS (lsub hl [1, 2, 3, 4] rfl) hrun
  have j119 : ∀ (h : Hp) (x0 x1 x2 s0 s1 s2 : Int) (H : Heap) (locs : List Loc) (ls : Array Slot), inr x1 → inr x2 → inr s1 → inr s2 → SM D G base h H → va_S (Ab base) s.heap H locs → lvh ls 5 [(0, vr x0), (1, vi x1), (2, vi x2)] → f_X6_makeSlab_j119 h x0 x1 x2 s0 s1 s2 = some (rv, h') → W p l e (headSpec w_X6_makeSlab rm_X6_makeSlab).room s m args below meth c H locs 0 0 (QI D G base rv h' below args s 0 0) (F0 m 119 ls [vi s2, vi s1, vr s0]) := by
    intro h x0 x1 x2 s0 s1 s2 H locs ls i_x1 i_x2 i_s1 i_s2 hM hS hl hrun
    unfold f_X6_makeSlab_j119 at hrun
    obtain ⟨h28, g28, hrun⟩ := bd hrun
    refine s_iast hx hb hE.1 hM hS i_s1 i_s2 g28 dX6_makeSlab_119 (fun H locs hM hS => ?_)
    refine s_aload_n hx hb dX6_makeSlab_120 rfl (la hl 0 rfl) ?_
    obtain ⟨v29, g29, hrun⟩ := bd hrun
    refine s_getfr hx hb hts kl_6 hown hE.1 hM (ci := 6) rfl (by decide) rfl (k := 16) (by decide) rfl (hts _ kw_684) g29 dX6_makeSlab_121 ?_
    refine lv_iload_n hx hb dX6_makeSlab_124 rfl (la hl 2 rfl) ?_
    refine lv_iconst (v := Int32.ofInt 0) hx hb dX6_makeSlab_125 rfl ?_
    obtain ⟨h30, g30, hrun⟩ := bd hrun
    refine s_iast hx hb hE.1 hM hS i_x2 (by decide) g30 dX6_makeSlab_126 (fun H locs hM hS => ?_)
    refine s_aload_n hx hb dX6_makeSlab_127 rfl (la hl 0 rfl) ?_
    obtain ⟨v31, g31, hrun⟩ := bd hrun
    refine s_getfr hx hb hts kl_6 hown hE.1 hM (ci := 6) rfl (by decide) rfl (k := 17) (by decide) rfl (hts _ kw_685) g31 dX6_makeSlab_128 ?_
    refine lv_iload_n hx hb dX6_makeSlab_131 rfl (la hl 2 rfl) ?_
    refine s_aload_n hx hb dX6_makeSlab_132 rfl (la hl 0 rfl) ?_
    refine lv_iload_n hx hb dX6_makeSlab_133 rfl (la hl 2 rfl) ?_
    refine lv_iconst (v := Int32.ofInt 0) hx hb dX6_makeSlab_134 rfl ?_
    obtain ⟨u33, g33, hrun⟩ := bd hrun
    obtain ⟨r32, g32, hrun⟩ := bd hrun
    refine s_callV (n := 2) (rest := [vi x2, vr v31]) [vi x2, vi 0] hx hb hml hown hts hE hM hS (c_X6_unitOf l D G base h30 r32.2 x0 x2 0 r32.1 i_x2 (by decide) g32) kw_813 kw_810 kw_40 kw_812 kw_26 (by decide +kernel) ⟨Nat.le_of_ble_eq_true rfl, Nat.le_of_ble_eq_true rfl⟩ rfl rfl (by decide) g33 rfl hl.1.1 rfl (c8 (c_i (c_r c_0)) (Nat.le_of_ble_eq_true rfl)) dX6_makeSlab_135 ⟨Nat.le_of_ble_eq_true rfl, Nat.le_of_ble_eq_true rfl⟩ (fun H locs i_r32 hM hS => ?_)
    refine W.eq (g2 := F0 m 138 ls [vi r32.1, vi x2, vr v31]) rfl ?_
    obtain ⟨h34, g34, hrun⟩ := bd hrun
    refine s_iast hx hb hE.1 hM hS i_x2 i_r32 g34 dX6_makeSlab_138 (fun H locs hM hS => ?_)
    refine lv_iconst (v := Int32.ofInt 0) hx hb dX6_makeSlab_139 rfl ?_
    refine t_istore_n (lv' := [(3, vi 0), (0, vr x0), (1, vi x1), (2, vi x2)]) hx hb dX6_makeSlab_140 rfl hl (by decide) rfl (fun ls hl => ?_)
    exact lp141 fuel h34 x0 x1 x2 0 H locs ls i_x1 i_x2 (by decide) hM hS (lsub hl [1, 2, 3, 0] rfl) hrun
  have lp39 : ∀ (n39 : Nat) (h : Hp) (x0 x1 x2 x3 : Int) (H : Heap) (locs : List Loc) (ls : Array Slot), inr x1 → inr x2 → inr x3 → SM D G base h H → va_S (Ab base) s.heap H locs → lvh ls 5 [(0, vr x0), (1, vi x1), (2, vi x2), (3, vi x3)] → f_X6_makeSlab_b39 n39 h x0 x1 x2 x3 = some (rv, h') → W p l e (headSpec w_X6_makeSlab rm_X6_makeSlab).room s m args below meth c H locs 0 0 (QI D G base rv h' below args s 0 0) (F0 m 39 ls []) := by
    intro n39
    induction n39 with
    | zero => intro h x0 x1 x2 x3 H locs ls i_x1 i_x2 i_x3 hM hS hl hrun; exact absurd hrun (fun q => nomatch (show (none : Option (Int × Hp)) = some (rv, h') from q))
    | succ n39 ih39 =>
      intro h x0 x1 x2 x3 H locs ls i_x1 i_x2 i_x3 hM hS hl hrun
      replace hrun : f_X6_makeSlab_s39 (f_X6_makeSlab_b39 n39) h x0 x1 x2 x3 = some (rv, h') := hrun
      unfold f_X6_makeSlab_s39 at hrun
      refine lv_iload_n hx hb dX6_makeSlab_39 rfl (la hl 3 rfl) ?_
      refine lv_iload_n hx hb dX6_makeSlab_40 rfl (la hl 2 rfl) ?_
      refine lv_iconst (v := Int32.ofInt 1) hx hb dX6_makeSlab_41 rfl ?_
      refine s_aload_n hx hb dX6_makeSlab_42 rfl (la hl 0 rfl) ?_
      obtain ⟨v11, g11, hrun⟩ := bd hrun
      refine s_getfr hx hb hts kl_6 hown hE.1 hM (ci := 6) rfl (by decide) rfl (k := 7) (by decide) rfl (hts _ kw_675) g11 dX6_makeSlab_43 ?_
      refine lv_iload_n hx hb dX6_makeSlab_46 rfl (la hl 1 rfl) ?_
      obtain ⟨v12, g12, hrun⟩ := bd hrun
      refine s_iald hx hb hE.1 hM i_x1 g12 dX6_makeSlab_47 ?_
      have i_v12 : inr v12 := ald_i hM g12 (by decide) (by decide)
      refine s_ishl hx hb dX6_makeSlab_48 ?_
      refine s_iadd hx hb dX6_makeSlab_49 ?_
      refine s_icmp_ge (tgt := 66) hx hb dX6_makeSlab_50 (by decide) i_x3 (inr_wr _) (fun cd => ?_) (fun cd => ?_)
      · replace hrun := it_pos cd hrun
        refine s_aload_n hx hb dX6_makeSlab_66 rfl (la hl 0 rfl) ?_
        obtain ⟨v13, g13, hrun⟩ := bd hrun
        refine s_getfr hx hb hts kl_6 hown hE.1 hM (ci := 6) rfl (by decide) rfl (k := 14) (by decide) rfl (hts _ kw_682) g13 dX6_makeSlab_67 ?_
        refine lv_iload_n hx hb dX6_makeSlab_70 rfl (la hl 2 rfl) ?_
        refine lv_iload_n hx hb dX6_makeSlab_71 rfl (la hl 1 rfl) ?_
        obtain ⟨h14, g14, hrun⟩ := bd hrun
        refine s_iast hx hb hE.1 hM hS i_x2 i_x1 g14 dX6_makeSlab_72 (fun H locs hM hS => ?_)
        refine s_aload_n hx hb dX6_makeSlab_73 rfl (la hl 0 rfl) ?_
        obtain ⟨v15, g15, hrun⟩ := bd hrun
        refine s_getfr hx hb hts kl_6 hown hE.1 hM (ci := 6) rfl (by decide) rfl (k := 15) (by decide) rfl (hts _ kw_683) g15 dX6_makeSlab_74 ?_
        refine lv_iload_n hx hb dX6_makeSlab_77 rfl (la hl 2 rfl) ?_
        refine s_aload_n hx hb dX6_makeSlab_78 rfl (la hl 0 rfl) ?_
        obtain ⟨v16, g16, hrun⟩ := bd hrun
        refine s_getfr hx hb hts kl_6 hown hE.1 hM (ci := 6) rfl (by decide) rfl (k := 12) (by decide) rfl (hts _ kw_680) g16 dX6_makeSlab_79 ?_
        refine lv_iload_n hx hb dX6_makeSlab_82 rfl (la hl 1 rfl) ?_
        obtain ⟨v17, g17, hrun⟩ := bd hrun
        refine s_iald hx hb hE.1 hM i_x1 g17 dX6_makeSlab_83 ?_
        have i_v17 : inr v17 := ald_i hM g17 (by decide) (by decide)
        obtain ⟨h18, g18, hrun⟩ := bd hrun
        refine s_iast hx hb hE.1 hM hS i_x2 i_v17 g18 dX6_makeSlab_84 (fun H locs hM hS => ?_)
        refine s_aload_n hx hb dX6_makeSlab_85 rfl (la hl 0 rfl) ?_
        obtain ⟨v19, g19, hrun⟩ := bd hrun
        refine s_getfr hx hb hts kl_6 hown hE.1 hM (ci := 6) rfl (by decide) rfl (k := 12) (by decide) rfl (hts _ kw_680) g19 dX6_makeSlab_86 ?_
        refine lv_iload_n hx hb dX6_makeSlab_89 rfl (la hl 1 rfl) ?_
        refine s_aload_n hx hb dX6_makeSlab_90 rfl (la hl 0 rfl) ?_
        obtain ⟨v20, g20, hrun⟩ := bd hrun
        refine s_getfr hx hb hts kl_6 hown hE.1 hM (ci := 6) rfl (by decide) rfl (k := 12) (by decide) rfl (hts _ kw_680) g20 dX6_makeSlab_91 ?_
        refine lv_iload_n hx hb dX6_makeSlab_94 rfl (la hl 1 rfl) ?_
        obtain ⟨v21, g21, hrun⟩ := bd hrun
        refine s_iald hx hb hE.1 hM i_x1 g21 dX6_makeSlab_95 ?_
        have i_v21 : inr v21 := ald_i hM g21 (by decide) (by decide)
        refine lv_iconst (v := Int32.ofInt 1) hx hb dX6_makeSlab_96 rfl ?_
        refine s_iadd hx hb dX6_makeSlab_97 ?_
        refine s_aload_n hx hb dX6_makeSlab_98 rfl (la hl 0 rfl) ?_
        obtain ⟨v22, g22, hrun⟩ := bd hrun
        refine s_getfr hx hb hts kl_6 hown hE.1 hM (ci := 6) rfl (by decide) rfl (k := 11) (by decide) rfl (hts _ kw_679) g22 dX6_makeSlab_99 ?_
        refine lv_iload_n hx hb dX6_makeSlab_102 rfl (la hl 1 rfl) ?_
        obtain ⟨v23, g23, hrun⟩ := bd hrun
        refine s_iald hx hb hE.1 hM i_x1 g23 dX6_makeSlab_103 ?_
        have i_v23 : inr v23 := ald_i hM g23 (by decide) (by decide)
        refine s_icmp_ne (tgt := 111) hx hb dX6_makeSlab_104 (by decide) (inr_wr _) i_v23 (fun cd => ?_) (fun cd => ?_)
        · replace hrun := it_pos cd hrun
          refine s_aload_n hx hb dX6_makeSlab_111 rfl (la hl 0 rfl) ?_
          obtain ⟨v24, g24, hrun⟩ := bd hrun
          refine s_getfr hx hb hts kl_6 hown hE.1 hM (ci := 6) rfl (by decide) rfl (k := 12) (by decide) rfl (hts _ kw_680) g24 dX6_makeSlab_112 ?_
          refine lv_iload_n hx hb dX6_makeSlab_115 rfl (la hl 1 rfl) ?_
          obtain ⟨v25, g25, hrun⟩ := bd hrun
          refine s_iald hx hb hE.1 hM i_x1 g25 dX6_makeSlab_116 ?_
          have i_v25 : inr v25 := ald_i hM g25 (by decide) (by decide)
          refine lv_iconst (v := Int32.ofInt 1) hx hb dX6_makeSlab_117 rfl ?_
          refine s_iadd hx hb dX6_makeSlab_118 ?_
          exact j119 h18 x0 x1 x2 v19 x1 (wr (v25 + 1)) H locs ls i_x1 i_x2 i_x1 (inr_wr _) hM hS (lsub hl [0, 1, 2] rfl) hrun
        · replace hrun := it_neg cd hrun
          refine lv_iconst (v := Int32.ofInt 0) hx hb dX6_makeSlab_107 rfl ?_
          refine lv_goto (tgt := 119) hx hb dX6_makeSlab_108 (by decide) ?_
          exact j119 h18 x0 x1 x2 v19 x1 0 H locs ls i_x1 i_x2 i_x1 (by decide) hM hS (lsub hl [0, 1, 2] rfl) hrun
      · replace hrun := it_neg cd hrun
        refine s_aload_n hx hb dX6_makeSlab_53 rfl (la hl 0 rfl) ?_
        obtain ⟨v26, g26, hrun⟩ := bd hrun
        refine s_getfr hx hb hts kl_6 hown hE.1 hM (ci := 6) rfl (by decide) rfl (k := 2) (by decide) rfl (hts _ kw_670) g26 dX6_makeSlab_54 ?_
        refine lv_iload_n hx hb dX6_makeSlab_57 rfl (la hl 3 rfl) ?_
        refine lv_iload_n hx hb dX6_makeSlab_58 rfl (la hl 2 rfl) ?_
        obtain ⟨h27, g27, hrun⟩ := bd hrun
        refine s_iast hx hb hE.1 hM hS i_x3 i_x2 g27 dX6_makeSlab_59 (fun H locs hM hS => ?_)
        refine t_iinc (lv' := [(3, vi (wr (x3 + 1))), (0, vr x0), (1, vi x1), (2, vi x2)]) hx hb dX6_makeSlab_60 hl (k := 3) rfl (by decide) rfl rfl (fun ls hl => ?_)
        refine lv_goto (tgt := 39) hx hb dX6_makeSlab_63 (by decide) ?_
        exact ih39 h27 x0 x1 x2 (wr (x3 + 1)) H locs ls i_x1 i_x2 (inr_wr _) hM hS (lsub hl [1, 2, 3, 0] rfl) hrun
  have j31 : ∀ (h : Hp) (x0 x1 x2 : Int) (H : Heap) (locs : List Loc) (ls : Array Slot), inr x1 → inr x2 → SM D G base h H → va_S (Ab base) s.heap H locs → lvh ls 5 [(0, vr x0), (1, vi x1), (2, vi x2)] → f_X6_makeSlab_j31 h x0 x1 x2 = some (rv, h') → W p l e (headSpec w_X6_makeSlab rm_X6_makeSlab).room s m args below meth c H locs 0 0 (QI D G base rv h' below args s 0 0) (F0 m 31 ls []) := by
    intro h x0 x1 x2 H locs ls i_x1 i_x2 hM hS hl hrun
    unfold f_X6_makeSlab_j31 at hrun
    refine lv_iload_n hx hb dX6_makeSlab_31 rfl (la hl 2 rfl) ?_
    refine s_if_ge (tgt := 37) hx hb dX6_makeSlab_32 (by decide) i_x2 (fun cd => ?_) (fun cd => ?_)
    · replace hrun := it_pos cd hrun
      refine lv_iload_n hx hb dX6_makeSlab_37 rfl (la hl 2 rfl) ?_
      refine t_istore_n (lv' := [(3, vi x2), (0, vr x0), (1, vi x1), (2, vi x2)]) hx hb dX6_makeSlab_38 rfl hl (by decide) rfl (fun ls hl => ?_)
      exact lp39 fuel h x0 x1 x2 x2 H locs ls i_x1 i_x2 i_x2 hM hS (lsub hl [1, 2, 3, 0] rfl) hrun
    · replace hrun := it_neg cd hrun
      refine lv_iconst (v := Int32.ofInt 0) hx hb dX6_makeSlab_35 rfl ?_
      exact s_zret hx hb hr hlocks hM hS (by decide) hrun (Nat.le_of_ble_eq_true rfl) (Nat.le_of_ble_eq_true rfl) dX6_makeSlab_36
  refine s_entry hargs hM (c_r (c_i c_0)) (Nat.le_of_ble_eq_true rfl) (fun H locs ls hM hS hl => ?_)
  replace hl : lvh ls 5 [(0, vr x0), (1, vi x1)] := hl
  unfold f_X6_makeSlab at hrun
  refine s_aload_n hx hb dX6_makeSlab_0 rfl (la hl 0 rfl) ?_
  refine s_aload_n hx hb dX6_makeSlab_1 rfl (la hl 0 rfl) ?_
  obtain ⟨v1, g1, hrun⟩ := bd hrun
  refine s_getfr hx hb hts kl_6 hown hE.1 hM (ci := 6) rfl (by decide) rfl (k := 7) (by decide) rfl (hts _ kw_675) g1 dX6_makeSlab_2 ?_
  refine lv_iload_n hx hb dX6_makeSlab_5 rfl (la hl 1 rfl) ?_
  obtain ⟨v2, g2, hrun⟩ := bd hrun
  refine s_iald hx hb hE.1 hM i_x1 g2 dX6_makeSlab_6 ?_
  have i_v2 : inr v2 := ald_i hM g2 (by decide) (by decide)
  obtain ⟨u4, g4, hrun⟩ := bd hrun
  obtain ⟨r3, g3, hrun⟩ := bd hrun
  refine s_callV (n := 1) (rest := []) [vi v2] hx hb hml hown hts hE hM hS (c_X6_takeBlock l D G base h r3.2 x0 v2 r3.1 i_v2 g3) kw_837 kw_834 kw_40 kw_836 kw_31 (by decide +kernel) ⟨Nat.le_of_ble_eq_true rfl, Nat.le_of_ble_eq_true rfl⟩ rfl rfl (by decide) g4 rfl hl.1.1 rfl (c8 c_0 (Nat.le_of_ble_eq_true rfl)) dX6_makeSlab_7 ⟨Nat.le_of_ble_eq_true rfl, Nat.le_of_ble_eq_true rfl⟩ (fun H locs i_r3 hM hS => ?_)
  refine W.eq (g2 := F0 m 10 ls [vi r3.1]) rfl ?_
  refine t_istore_n (lv' := [(2, vi r3.1), (0, vr x0), (1, vi x1)]) hx hb dX6_makeSlab_10 rfl hl (by decide) rfl (fun ls hl => ?_)
  refine lv_iload_n hx hb dX6_makeSlab_11 rfl (la hl 0 rfl) ?_
  refine s_if_ge (tgt := 31) hx hb dX6_makeSlab_12 (by decide) i_r3 (fun cd => ?_) (fun cd => ?_)
  · replace hrun := it_pos cd hrun
    exact j31 r3.2 x0 x1 r3.1 H locs ls i_x1 i_r3 hM hS (lsub hl [1, 2, 0] rfl) hrun
  · replace hrun := it_neg cd hrun
    refine s_aload_n hx hb dX6_makeSlab_15 rfl (la hl 1 rfl) ?_
    obtain ⟨u6, g6, hrun⟩ := bd hrun
    obtain ⟨r5, g5, hrun⟩ := bd hrun
    refine s_callV (n := 0) (rest := []) [] hx hb hml hown hts hE hM hS (c_X6_reapAll l D G base r3.2 r5.2 x0 r5.1 g5) kw_841 kw_838 kw_40 kw_840 kw_32 (by decide +kernel) ⟨Nat.le_of_ble_eq_true rfl, Nat.le_of_ble_eq_true rfl⟩ rfl rfl (by decide) g6 rfl hl.1.1 rfl (c8 c_0 (Nat.le_of_ble_eq_true rfl)) dX6_makeSlab_16 ⟨Nat.le_of_ble_eq_true rfl, Nat.le_of_ble_eq_true rfl⟩ (fun H locs i_r5 hM hS => ?_)
    refine W.eq (g2 := F0 m 19 ls [vi r5.1]) rfl ?_
    refine lv_pop hx hb dX6_makeSlab_19 rfl ?_
    refine s_aload_n hx hb dX6_makeSlab_20 rfl (la hl 1 rfl) ?_
    refine s_aload_n hx hb dX6_makeSlab_21 rfl (la hl 1 rfl) ?_
    obtain ⟨v7, g7, hrun⟩ := bd hrun
    refine s_getfr hx hb hts kl_6 hown hE.1 hM (ci := 6) rfl (by decide) rfl (k := 7) (by decide) rfl (hts _ kw_675) g7 dX6_makeSlab_22 ?_
    refine lv_iload_n hx hb dX6_makeSlab_25 rfl (la hl 2 rfl) ?_
    obtain ⟨v8, g8, hrun⟩ := bd hrun
    refine s_iald hx hb hE.1 hM i_x1 g8 dX6_makeSlab_26 ?_
    have i_v8 : inr v8 := ald_i hM g8 (by decide) (by decide)
    obtain ⟨u10, g10, hrun⟩ := bd hrun
    obtain ⟨r9, g9, hrun⟩ := bd hrun
    refine s_callV (n := 1) (rest := []) [vi v8] hx hb hml hown hts hE hM hS (c_X6_takeBlock l D G base r5.2 r9.2 x0 v8 r9.1 i_v8 g9) kw_837 kw_834 kw_40 kw_836 kw_31 (by decide +kernel) ⟨Nat.le_of_ble_eq_true rfl, Nat.le_of_ble_eq_true rfl⟩ rfl rfl (by decide) g10 rfl hl.1.1 rfl (c8 c_0 (Nat.le_of_ble_eq_true rfl)) dX6_makeSlab_27 ⟨Nat.le_of_ble_eq_true rfl, Nat.le_of_ble_eq_true rfl⟩ (fun H locs i_r9 hM hS => ?_)
    refine W.eq (g2 := F0 m 30 ls [vi r9.1]) rfl ?_
    refine t_istore_n (lv' := [(2, vi r9.1), (0, vr x0), (1, vi x1)]) hx hb dX6_makeSlab_30 rfl hl (by decide) rfl (fun ls hl => ?_)
    exact j31 r9.2 x0 x1 r9.1 H locs ls i_x1 i_r9 hM hS (lsub hl [1, 2, 0] rfl) hrun
def f_X6_fromSlabs_j62 (h : Hp) (x0 s0 : Int) : Option (Int × Hp) :=
  Option.bind (gtf h 6 22 x0) fun v9 =>
  Option.bind (ald h 8 v9 (wr (256 * s0))) fun v10 =>
  Option.bind (gtf h 6 17 x0) fun v11 =>
  Option.bind (ald h 8 v11 v10) fun v12 =>
  Option.bind (gtf h 6 17 x0) fun v13 =>
  Option.bind (gtf h 6 19 x0) fun v14 =>
  Option.bind (ald h 8 v14 v12) fun v15 =>
  Option.bind (ast h 8 v13 v10 v15) fun h16 =>
  Option.bind (ckd h16 6 x0) fun u18 =>
  Option.bind (f_X6_change h16 x0 v10 1) fun r17 =>
  some (v12, r17.2)
def f_X6_fromSlabs_j36 (h : Hp) (x0 x1 : Int) : Option (Int × Hp) :=
  Option.bind (gtf h 6 21 x0) fun v7 =>
  Option.bind (ald h 8 v7 (wr ((wr (3 * x1)) + 1))) fun v8 =>
  if v8 ≤ 0 then (
    f_X6_fromSlabs_j62 h x0 (wr ((wr (3 * x1)) + 2))
  ) else (
    f_X6_fromSlabs_j62 h x0 (wr ((wr (3 * x1)) + 1))
  )
def f_X6_fromSlabs (h : Hp) (x0 x1 : Int) : Option (Int × Hp) :=
  Option.bind (gtf h 6 21 x0) fun v1 =>
  Option.bind (ald h 8 v1 (wr ((wr (3 * x1)) + 1))) fun v2 =>
  if v2 ≠ 0 then (
    f_X6_fromSlabs_j36 h x0 x1
  ) else (
    Option.bind (gtf h 6 21 x0) fun v3 =>
    Option.bind (ald h 8 v3 (wr ((wr (3 * x1)) + 2))) fun v4 =>
    if v4 ≠ 0 then (
      f_X6_fromSlabs_j36 h x0 x1
    ) else (
      Option.bind (ckd h 6 x0) fun u6 =>
      Option.bind (f_X6_makeSlab h x0 x1) fun r5 =>
      if r5.1 ≠ 0 then (
        f_X6_fromSlabs_j36 r5.2 x0 x1
      ) else (
        some ((-1), r5.2)
      )
    )
  )
abbrev w_X6_fromSlabs : List Cond := Cond.code yX6_fromSlabs cX6_fromSlabs 5 (some .int) :: BW
abbrev rm_X6_fromSlabs : Room := { frames := 4, cells := 0, slots := 0, locals := 95 }
set_option maxHeartbeats 4000000 in
set_option maxRecDepth 100000 in
theorem c_X6_fromSlabs (l : Launch) (D : va_G) (G : Nat → ClassId) (base : Nat) (h h' : Hp) (x0 x1 : Int) (rv : Int) (i_x1 : inr x1) (hrun : f_X6_fromSlabs h x0 x1 = some (rv, h')) : Met l yX6_fromSlabs w_X6_fromSlabs rm_X6_fromSlabs (PC l D G base h [vr x0, vi x1]) (QR D G base (some (vi rv)) (inr rv) h') rm_X6_fromSlabs.cells rm_X6_fromSlabs.slots (Ab base) := by
  refine Met.ofW (cc := cX6_fromSlabs) (maxL := 5) (ret := (some .int)) (by decide) rfl ?_
  intro p e s m args below meth c s₁ B hml hv
  obtain ⟨hargs, hE, hM⟩ := hv
  have hx := B.exec
  have hb := B.bytes
  have hr := B.returns
  have hts0 := atoms_spec (ws := w_X6_fromSlabs) B.pre
  have hts : ∀ w ∈ BW, w.before args s = true := fun w hw => hts0 w (List.mem_cons_of_mem _ hw)
  have hown : s.vm.findClass RX6 = some m.cls := findClass_of_methodNamed B.named
  have hlocks := B.notSynchronized
  have j62 : ∀ (h : Hp) (x0 s0 : Int) (H : Heap) (locs : List Loc) (ls : Array Slot), inr s0 → SM D G base h H → va_S (Ab base) s.heap H locs → lvh ls 5 [(0, vr x0)] → f_X6_fromSlabs_j62 h x0 s0 = some (rv, h') → W p l e (headSpec w_X6_fromSlabs rm_X6_fromSlabs).room s m args below meth c H locs 0 0 (QI D G base rv h' below args s 0 0) (F0 m 62 ls [vi s0]) := by
    intro h x0 s0 H locs ls i_s0 hM hS hl hrun
    unfold f_X6_fromSlabs_j62 at hrun
    refine t_istore_n (lv' := [(2, vi s0), (0, vr x0)]) hx hb dX6_fromSlabs_62 rfl hl (by decide) rfl (fun ls hl => ?_)
    refine s_aload_n hx hb dX6_fromSlabs_63 rfl (la hl 1 rfl) ?_
    obtain ⟨v9, g9, hrun⟩ := bd hrun
    refine s_getfr hx hb hts kl_6 hown hE.1 hM (ci := 6) rfl (by decide) rfl (k := 22) (by decide) rfl (hts _ kw_690) g9 dX6_fromSlabs_64 ?_
    refine lv_sipush (v := Int32.ofInt 256) hx hb dX6_fromSlabs_67 (by decide) ?_
    refine lv_iload_n hx hb dX6_fromSlabs_70 rfl (la hl 0 rfl) ?_
    refine s_imul hx hb dX6_fromSlabs_71 ?_
    obtain ⟨v10, g10, hrun⟩ := bd hrun
    refine s_iald hx hb hE.1 hM (inr_wr _) g10 dX6_fromSlabs_72 ?_
    have i_v10 : inr v10 := ald_i hM g10 (by decide) (by decide)
    refine t_istore_n (lv' := [(3, vi v10), (2, vi s0), (0, vr x0)]) hx hb dX6_fromSlabs_73 rfl hl (by decide) rfl (fun ls hl => ?_)
    refine s_aload_n hx hb dX6_fromSlabs_74 rfl (la hl 2 rfl) ?_
    obtain ⟨v11, g11, hrun⟩ := bd hrun
    refine s_getfr hx hb hts kl_6 hown hE.1 hM (ci := 6) rfl (by decide) rfl (k := 17) (by decide) rfl (hts _ kw_685) g11 dX6_fromSlabs_75 ?_
    refine lv_iload_n hx hb dX6_fromSlabs_78 rfl (la hl 0 rfl) ?_
    obtain ⟨v12, g12, hrun⟩ := bd hrun
    refine s_iald hx hb hE.1 hM i_v10 g12 dX6_fromSlabs_79 ?_
    have i_v12 : inr v12 := ald_i hM g12 (by decide) (by decide)
    refine t_istore (lv' := [(4, vi v12), (3, vi v10), (2, vi s0), (0, vr x0)]) hx hb dX6_fromSlabs_80 hl (by decide) rfl (fun ls hl => ?_)
    refine s_aload_n hx hb dX6_fromSlabs_82 rfl (la hl 3 rfl) ?_
    obtain ⟨v13, g13, hrun⟩ := bd hrun
    refine s_getfr hx hb hts kl_6 hown hE.1 hM (ci := 6) rfl (by decide) rfl (k := 17) (by decide) rfl (hts _ kw_685) g13 dX6_fromSlabs_83 ?_
    refine lv_iload_n hx hb dX6_fromSlabs_86 rfl (la hl 1 rfl) ?_
    refine s_aload_n hx hb dX6_fromSlabs_87 rfl (la hl 3 rfl) ?_
    obtain ⟨v14, g14, hrun⟩ := bd hrun
    refine s_getfr hx hb hts kl_6 hown hE.1 hM (ci := 6) rfl (by decide) rfl (k := 19) (by decide) rfl (hts _ kw_687) g14 dX6_fromSlabs_88 ?_
    refine lv_iload hx hb dX6_fromSlabs_91 (la hl 0 rfl) ?_
    obtain ⟨v15, g15, hrun⟩ := bd hrun
    refine s_iald hx hb hE.1 hM i_v12 g15 dX6_fromSlabs_93 ?_
    have i_v15 : inr v15 := ald_i hM g15 (by decide) (by decide)
    obtain ⟨h16, g16, hrun⟩ := bd hrun
    refine s_iast hx hb hE.1 hM hS i_v10 i_v15 g16 dX6_fromSlabs_94 (fun H locs hM hS => ?_)
    refine s_aload_n hx hb dX6_fromSlabs_95 rfl (la hl 3 rfl) ?_
    refine lv_iload_n hx hb dX6_fromSlabs_96 rfl (la hl 1 rfl) ?_
    refine lv_iconst (v := Int32.ofInt 1) hx hb dX6_fromSlabs_97 rfl ?_
    obtain ⟨u18, g18, hrun⟩ := bd hrun
    obtain ⟨r17, g17, hrun⟩ := bd hrun
    refine s_callV (n := 2) (rest := []) [vi v10, vi 1] hx hb hml hown hts hE hM hS (c_X6_change l D G base h16 r17.2 x0 v10 1 r17.1 i_v10 (by decide) g17) kw_789 kw_786 kw_40 kw_788 kw_20 (by decide +kernel) ⟨Nat.le_of_ble_eq_true rfl, Nat.le_of_ble_eq_true rfl⟩ rfl rfl (by decide) g18 rfl hl.1.1 rfl (c8 c_0 (Nat.le_of_ble_eq_true rfl)) dX6_fromSlabs_98 ⟨Nat.le_of_ble_eq_true rfl, Nat.le_of_ble_eq_true rfl⟩ (fun H locs i_r17 hM hS => ?_)
    refine W.eq (g2 := F0 m 101 ls []) rfl ?_
    refine lv_iload hx hb dX6_fromSlabs_101 (la hl 0 rfl) ?_
    exact s_iret hx hb hr hlocks hM hS i_v12 hrun (Nat.le_of_ble_eq_true rfl) (Nat.le_of_ble_eq_true rfl) dX6_fromSlabs_103
  have j36 : ∀ (h : Hp) (x0 x1 : Int) (H : Heap) (locs : List Loc) (ls : Array Slot), inr x1 → SM D G base h H → va_S (Ab base) s.heap H locs → lvh ls 5 [(0, vr x0), (1, vi x1)] → f_X6_fromSlabs_j36 h x0 x1 = some (rv, h') → W p l e (headSpec w_X6_fromSlabs rm_X6_fromSlabs).room s m args below meth c H locs 0 0 (QI D G base rv h' below args s 0 0) (F0 m 36 ls []) := by
    intro h x0 x1 H locs ls i_x1 hM hS hl hrun
    unfold f_X6_fromSlabs_j36 at hrun
    refine s_aload_n hx hb dX6_fromSlabs_36 rfl (la hl 0 rfl) ?_
    obtain ⟨v7, g7, hrun⟩ := bd hrun
    refine s_getfr hx hb hts kl_6 hown hE.1 hM (ci := 6) rfl (by decide) rfl (k := 21) (by decide) rfl (hts _ kw_689) g7 dX6_fromSlabs_37 ?_
    refine lv_iconst (v := Int32.ofInt 3) hx hb dX6_fromSlabs_40 rfl ?_
    refine lv_iload_n hx hb dX6_fromSlabs_41 rfl (la hl 1 rfl) ?_
    refine s_imul hx hb dX6_fromSlabs_42 ?_
    refine lv_iconst (v := Int32.ofInt 1) hx hb dX6_fromSlabs_43 rfl ?_
    refine s_iadd hx hb dX6_fromSlabs_44 ?_
    obtain ⟨v8, g8, hrun⟩ := bd hrun
    refine s_iald hx hb hE.1 hM (inr_wr _) g8 dX6_fromSlabs_45 ?_
    have i_v8 : inr v8 := ald_i hM g8 (by decide) (by decide)
    refine s_if_le (tgt := 57) hx hb dX6_fromSlabs_46 (by decide) i_v8 (fun cd => ?_) (fun cd => ?_)
    · replace hrun := it_pos cd hrun
      refine lv_iconst (v := Int32.ofInt 3) hx hb dX6_fromSlabs_57 rfl ?_
      refine lv_iload_n hx hb dX6_fromSlabs_58 rfl (la hl 1 rfl) ?_
      refine s_imul hx hb dX6_fromSlabs_59 ?_
      refine lv_iconst (v := Int32.ofInt 2) hx hb dX6_fromSlabs_60 rfl ?_
      refine s_iadd hx hb dX6_fromSlabs_61 ?_
      exact j62 h x0 (wr ((wr (3 * x1)) + 2)) H locs ls (inr_wr _) hM hS (lsub hl [0] rfl) hrun
    · replace hrun := it_neg cd hrun
      refine lv_iconst (v := Int32.ofInt 3) hx hb dX6_fromSlabs_49 rfl ?_
      refine lv_iload_n hx hb dX6_fromSlabs_50 rfl (la hl 1 rfl) ?_
      refine s_imul hx hb dX6_fromSlabs_51 ?_
      refine lv_iconst (v := Int32.ofInt 1) hx hb dX6_fromSlabs_52 rfl ?_
      refine s_iadd hx hb dX6_fromSlabs_53 ?_
      refine lv_goto (tgt := 62) hx hb dX6_fromSlabs_54 (by decide) ?_
      exact j62 h x0 (wr ((wr (3 * x1)) + 1)) H locs ls (inr_wr _) hM hS (lsub hl [0] rfl) hrun
  refine s_entry hargs hM (c_r (c_i c_0)) (Nat.le_of_ble_eq_true rfl) (fun H locs ls hM hS hl => ?_)
  replace hl : lvh ls 5 [(0, vr x0), (1, vi x1)] := hl
  unfold f_X6_fromSlabs at hrun
  refine s_aload_n hx hb dX6_fromSlabs_0 rfl (la hl 0 rfl) ?_
  obtain ⟨v1, g1, hrun⟩ := bd hrun
  refine s_getfr hx hb hts kl_6 hown hE.1 hM (ci := 6) rfl (by decide) rfl (k := 21) (by decide) rfl (hts _ kw_689) g1 dX6_fromSlabs_1 ?_
  refine lv_iconst (v := Int32.ofInt 3) hx hb dX6_fromSlabs_4 rfl ?_
  refine lv_iload_n hx hb dX6_fromSlabs_5 rfl (la hl 1 rfl) ?_
  refine s_imul hx hb dX6_fromSlabs_6 ?_
  refine lv_iconst (v := Int32.ofInt 1) hx hb dX6_fromSlabs_7 rfl ?_
  refine s_iadd hx hb dX6_fromSlabs_8 ?_
  obtain ⟨v2, g2, hrun⟩ := bd hrun
  refine s_iald hx hb hE.1 hM (inr_wr _) g2 dX6_fromSlabs_9 ?_
  have i_v2 : inr v2 := ald_i hM g2 (by decide) (by decide)
  refine s_if_ne (tgt := 36) hx hb dX6_fromSlabs_10 (by decide) i_v2 (fun cd => ?_) (fun cd => ?_)
  · replace hrun := it_pos cd hrun
    exact j36 h x0 x1 H locs ls i_x1 hM hS (lsub hl [0, 1] rfl) hrun
  · replace hrun := it_neg cd hrun
    refine s_aload_n hx hb dX6_fromSlabs_13 rfl (la hl 0 rfl) ?_
    obtain ⟨v3, g3, hrun⟩ := bd hrun
    refine s_getfr hx hb hts kl_6 hown hE.1 hM (ci := 6) rfl (by decide) rfl (k := 21) (by decide) rfl (hts _ kw_689) g3 dX6_fromSlabs_14 ?_
    refine lv_iconst (v := Int32.ofInt 3) hx hb dX6_fromSlabs_17 rfl ?_
    refine lv_iload_n hx hb dX6_fromSlabs_18 rfl (la hl 1 rfl) ?_
    refine s_imul hx hb dX6_fromSlabs_19 ?_
    refine lv_iconst (v := Int32.ofInt 2) hx hb dX6_fromSlabs_20 rfl ?_
    refine s_iadd hx hb dX6_fromSlabs_21 ?_
    obtain ⟨v4, g4, hrun⟩ := bd hrun
    refine s_iald hx hb hE.1 hM (inr_wr _) g4 dX6_fromSlabs_22 ?_
    have i_v4 : inr v4 := ald_i hM g4 (by decide) (by decide)
    refine s_if_ne (tgt := 36) hx hb dX6_fromSlabs_23 (by decide) i_v4 (fun cd => ?_) (fun cd => ?_)
    · replace hrun := it_pos cd hrun
      exact j36 h x0 x1 H locs ls i_x1 hM hS (lsub hl [0, 1] rfl) hrun
    · replace hrun := it_neg cd hrun
      refine s_aload_n hx hb dX6_fromSlabs_26 rfl (la hl 0 rfl) ?_
      refine lv_iload_n hx hb dX6_fromSlabs_27 rfl (la hl 1 rfl) ?_
      obtain ⟨u6, g6, hrun⟩ := bd hrun
      obtain ⟨r5, g5, hrun⟩ := bd hrun
      refine s_callV (n := 1) (rest := []) [vi x1] hx hb hml hown hts hE hM hS (c_X6_makeSlab l D G base h r5.2 x0 x1 r5.1 i_x1 g5) kw_833 kw_830 kw_40 kw_832 kw_30 (by decide +kernel) ⟨Nat.le_of_ble_eq_true rfl, Nat.le_of_ble_eq_true rfl⟩ rfl rfl (by decide) g6 rfl hl.1.1 rfl (c8 c_0 (Nat.le_of_ble_eq_true rfl)) dX6_fromSlabs_28 ⟨Nat.le_of_ble_eq_true rfl, Nat.le_of_ble_eq_true rfl⟩ (fun H locs i_r5 hM hS => ?_)
      refine W.eq (g2 := F0 m 31 ls [vi r5.1]) rfl ?_
      refine s_if_ne (tgt := 36) hx hb dX6_fromSlabs_31 (by decide) i_r5 (fun cd => ?_) (fun cd => ?_)
      · replace hrun := it_pos cd hrun
        exact j36 r5.2 x0 x1 H locs ls i_x1 hM hS (lsub hl [0, 1] rfl) hrun
      · replace hrun := it_neg cd hrun
        refine lv_iconst (v := Int32.ofInt (-1)) hx hb dX6_fromSlabs_34 rfl ?_
        exact s_iret hx hb hr hlocks hM hS (by decide) hrun (Nat.le_of_ble_eq_true rfl) (Nat.le_of_ble_eq_true rfl) dX6_fromSlabs_35
def f_X6_toSlab (h : Hp) (x0 x1 : Int) : Option (Int × Hp) :=
  Option.bind (gtf h 6 2 x0) fun v1 =>
  Option.bind (idv x1 128) fun v2 =>
  Option.bind (ald h 8 v1 v2) fun v3 =>
  Option.bind (gtf h 6 18 x0) fun v4 =>
  Option.bind (ast h 8 v4 x1 1) fun h5 =>
  Option.bind (gtf h5 6 19 x0) fun v6 =>
  Option.bind (gtf h5 6 17 x0) fun v7 =>
  Option.bind (ald h5 8 v7 v3) fun v8 =>
  Option.bind (ast h5 8 v6 x1 v8) fun h9 =>
  Option.bind (gtf h9 6 17 x0) fun v10 =>
  Option.bind (ast h9 8 v10 v3 x1) fun h11 =>
  Option.bind (ckd h11 6 x0) fun u13 =>
  Option.bind (f_X6_change h11 x0 v3 (-1)) fun r12 =>
  some (0, r12.2)
abbrev w_X6_toSlab : List Cond := Cond.code yX6_toSlab cX6_toSlab 3 none :: BW
abbrev rm_X6_toSlab : Room := { frames := 2, cells := 0, slots := 0, locals := 50 }
set_option maxHeartbeats 4000000 in
set_option maxRecDepth 100000 in
theorem c_X6_toSlab (l : Launch) (D : va_G) (G : Nat → ClassId) (base : Nat) (h h' : Hp) (x0 x1 : Int) (rv : Int) (i_x1 : inr x1) (hrun : f_X6_toSlab h x0 x1 = some (rv, h')) : Met l yX6_toSlab w_X6_toSlab rm_X6_toSlab (PC l D G base h [vr x0, vi x1]) (QR D G base none True h') rm_X6_toSlab.cells rm_X6_toSlab.slots (Ab base) := by
  refine Met.ofW (cc := cX6_toSlab) (maxL := 3) (ret := none) (by decide) rfl ?_
  intro p e s m args below meth c s₁ B hml hv
  obtain ⟨hargs, hE, hM⟩ := hv
  have hx := B.exec
  have hb := B.bytes
  have hr := B.returns
  have hts0 := atoms_spec (ws := w_X6_toSlab) B.pre
  have hts : ∀ w ∈ BW, w.before args s = true := fun w hw => hts0 w (List.mem_cons_of_mem _ hw)
  have hown : s.vm.findClass RX6 = some m.cls := findClass_of_methodNamed B.named
  have hlocks := B.notSynchronized
  refine s_entry hargs hM (c_r (c_i c_0)) (Nat.le_of_ble_eq_true rfl) (fun H locs ls hM hS hl => ?_)
  replace hl : lvh ls 3 [(0, vr x0), (1, vi x1)] := hl
  unfold f_X6_toSlab at hrun
  refine s_aload_n hx hb dX6_toSlab_0 rfl (la hl 0 rfl) ?_
  obtain ⟨v1, g1, hrun⟩ := bd hrun
  refine s_getfr hx hb hts kl_6 hown hE.1 hM (ci := 6) rfl (by decide) rfl (k := 2) (by decide) rfl (hts _ kw_670) g1 dX6_toSlab_1 ?_
  refine lv_iload_n hx hb dX6_toSlab_4 rfl (la hl 1 rfl) ?_
  refine lv_sipush (v := Int32.ofInt 128) hx hb dX6_toSlab_5 (by decide) ?_
  obtain ⟨v2, g2, hrun⟩ := bd hrun
  refine s_idiv hx hb i_x1 (by decide) g2 dX6_toSlab_8 ?_
  have i_v2 : inr v2 := inr_dv g2
  obtain ⟨v3, g3, hrun⟩ := bd hrun
  refine s_iald hx hb hE.1 hM i_v2 g3 dX6_toSlab_9 ?_
  have i_v3 : inr v3 := ald_i hM g3 (by decide) (by decide)
  refine t_istore_n (lv' := [(2, vi v3), (0, vr x0), (1, vi x1)]) hx hb dX6_toSlab_10 rfl hl (by decide) rfl (fun ls hl => ?_)
  refine s_aload_n hx hb dX6_toSlab_11 rfl (la hl 1 rfl) ?_
  obtain ⟨v4, g4, hrun⟩ := bd hrun
  refine s_getfr hx hb hts kl_6 hown hE.1 hM (ci := 6) rfl (by decide) rfl (k := 18) (by decide) rfl (hts _ kw_686) g4 dX6_toSlab_12 ?_
  refine lv_iload_n hx hb dX6_toSlab_15 rfl (la hl 2 rfl) ?_
  refine lv_iconst (v := Int32.ofInt 1) hx hb dX6_toSlab_16 rfl ?_
  obtain ⟨h5, g5, hrun⟩ := bd hrun
  refine s_iast hx hb hE.1 hM hS i_x1 (by decide) g5 dX6_toSlab_17 (fun H locs hM hS => ?_)
  refine s_aload_n hx hb dX6_toSlab_18 rfl (la hl 1 rfl) ?_
  obtain ⟨v6, g6, hrun⟩ := bd hrun
  refine s_getfr hx hb hts kl_6 hown hE.1 hM (ci := 6) rfl (by decide) rfl (k := 19) (by decide) rfl (hts _ kw_687) g6 dX6_toSlab_19 ?_
  refine lv_iload_n hx hb dX6_toSlab_22 rfl (la hl 2 rfl) ?_
  refine s_aload_n hx hb dX6_toSlab_23 rfl (la hl 1 rfl) ?_
  obtain ⟨v7, g7, hrun⟩ := bd hrun
  refine s_getfr hx hb hts kl_6 hown hE.1 hM (ci := 6) rfl (by decide) rfl (k := 17) (by decide) rfl (hts _ kw_685) g7 dX6_toSlab_24 ?_
  refine lv_iload_n hx hb dX6_toSlab_27 rfl (la hl 0 rfl) ?_
  obtain ⟨v8, g8, hrun⟩ := bd hrun
  refine s_iald hx hb hE.1 hM i_v3 g8 dX6_toSlab_28 ?_
  have i_v8 : inr v8 := ald_i hM g8 (by decide) (by decide)
  obtain ⟨h9, g9, hrun⟩ := bd hrun
  refine s_iast hx hb hE.1 hM hS i_x1 i_v8 g9 dX6_toSlab_29 (fun H locs hM hS => ?_)
  refine s_aload_n hx hb dX6_toSlab_30 rfl (la hl 1 rfl) ?_
  obtain ⟨v10, g10, hrun⟩ := bd hrun
  refine s_getfr hx hb hts kl_6 hown hE.1 hM (ci := 6) rfl (by decide) rfl (k := 17) (by decide) rfl (hts _ kw_685) g10 dX6_toSlab_31 ?_
  refine lv_iload_n hx hb dX6_toSlab_34 rfl (la hl 0 rfl) ?_
  refine lv_iload_n hx hb dX6_toSlab_35 rfl (la hl 2 rfl) ?_
  obtain ⟨h11, g11, hrun⟩ := bd hrun
  refine s_iast hx hb hE.1 hM hS i_v3 i_x1 g11 dX6_toSlab_36 (fun H locs hM hS => ?_)
  refine s_aload_n hx hb dX6_toSlab_37 rfl (la hl 1 rfl) ?_
  refine lv_iload_n hx hb dX6_toSlab_38 rfl (la hl 0 rfl) ?_
  refine lv_iconst (v := Int32.ofInt (-1)) hx hb dX6_toSlab_39 rfl ?_
  obtain ⟨u13, g13, hrun⟩ := bd hrun
  obtain ⟨r12, g12, hrun⟩ := bd hrun
  refine s_callV (n := 2) (rest := []) [vi v3, vi (-1)] hx hb hml hown hts hE hM hS (c_X6_change l D G base h11 r12.2 x0 v3 (-1) r12.1 i_v3 (by decide) g12) kw_789 kw_786 kw_40 kw_788 kw_20 (by decide +kernel) ⟨Nat.le_of_ble_eq_true rfl, Nat.le_of_ble_eq_true rfl⟩ rfl rfl (by decide) g13 rfl hl.1.1 rfl (c8 c_0 (Nat.le_of_ble_eq_true rfl)) dX6_toSlab_40 ⟨Nat.le_of_ble_eq_true rfl, Nat.le_of_ble_eq_true rfl⟩ (fun H locs i_r12 hM hS => ?_)
  refine W.eq (g2 := F0 m 43 ls []) rfl ?_
  exact s_vret hx hb hr hlocks hM hS hrun (Nat.le_of_ble_eq_true rfl) (Nat.le_of_ble_eq_true rfl) dX6_toSlab_43
def f_X6_cache_j113 (h : Hp) (x0 x1 x2 x3 x4 x6 x7 s0 s1 : Int) : Option (Int × Hp) :=
  Option.bind (ckd h 6 s0) fun u6 =>
  Option.bind (f_X6_refused h s0 s1) fun r5 =>
  if r5.1 = 0 then (
    Option.bind (gtf r5.2 6 3 x0) fun v7 =>
    if v7 ≠ 8 then (
      Option.bind (gtf r5.2 6 5 x0) fun v8 =>
      Option.bind (gtf r5.2 6 3 x0) fun v9 =>
      Option.bind (ast r5.2 8 v8 v9 x1) fun h10 =>
      Option.bind (gtf h10 6 6 x0) fun v11 =>
      Option.bind (gtf h10 6 3 x0) fun v12 =>
      Option.bind (ast h10 8 v11 v12 x2) fun h13 =>
      Option.bind (gtf h13 6 7 x0) fun v14 =>
      Option.bind (gtf h13 6 3 x0) fun v15 =>
      Option.bind (ast h13 8 v14 v15 x3) fun h16 =>
      Option.bind (gtf h16 6 8 x0) fun v17 =>
      Option.bind (gtf h16 6 3 x0) fun v18 =>
      Option.bind (ast h16 8 v17 v18 x4) fun h19 =>
      Option.bind (gtf h19 6 9 x0) fun v20 =>
      Option.bind (gtf h19 6 3 x0) fun v21 =>
      Option.bind (ast h19 8 v20 v21 x6) fun h22 =>
      Option.bind (gtf h22 6 10 x0) fun v23 =>
      Option.bind (gtf h22 6 3 x0) fun v24 =>
      Option.bind (idv x7 x6) fun v25 =>
      Option.bind (ast h22 8 v23 v24 v25) fun h26 =>
      Option.bind (gtf h26 6 11 x0) fun v27 =>
      Option.bind (gtf h26 6 3 x0) fun v28 =>
      Option.bind (irm x7 x6) fun v29 =>
      Option.bind (idv v29 x2) fun v30 =>
      Option.bind (ast h26 8 v27 v28 (wr (v30 + 1))) fun h31 =>
      Option.bind (gtf h31 6 3 x0) fun v32 =>
      Option.bind (ptf h31 6 3 x0 (wr (v32 + 1))) fun h33 =>
      Option.bind (gtf h33 6 3 x0) fun v34 =>
      some (wr (v34 - 1), h33)
    ) else (
      some ((-1), r5.2)
    )
  ) else (
    some (0, r5.2)
  )
def f_X6_cache_j108 (h : Hp) (x0 x1 x2 x3 x4 x6 x7 s0 : Int) : Option (Int × Hp) :=
  f_X6_cache_j113 h x0 x1 x2 x3 x4 x6 x7 s0 1
def f_X6_cache_j93 (h : Hp) (x0 x1 x2 x3 x4 x5 x6 s0 : Int) : Option (Int × Hp) :=
  if x5 = 0 then (
    f_X6_cache_j108 h x0 x1 x2 x3 x4 x6 s0 x0
  ) else (
    if x6 ≤ s0 then (
      f_X6_cache_j113 h x0 x1 x2 x3 x4 x6 s0 x0 0
    ) else (
      f_X6_cache_j108 h x0 x1 x2 x3 x4 x6 s0 x0
    )
  )
def f_X6_cache_j77 (h : Hp) (x0 x1 x2 x3 x4 x5 s0 : Int) : Option (Int × Hp) :=
  if x5 = 0 then (
    f_X6_cache_j93 h x0 x1 x2 x3 x4 x5 s0 0
  ) else (
    f_X6_cache_j93 h x0 x1 x2 x3 x4 x5 s0 (ish 1024 x3)
  )
def f_X6_cache_j57 (h : Hp) (x0 x1 x2 x3 x4 s0 : Int) : Option (Int × Hp) :=
  if s0 = 0 then (
    f_X6_cache_j77 h x0 x1 x2 x3 x4 s0 1
  ) else (
    Option.bind (idv (wr ((wr (x1 + x2)) - 1)) x2) fun v4 =>
    f_X6_cache_j77 h x0 x1 x2 x3 x4 s0 (wr (v4 * x2))
  )
def f_X6_cache_j56 (h : Hp) (x0 x1 x2 x3 x4 : Int) : Option (Int × Hp) :=
  f_X6_cache_j57 h x0 x1 x2 x3 x4 0
def f_X6_cache_j43 (h : Hp) (x0 x1 x2 x3 x4 : Int) : Option (Int × Hp) :=
  Option.bind (f_X6_isIn h x3 0 3) fun r3 =>
  if r3.1 = 0 then (
    f_X6_cache_j56 r3.2 x0 x1 x2 x3 x4
  ) else (
    f_X6_cache_j57 r3.2 x0 x1 x2 x3 x4 1
  )
def f_X6_cache (h : Hp) (x0 x1 x2 x3 x4 : Int) : Option (Int × Hp) :=
  Option.bind (f_X6_isIn h x1 8 4096) fun r1 =>
  if r1.1 = 0 then (
    f_X6_cache_j56 r1.2 x0 x1 x2 x3 x4
  ) else (
    Option.bind (irm x1 8) fun v2 =>
    if v2 ≠ 0 then (
      f_X6_cache_j56 r1.2 x0 x1 x2 x3 x4
    ) else (
      if x2 = 8 then (
        f_X6_cache_j43 r1.2 x0 x1 x2 x3 x4
      ) else (
        if x2 = 16 then (
          f_X6_cache_j43 r1.2 x0 x1 x2 x3 x4
        ) else (
          if x2 = 32 then (
            f_X6_cache_j43 r1.2 x0 x1 x2 x3 x4
          ) else (
            if x2 ≠ 64 then (
              f_X6_cache_j56 r1.2 x0 x1 x2 x3 x4
            ) else (
              f_X6_cache_j43 r1.2 x0 x1 x2 x3 x4
            )
          )
        )
      )
    )
  )
abbrev w_X6_cache : List Cond := Cond.code yX6_cache cX6_cache 8 (some .int) :: BW
abbrev rm_X6_cache : Room := { frames := 1, cells := 0, slots := 0, locals := 22 }
set_option maxHeartbeats 4000000 in
set_option maxRecDepth 100000 in
theorem c_X6_cache (l : Launch) (D : va_G) (G : Nat → ClassId) (base : Nat) (h h' : Hp) (x0 x1 x2 x3 x4 : Int) (rv : Int) (i_x1 : inr x1) (i_x2 : inr x2) (i_x3 : inr x3) (i_x4 : inr x4) (hrun : f_X6_cache h x0 x1 x2 x3 x4 = some (rv, h')) : Met l yX6_cache w_X6_cache rm_X6_cache (PC l D G base h [vr x0, vi x1, vi x2, vi x3, vi x4]) (QR D G base (some (vi rv)) (inr rv) h') rm_X6_cache.cells rm_X6_cache.slots (Ab base) := by
  refine Met.ofW (cc := cX6_cache) (maxL := 8) (ret := (some .int)) (by decide) rfl ?_
  intro p e s m args below meth c s₁ B hml hv
  obtain ⟨hargs, hE, hM⟩ := hv
  have hx := B.exec
  have hb := B.bytes
  have hr := B.returns
  have hts0 := atoms_spec (ws := w_X6_cache) B.pre
  have hts : ∀ w ∈ BW, w.before args s = true := fun w hw => hts0 w (List.mem_cons_of_mem _ hw)
  have hown : s.vm.findClass RX6 = some m.cls := findClass_of_methodNamed B.named
  have hlocks := B.notSynchronized
  have j113 : ∀ (h : Hp) (x0 x1 x2 x3 x4 x6 x7 s0 s1 : Int) (H : Heap) (locs : List Loc) (ls : Array Slot), inr x1 → inr x2 → inr x3 → inr x4 → inr x6 → inr x7 → inr s1 → SM D G base h H → va_S (Ab base) s.heap H locs → lvh ls 8 [(0, vr x0), (1, vi x1), (2, vi x2), (3, vi x3), (4, vi x4), (6, vi x6), (7, vi x7)] → f_X6_cache_j113 h x0 x1 x2 x3 x4 x6 x7 s0 s1 = some (rv, h') → W p l e (headSpec w_X6_cache rm_X6_cache).room s m args below meth c H locs 0 0 (QI D G base rv h' below args s 0 0) (F0 m 113 ls [vi s1, vr s0]) := by
    intro h x0 x1 x2 x3 x4 x6 x7 s0 s1 H locs ls i_x1 i_x2 i_x3 i_x4 i_x6 i_x7 i_s1 hM hS hl hrun
    unfold f_X6_cache_j113 at hrun
    obtain ⟨u6, g6, hrun⟩ := bd hrun
    obtain ⟨r5, g5, hrun⟩ := bd hrun
    refine s_callV (n := 1) (rest := []) [vi s1] hx hb hml hown hts hE hM hS (c_X6_refused l D G base h r5.2 s0 s1 r5.1 i_s1 g5) kw_765 kw_762 kw_40 kw_764 kw_15 (by decide +kernel) ⟨Nat.le_of_ble_eq_true rfl, Nat.le_of_ble_eq_true rfl⟩ rfl rfl (by decide) g6 rfl hl.1.1 rfl (c8 c_0 (Nat.le_of_ble_eq_true rfl)) dX6_cache_113 ⟨Nat.le_of_ble_eq_true rfl, Nat.le_of_ble_eq_true rfl⟩ (fun H locs i_r5 hM hS => ?_)
    refine W.eq (g2 := F0 m 116 ls [vi r5.1]) rfl ?_
    refine s_if_eq (tgt := 121) hx hb dX6_cache_116 (by decide) i_r5 (fun cd => ?_) (fun cd => ?_)
    · replace hrun := it_pos cd hrun
      refine s_aload_n hx hb dX6_cache_121 rfl (la hl 0 rfl) ?_
      obtain ⟨v7, g7, hrun⟩ := bd hrun
      refine s_getfi hx hb hts kl_6 hown hE.1 hM (ci := 6) rfl (by decide) rfl (k := 3) (by decide) rfl (hts _ kw_671) g7 dX6_cache_122 ?_
      have i_v7 : inr v7 := gtf_i hM g7 (by decide) rfl
      refine lv_bipush (v := Int32.ofInt 8) hx hb dX6_cache_125 (by decide) ?_
      refine s_icmp_ne (tgt := 132) hx hb dX6_cache_127 (by decide) i_v7 (by decide) (fun cd => ?_) (fun cd => ?_)
      · replace hrun := it_pos cd hrun
        refine s_aload_n hx hb dX6_cache_132 rfl (la hl 0 rfl) ?_
        obtain ⟨v8, g8, hrun⟩ := bd hrun
        refine s_getfr hx hb hts kl_6 hown hE.1 hM (ci := 6) rfl (by decide) rfl (k := 5) (by decide) rfl (hts _ kw_673) g8 dX6_cache_133 ?_
        refine s_aload_n hx hb dX6_cache_136 rfl (la hl 0 rfl) ?_
        obtain ⟨v9, g9, hrun⟩ := bd hrun
        refine s_getfi hx hb hts kl_6 hown hE.1 hM (ci := 6) rfl (by decide) rfl (k := 3) (by decide) rfl (hts _ kw_671) g9 dX6_cache_137 ?_
        have i_v9 : inr v9 := gtf_i hM g9 (by decide) rfl
        refine lv_iload_n hx hb dX6_cache_140 rfl (la hl 1 rfl) ?_
        obtain ⟨h10, g10, hrun⟩ := bd hrun
        refine s_iast hx hb hE.1 hM hS i_v9 i_x1 g10 dX6_cache_141 (fun H locs hM hS => ?_)
        refine s_aload_n hx hb dX6_cache_142 rfl (la hl 0 rfl) ?_
        obtain ⟨v11, g11, hrun⟩ := bd hrun
        refine s_getfr hx hb hts kl_6 hown hE.1 hM (ci := 6) rfl (by decide) rfl (k := 6) (by decide) rfl (hts _ kw_674) g11 dX6_cache_143 ?_
        refine s_aload_n hx hb dX6_cache_146 rfl (la hl 0 rfl) ?_
        obtain ⟨v12, g12, hrun⟩ := bd hrun
        refine s_getfi hx hb hts kl_6 hown hE.1 hM (ci := 6) rfl (by decide) rfl (k := 3) (by decide) rfl (hts _ kw_671) g12 dX6_cache_147 ?_
        have i_v12 : inr v12 := gtf_i hM g12 (by decide) rfl
        refine lv_iload_n hx hb dX6_cache_150 rfl (la hl 2 rfl) ?_
        obtain ⟨h13, g13, hrun⟩ := bd hrun
        refine s_iast hx hb hE.1 hM hS i_v12 i_x2 g13 dX6_cache_151 (fun H locs hM hS => ?_)
        refine s_aload_n hx hb dX6_cache_152 rfl (la hl 0 rfl) ?_
        obtain ⟨v14, g14, hrun⟩ := bd hrun
        refine s_getfr hx hb hts kl_6 hown hE.1 hM (ci := 6) rfl (by decide) rfl (k := 7) (by decide) rfl (hts _ kw_675) g14 dX6_cache_153 ?_
        refine s_aload_n hx hb dX6_cache_156 rfl (la hl 0 rfl) ?_
        obtain ⟨v15, g15, hrun⟩ := bd hrun
        refine s_getfi hx hb hts kl_6 hown hE.1 hM (ci := 6) rfl (by decide) rfl (k := 3) (by decide) rfl (hts _ kw_671) g15 dX6_cache_157 ?_
        have i_v15 : inr v15 := gtf_i hM g15 (by decide) rfl
        refine lv_iload_n hx hb dX6_cache_160 rfl (la hl 3 rfl) ?_
        obtain ⟨h16, g16, hrun⟩ := bd hrun
        refine s_iast hx hb hE.1 hM hS i_v15 i_x3 g16 dX6_cache_161 (fun H locs hM hS => ?_)
        refine s_aload_n hx hb dX6_cache_162 rfl (la hl 0 rfl) ?_
        obtain ⟨v17, g17, hrun⟩ := bd hrun
        refine s_getfr hx hb hts kl_6 hown hE.1 hM (ci := 6) rfl (by decide) rfl (k := 8) (by decide) rfl (hts _ kw_676) g17 dX6_cache_163 ?_
        refine s_aload_n hx hb dX6_cache_166 rfl (la hl 0 rfl) ?_
        obtain ⟨v18, g18, hrun⟩ := bd hrun
        refine s_getfi hx hb hts kl_6 hown hE.1 hM (ci := 6) rfl (by decide) rfl (k := 3) (by decide) rfl (hts _ kw_671) g18 dX6_cache_167 ?_
        have i_v18 : inr v18 := gtf_i hM g18 (by decide) rfl
        refine lv_iload hx hb dX6_cache_170 (la hl 4 rfl) ?_
        obtain ⟨h19, g19, hrun⟩ := bd hrun
        refine s_iast hx hb hE.1 hM hS i_v18 i_x4 g19 dX6_cache_172 (fun H locs hM hS => ?_)
        refine s_aload_n hx hb dX6_cache_173 rfl (la hl 0 rfl) ?_
        obtain ⟨v20, g20, hrun⟩ := bd hrun
        refine s_getfr hx hb hts kl_6 hown hE.1 hM (ci := 6) rfl (by decide) rfl (k := 9) (by decide) rfl (hts _ kw_677) g20 dX6_cache_174 ?_
        refine s_aload_n hx hb dX6_cache_177 rfl (la hl 0 rfl) ?_
        obtain ⟨v21, g21, hrun⟩ := bd hrun
        refine s_getfi hx hb hts kl_6 hown hE.1 hM (ci := 6) rfl (by decide) rfl (k := 3) (by decide) rfl (hts _ kw_671) g21 dX6_cache_178 ?_
        have i_v21 : inr v21 := gtf_i hM g21 (by decide) rfl
        refine lv_iload hx hb dX6_cache_181 (la hl 5 rfl) ?_
        obtain ⟨h22, g22, hrun⟩ := bd hrun
        refine s_iast hx hb hE.1 hM hS i_v21 i_x6 g22 dX6_cache_183 (fun H locs hM hS => ?_)
        refine s_aload_n hx hb dX6_cache_184 rfl (la hl 0 rfl) ?_
        obtain ⟨v23, g23, hrun⟩ := bd hrun
        refine s_getfr hx hb hts kl_6 hown hE.1 hM (ci := 6) rfl (by decide) rfl (k := 10) (by decide) rfl (hts _ kw_678) g23 dX6_cache_185 ?_
        refine s_aload_n hx hb dX6_cache_188 rfl (la hl 0 rfl) ?_
        obtain ⟨v24, g24, hrun⟩ := bd hrun
        refine s_getfi hx hb hts kl_6 hown hE.1 hM (ci := 6) rfl (by decide) rfl (k := 3) (by decide) rfl (hts _ kw_671) g24 dX6_cache_189 ?_
        have i_v24 : inr v24 := gtf_i hM g24 (by decide) rfl
        refine lv_iload hx hb dX6_cache_192 (la hl 6 rfl) ?_
        refine lv_iload hx hb dX6_cache_194 (la hl 5 rfl) ?_
        obtain ⟨v25, g25, hrun⟩ := bd hrun
        refine s_idiv hx hb i_x7 i_x6 g25 dX6_cache_196 ?_
        have i_v25 : inr v25 := inr_dv g25
        obtain ⟨h26, g26, hrun⟩ := bd hrun
        refine s_iast hx hb hE.1 hM hS i_v24 i_v25 g26 dX6_cache_197 (fun H locs hM hS => ?_)
        refine s_aload_n hx hb dX6_cache_198 rfl (la hl 0 rfl) ?_
        obtain ⟨v27, g27, hrun⟩ := bd hrun
        refine s_getfr hx hb hts kl_6 hown hE.1 hM (ci := 6) rfl (by decide) rfl (k := 11) (by decide) rfl (hts _ kw_679) g27 dX6_cache_199 ?_
        refine s_aload_n hx hb dX6_cache_202 rfl (la hl 0 rfl) ?_
        obtain ⟨v28, g28, hrun⟩ := bd hrun
        refine s_getfi hx hb hts kl_6 hown hE.1 hM (ci := 6) rfl (by decide) rfl (k := 3) (by decide) rfl (hts _ kw_671) g28 dX6_cache_203 ?_
        have i_v28 : inr v28 := gtf_i hM g28 (by decide) rfl
        refine lv_iload hx hb dX6_cache_206 (la hl 6 rfl) ?_
        refine lv_iload hx hb dX6_cache_208 (la hl 5 rfl) ?_
        obtain ⟨v29, g29, hrun⟩ := bd hrun
        refine s_irem hx hb i_x7 i_x6 g29 dX6_cache_210 ?_
        have i_v29 : inr v29 := inr_rm i_x7 g29
        refine lv_iload_n hx hb dX6_cache_211 rfl (la hl 2 rfl) ?_
        obtain ⟨v30, g30, hrun⟩ := bd hrun
        refine s_idiv hx hb i_v29 i_x2 g30 dX6_cache_212 ?_
        have i_v30 : inr v30 := inr_dv g30
        refine lv_iconst (v := Int32.ofInt 1) hx hb dX6_cache_213 rfl ?_
        refine s_iadd hx hb dX6_cache_214 ?_
        obtain ⟨h31, g31, hrun⟩ := bd hrun
        refine s_iast hx hb hE.1 hM hS i_v28 (inr_wr _) g31 dX6_cache_215 (fun H locs hM hS => ?_)
        refine s_aload_n hx hb dX6_cache_216 rfl (la hl 0 rfl) ?_
        refine lv_dup hx hb dX6_cache_217 (vr_cat _) ?_
        obtain ⟨v32, g32, hrun⟩ := bd hrun
        refine s_getfi hx hb hts kl_6 hown hE.1 hM (ci := 6) rfl (by decide) rfl (k := 3) (by decide) rfl (hts _ kw_671) g32 dX6_cache_218 ?_
        have i_v32 : inr v32 := gtf_i hM g32 (by decide) rfl
        refine lv_iconst (v := Int32.ofInt 1) hx hb dX6_cache_221 rfl ?_
        refine s_iadd hx hb dX6_cache_222 ?_
        obtain ⟨h33, g33, hrun⟩ := bd hrun
        refine s_put (b := false) hx hb hts kl_6 tyX6 tyX6_ok nmX6 hown hE.1 hM hS (ci := 6) rfl (by decide) rfl (k := 3) (by decide) rfl (hts _ kw_671) rfl (vp_nar_int _) rfl (fun _ => (inr_wr _)) g33 dX6_cache_223 (fun H locs hM hS => ?_)
        refine s_aload_n hx hb dX6_cache_226 rfl (la hl 0 rfl) ?_
        obtain ⟨v34, g34, hrun⟩ := bd hrun
        refine s_getfi hx hb hts kl_6 hown hE.1 hM (ci := 6) rfl (by decide) rfl (k := 3) (by decide) rfl (hts _ kw_671) g34 dX6_cache_227 ?_
        have i_v34 : inr v34 := gtf_i hM g34 (by decide) rfl
        refine lv_iconst (v := Int32.ofInt 1) hx hb dX6_cache_230 rfl ?_
        refine s_isub hx hb dX6_cache_231 ?_
        exact s_iret hx hb hr hlocks hM hS (inr_wr _) hrun (Nat.le_of_ble_eq_true rfl) (Nat.le_of_ble_eq_true rfl) dX6_cache_232
      · replace hrun := it_neg cd hrun
        refine lv_iconst (v := Int32.ofInt (-1)) hx hb dX6_cache_130 rfl ?_
        exact s_iret hx hb hr hlocks hM hS (by decide) hrun (Nat.le_of_ble_eq_true rfl) (Nat.le_of_ble_eq_true rfl) dX6_cache_131
    · replace hrun := it_neg cd hrun
      refine lv_iconst (v := Int32.ofInt 0) hx hb dX6_cache_119 rfl ?_
      exact s_iret hx hb hr hlocks hM hS (by decide) hrun (Nat.le_of_ble_eq_true rfl) (Nat.le_of_ble_eq_true rfl) dX6_cache_120
  have j108 : ∀ (h : Hp) (x0 x1 x2 x3 x4 x6 x7 s0 : Int) (H : Heap) (locs : List Loc) (ls : Array Slot), inr x1 → inr x2 → inr x3 → inr x4 → inr x6 → inr x7 → SM D G base h H → va_S (Ab base) s.heap H locs → lvh ls 8 [(0, vr x0), (1, vi x1), (2, vi x2), (3, vi x3), (4, vi x4), (6, vi x6), (7, vi x7)] → f_X6_cache_j108 h x0 x1 x2 x3 x4 x6 x7 s0 = some (rv, h') → W p l e (headSpec w_X6_cache rm_X6_cache).room s m args below meth c H locs 0 0 (QI D G base rv h' below args s 0 0) (F0 m 108 ls [vr s0]) := by
    intro h x0 x1 x2 x3 x4 x6 x7 s0 H locs ls i_x1 i_x2 i_x3 i_x4 i_x6 i_x7 hM hS hl hrun
    unfold f_X6_cache_j108 at hrun
    refine lv_iconst (v := Int32.ofInt 1) hx hb dX6_cache_108 rfl ?_
    refine lv_goto (tgt := 113) hx hb dX6_cache_109 (by decide) ?_
    exact j113 h x0 x1 x2 x3 x4 x6 x7 s0 1 H locs ls i_x1 i_x2 i_x3 i_x4 i_x6 i_x7 (by decide) hM hS (lsub hl [0, 1, 2, 3, 4, 5, 6] rfl) hrun
  have j93 : ∀ (h : Hp) (x0 x1 x2 x3 x4 x5 x6 s0 : Int) (H : Heap) (locs : List Loc) (ls : Array Slot), inr x1 → inr x2 → inr x3 → inr x4 → inr x5 → inr x6 → inr s0 → SM D G base h H → va_S (Ab base) s.heap H locs → lvh ls 8 [(0, vr x0), (1, vi x1), (2, vi x2), (3, vi x3), (4, vi x4), (5, vi x5), (6, vi x6)] → f_X6_cache_j93 h x0 x1 x2 x3 x4 x5 x6 s0 = some (rv, h') → W p l e (headSpec w_X6_cache rm_X6_cache).room s m args below meth c H locs 0 0 (QI D G base rv h' below args s 0 0) (F0 m 93 ls [vi s0]) := by
    intro h x0 x1 x2 x3 x4 x5 x6 s0 H locs ls i_x1 i_x2 i_x3 i_x4 i_x5 i_x6 i_s0 hM hS hl hrun
    unfold f_X6_cache_j93 at hrun
    refine t_istore (lv' := [(7, vi s0), (0, vr x0), (1, vi x1), (2, vi x2), (3, vi x3), (4, vi x4), (5, vi x5), (6, vi x6)]) hx hb dX6_cache_93 hl (by decide) rfl (fun ls hl => ?_)
    refine s_aload_n hx hb dX6_cache_95 rfl (la hl 1 rfl) ?_
    refine lv_iload hx hb dX6_cache_96 (la hl 6 rfl) ?_
    refine s_if_eq (tgt := 108) hx hb dX6_cache_98 (by decide) i_x5 (fun cd => ?_) (fun cd => ?_)
    · replace hrun := it_pos cd hrun
      exact j108 h x0 x1 x2 x3 x4 x6 s0 x0 H locs ls i_x1 i_x2 i_x3 i_x4 i_x6 i_s0 hM hS (lsub hl [1, 2, 3, 4, 5, 7, 0] rfl) hrun
    · replace hrun := it_neg cd hrun
      refine lv_iload hx hb dX6_cache_101 (la hl 0 rfl) ?_
      refine lv_iload hx hb dX6_cache_103 (la hl 7 rfl) ?_
      refine s_icmp_ge (tgt := 112) hx hb dX6_cache_105 (by decide) i_s0 i_x6 (fun cd => ?_) (fun cd => ?_)
      · replace hrun := it_pos cd hrun
        refine lv_iconst (v := Int32.ofInt 0) hx hb dX6_cache_112 rfl ?_
        exact j113 h x0 x1 x2 x3 x4 x6 s0 x0 0 H locs ls i_x1 i_x2 i_x3 i_x4 i_x6 i_s0 (by decide) hM hS (lsub hl [1, 2, 3, 4, 5, 7, 0] rfl) hrun
      · replace hrun := it_neg cd hrun
        exact j108 h x0 x1 x2 x3 x4 x6 s0 x0 H locs ls i_x1 i_x2 i_x3 i_x4 i_x6 i_s0 hM hS (lsub hl [1, 2, 3, 4, 5, 7, 0] rfl) hrun
  have j77 : ∀ (h : Hp) (x0 x1 x2 x3 x4 x5 s0 : Int) (H : Heap) (locs : List Loc) (ls : Array Slot), inr x1 → inr x2 → inr x3 → inr x4 → inr x5 → inr s0 → SM D G base h H → va_S (Ab base) s.heap H locs → lvh ls 8 [(0, vr x0), (1, vi x1), (2, vi x2), (3, vi x3), (4, vi x4), (5, vi x5)] → f_X6_cache_j77 h x0 x1 x2 x3 x4 x5 s0 = some (rv, h') → W p l e (headSpec w_X6_cache rm_X6_cache).room s m args below meth c H locs 0 0 (QI D G base rv h' below args s 0 0) (F0 m 77 ls [vi s0]) := by
    intro h x0 x1 x2 x3 x4 x5 s0 H locs ls i_x1 i_x2 i_x3 i_x4 i_x5 i_s0 hM hS hl hrun
    unfold f_X6_cache_j77 at hrun
    refine t_istore (lv' := [(6, vi s0), (0, vr x0), (1, vi x1), (2, vi x2), (3, vi x3), (4, vi x4), (5, vi x5)]) hx hb dX6_cache_77 hl (by decide) rfl (fun ls hl => ?_)
    refine lv_iload hx hb dX6_cache_79 (la hl 6 rfl) ?_
    refine s_if_eq (tgt := 92) hx hb dX6_cache_81 (by decide) i_x5 (fun cd => ?_) (fun cd => ?_)
    · replace hrun := it_pos cd hrun
      refine lv_iconst (v := Int32.ofInt 0) hx hb dX6_cache_92 rfl ?_
      exact j93 h x0 x1 x2 x3 x4 x5 s0 0 H locs ls i_x1 i_x2 i_x3 i_x4 i_x5 i_s0 (by decide) hM hS (lsub hl [1, 2, 3, 4, 5, 6, 0] rfl) hrun
    · replace hrun := it_neg cd hrun
      refine lv_sipush (v := Int32.ofInt 1024) hx hb dX6_cache_84 (by decide) ?_
      refine lv_iload_n hx hb dX6_cache_87 rfl (la hl 4 rfl) ?_
      refine s_ishl hx hb dX6_cache_88 ?_
      refine lv_goto (tgt := 93) hx hb dX6_cache_89 (by decide) ?_
      exact j93 h x0 x1 x2 x3 x4 x5 s0 (ish 1024 x3) H locs ls i_x1 i_x2 i_x3 i_x4 i_x5 i_s0 (inr_sh _ _) hM hS (lsub hl [1, 2, 3, 4, 5, 6, 0] rfl) hrun
  have j57 : ∀ (h : Hp) (x0 x1 x2 x3 x4 s0 : Int) (H : Heap) (locs : List Loc) (ls : Array Slot), inr x1 → inr x2 → inr x3 → inr x4 → inr s0 → SM D G base h H → va_S (Ab base) s.heap H locs → lvh ls 8 [(0, vr x0), (1, vi x1), (2, vi x2), (3, vi x3), (4, vi x4)] → f_X6_cache_j57 h x0 x1 x2 x3 x4 s0 = some (rv, h') → W p l e (headSpec w_X6_cache rm_X6_cache).room s m args below meth c H locs 0 0 (QI D G base rv h' below args s 0 0) (F0 m 57 ls [vi s0]) := by
    intro h x0 x1 x2 x3 x4 s0 H locs ls i_x1 i_x2 i_x3 i_x4 i_s0 hM hS hl hrun
    unfold f_X6_cache_j57 at hrun
    refine t_istore (lv' := [(5, vi s0), (0, vr x0), (1, vi x1), (2, vi x2), (3, vi x3), (4, vi x4)]) hx hb dX6_cache_57 hl (by decide) rfl (fun ls hl => ?_)
    refine lv_iload hx hb dX6_cache_59 (la hl 0 rfl) ?_
    refine s_if_eq (tgt := 76) hx hb dX6_cache_61 (by decide) i_s0 (fun cd => ?_) (fun cd => ?_)
    · replace hrun := it_pos cd hrun
      refine lv_iconst (v := Int32.ofInt 1) hx hb dX6_cache_76 rfl ?_
      exact j77 h x0 x1 x2 x3 x4 s0 1 H locs ls i_x1 i_x2 i_x3 i_x4 i_s0 (by decide) hM hS (lsub hl [1, 2, 3, 4, 5, 0] rfl) hrun
    · replace hrun := it_neg cd hrun
      refine lv_iload_n hx hb dX6_cache_64 rfl (la hl 2 rfl) ?_
      refine lv_iload_n hx hb dX6_cache_65 rfl (la hl 3 rfl) ?_
      refine s_iadd hx hb dX6_cache_66 ?_
      refine lv_iconst (v := Int32.ofInt 1) hx hb dX6_cache_67 rfl ?_
      refine s_isub hx hb dX6_cache_68 ?_
      refine lv_iload_n hx hb dX6_cache_69 rfl (la hl 3 rfl) ?_
      obtain ⟨v4, g4, hrun⟩ := bd hrun
      refine s_idiv hx hb (inr_wr _) i_x2 g4 dX6_cache_70 ?_
      have i_v4 : inr v4 := inr_dv g4
      refine lv_iload_n hx hb dX6_cache_71 rfl (la hl 3 rfl) ?_
      refine s_imul hx hb dX6_cache_72 ?_
      refine lv_goto (tgt := 77) hx hb dX6_cache_73 (by decide) ?_
      exact j77 h x0 x1 x2 x3 x4 s0 (wr (v4 * x2)) H locs ls i_x1 i_x2 i_x3 i_x4 i_s0 (inr_wr _) hM hS (lsub hl [1, 2, 3, 4, 5, 0] rfl) hrun
  have j56 : ∀ (h : Hp) (x0 x1 x2 x3 x4 : Int) (H : Heap) (locs : List Loc) (ls : Array Slot), inr x1 → inr x2 → inr x3 → inr x4 → SM D G base h H → va_S (Ab base) s.heap H locs → lvh ls 8 [(0, vr x0), (1, vi x1), (2, vi x2), (3, vi x3), (4, vi x4)] → f_X6_cache_j56 h x0 x1 x2 x3 x4 = some (rv, h') → W p l e (headSpec w_X6_cache rm_X6_cache).room s m args below meth c H locs 0 0 (QI D G base rv h' below args s 0 0) (F0 m 56 ls []) := by
    intro h x0 x1 x2 x3 x4 H locs ls i_x1 i_x2 i_x3 i_x4 hM hS hl hrun
    unfold f_X6_cache_j56 at hrun
    refine lv_iconst (v := Int32.ofInt 0) hx hb dX6_cache_56 rfl ?_
    exact j57 h x0 x1 x2 x3 x4 0 H locs ls i_x1 i_x2 i_x3 i_x4 (by decide) hM hS (lsub hl [0, 1, 2, 3, 4] rfl) hrun
  have j43 : ∀ (h : Hp) (x0 x1 x2 x3 x4 : Int) (H : Heap) (locs : List Loc) (ls : Array Slot), inr x1 → inr x2 → inr x3 → inr x4 → SM D G base h H → va_S (Ab base) s.heap H locs → lvh ls 8 [(0, vr x0), (1, vi x1), (2, vi x2), (3, vi x3), (4, vi x4)] → f_X6_cache_j43 h x0 x1 x2 x3 x4 = some (rv, h') → W p l e (headSpec w_X6_cache rm_X6_cache).room s m args below meth c H locs 0 0 (QI D G base rv h' below args s 0 0) (F0 m 43 ls []) := by
    intro h x0 x1 x2 x3 x4 H locs ls i_x1 i_x2 i_x3 i_x4 hM hS hl hrun
    unfold f_X6_cache_j43 at hrun
    refine lv_iload_n hx hb dX6_cache_43 rfl (la hl 3 rfl) ?_
    refine lv_iconst (v := Int32.ofInt 0) hx hb dX6_cache_44 rfl ?_
    refine lv_iconst (v := Int32.ofInt 3) hx hb dX6_cache_45 rfl ?_
    obtain ⟨r3, g3, hrun⟩ := bd hrun
    refine s_callS (n := 3) (rest := []) [vi x3, vi 0, vi 3] hx hb hml hown hts hE hM hS (c_X6_isIn l D G base h r3.2 x3 0 3 r3.1 i_x3 (by decide) (by decide) g3) kw_761 kw_759 kw_40 kw_760 (by decide +kernel) ⟨Nat.le_of_ble_eq_true rfl, Nat.le_of_ble_eq_true rfl⟩ rfl hl.1.1 rfl (c8 c_0 (Nat.le_of_ble_eq_true rfl)) dX6_cache_46 ⟨Nat.le_of_ble_eq_true rfl, Nat.le_of_ble_eq_true rfl⟩ (fun H locs i_r3 hM hS => ?_)
    refine W.eq (g2 := F0 m 49 ls [vi r3.1]) rfl ?_
    refine s_if_eq (tgt := 56) hx hb dX6_cache_49 (by decide) i_r3 (fun cd => ?_) (fun cd => ?_)
    · replace hrun := it_pos cd hrun
      exact j56 r3.2 x0 x1 x2 x3 x4 H locs ls i_x1 i_x2 i_x3 i_x4 hM hS (lsub hl [0, 1, 2, 3, 4] rfl) hrun
    · replace hrun := it_neg cd hrun
      refine lv_iconst (v := Int32.ofInt 1) hx hb dX6_cache_52 rfl ?_
      refine lv_goto (tgt := 57) hx hb dX6_cache_53 (by decide) ?_
      exact j57 r3.2 x0 x1 x2 x3 x4 1 H locs ls i_x1 i_x2 i_x3 i_x4 (by decide) hM hS (lsub hl [0, 1, 2, 3, 4] rfl) hrun
  refine s_entry hargs hM (c_r (c_i (c_i (c_i (c_i c_0))))) (Nat.le_of_ble_eq_true rfl) (fun H locs ls hM hS hl => ?_)
  replace hl : lvh ls 8 [(0, vr x0), (1, vi x1), (2, vi x2), (3, vi x3), (4, vi x4)] := hl
  unfold f_X6_cache at hrun
  refine lv_iload_n hx hb dX6_cache_0 rfl (la hl 1 rfl) ?_
  refine lv_bipush (v := Int32.ofInt 8) hx hb dX6_cache_1 (by decide) ?_
  refine lv_sipush (v := Int32.ofInt 4096) hx hb dX6_cache_3 (by decide) ?_
  obtain ⟨r1, g1, hrun⟩ := bd hrun
  refine s_callS (n := 3) (rest := []) [vi x1, vi 8, vi 4096] hx hb hml hown hts hE hM hS (c_X6_isIn l D G base h r1.2 x1 8 4096 r1.1 i_x1 (by decide) (by decide) g1) kw_761 kw_759 kw_40 kw_760 (by decide +kernel) ⟨Nat.le_of_ble_eq_true rfl, Nat.le_of_ble_eq_true rfl⟩ rfl hl.1.1 rfl (c8 c_0 (Nat.le_of_ble_eq_true rfl)) dX6_cache_6 ⟨Nat.le_of_ble_eq_true rfl, Nat.le_of_ble_eq_true rfl⟩ (fun H locs i_r1 hM hS => ?_)
  refine W.eq (g2 := F0 m 9 ls [vi r1.1]) rfl ?_
  refine s_if_eq (tgt := 56) hx hb dX6_cache_9 (by decide) i_r1 (fun cd => ?_) (fun cd => ?_)
  · replace hrun := it_pos cd hrun
    exact j56 r1.2 x0 x1 x2 x3 x4 H locs ls i_x1 i_x2 i_x3 i_x4 hM hS (lsub hl [0, 1, 2, 3, 4] rfl) hrun
  · replace hrun := it_neg cd hrun
    refine lv_iload_n hx hb dX6_cache_12 rfl (la hl 1 rfl) ?_
    refine lv_bipush (v := Int32.ofInt 8) hx hb dX6_cache_13 (by decide) ?_
    obtain ⟨v2, g2, hrun⟩ := bd hrun
    refine s_irem hx hb i_x1 (by decide) g2 dX6_cache_15 ?_
    have i_v2 : inr v2 := inr_rm i_x1 g2
    refine s_if_ne (tgt := 56) hx hb dX6_cache_16 (by decide) i_v2 (fun cd => ?_) (fun cd => ?_)
    · replace hrun := it_pos cd hrun
      exact j56 r1.2 x0 x1 x2 x3 x4 H locs ls i_x1 i_x2 i_x3 i_x4 hM hS (lsub hl [0, 1, 2, 3, 4] rfl) hrun
    · replace hrun := it_neg cd hrun
      refine lv_iload_n hx hb dX6_cache_19 rfl (la hl 2 rfl) ?_
      refine lv_bipush (v := Int32.ofInt 8) hx hb dX6_cache_20 (by decide) ?_
      refine s_icmp_eq (tgt := 43) hx hb dX6_cache_22 (by decide) i_x2 (by decide) (fun cd => ?_) (fun cd => ?_)
      · replace hrun := it_pos cd hrun
        exact j43 r1.2 x0 x1 x2 x3 x4 H locs ls i_x1 i_x2 i_x3 i_x4 hM hS (lsub hl [0, 1, 2, 3, 4] rfl) hrun
      · replace hrun := it_neg cd hrun
        refine lv_iload_n hx hb dX6_cache_25 rfl (la hl 2 rfl) ?_
        refine lv_bipush (v := Int32.ofInt 16) hx hb dX6_cache_26 (by decide) ?_
        refine s_icmp_eq (tgt := 43) hx hb dX6_cache_28 (by decide) i_x2 (by decide) (fun cd => ?_) (fun cd => ?_)
        · replace hrun := it_pos cd hrun
          exact j43 r1.2 x0 x1 x2 x3 x4 H locs ls i_x1 i_x2 i_x3 i_x4 hM hS (lsub hl [0, 1, 2, 3, 4] rfl) hrun
        · replace hrun := it_neg cd hrun
          refine lv_iload_n hx hb dX6_cache_31 rfl (la hl 2 rfl) ?_
          refine lv_bipush (v := Int32.ofInt 32) hx hb dX6_cache_32 (by decide) ?_
          refine s_icmp_eq (tgt := 43) hx hb dX6_cache_34 (by decide) i_x2 (by decide) (fun cd => ?_) (fun cd => ?_)
          · replace hrun := it_pos cd hrun
            exact j43 r1.2 x0 x1 x2 x3 x4 H locs ls i_x1 i_x2 i_x3 i_x4 hM hS (lsub hl [0, 1, 2, 3, 4] rfl) hrun
          · replace hrun := it_neg cd hrun
            refine lv_iload_n hx hb dX6_cache_37 rfl (la hl 2 rfl) ?_
            refine lv_bipush (v := Int32.ofInt 64) hx hb dX6_cache_38 (by decide) ?_
            refine s_icmp_ne (tgt := 56) hx hb dX6_cache_40 (by decide) i_x2 (by decide) (fun cd => ?_) (fun cd => ?_)
            · replace hrun := it_pos cd hrun
              exact j56 r1.2 x0 x1 x2 x3 x4 H locs ls i_x1 i_x2 i_x3 i_x4 hM hS (lsub hl [0, 1, 2, 3, 4] rfl) hrun
            · replace hrun := it_neg cd hrun
              exact j43 r1.2 x0 x1 x2 x3 x4 H locs ls i_x1 i_x2 i_x3 i_x4 hM hS (lsub hl [0, 1, 2, 3, 4] rfl) hrun
def f_X6_liveOf_j46 (k4 : Hp → Int → Int → Int → Int → Option (Int × Hp)) (h : Hp) (x0 x1 x3 s0 : Int) : Option (Int × Hp) :=
  k4 h x0 x1 s0 (wr (x3 + 1))
def f_X6_liveOf_j45 (k4 : Hp → Int → Int → Int → Int → Option (Int × Hp)) (h : Hp) (x0 x1 x2 x3 : Int) : Option (Int × Hp) :=
  f_X6_liveOf_j46 k4 h x0 x1 x3 x2
def f_X6_liveOf_s4 (k4 : Hp → Int → Int → Int → Int → Option (Int × Hp)) (h : Hp) (x0 x1 x2 x3 : Int) : Option (Int × Hp) :=
  if 32768 ≤ x3 then (
    some (x2, h)
  ) else (
    Option.bind (gtf h 6 18 x0) fun v1 =>
    Option.bind (ald h 8 v1 x3) fun v2 =>
    if v2 ≠ 2 then (
      f_X6_liveOf_j45 k4 h x0 x1 x2 x3
    ) else (
      Option.bind (gtf h 6 14 x0) fun v3 =>
      Option.bind (gtf h 6 2 x0) fun v4 =>
      Option.bind (idv x3 128) fun v5 =>
      Option.bind (ald h 8 v4 v5) fun v6 =>
      Option.bind (ald h 8 v3 v6) fun v7 =>
      if v7 ≠ x1 then (
        f_X6_liveOf_j45 k4 h x0 x1 x2 x3
      ) else (
        f_X6_liveOf_j46 k4 h x0 x1 x3 (wr (x2 + 1))
      )
    )
  )
def f_X6_liveOf_b4 : Nat → Hp → Int → Int → Int → Int → Option (Int × Hp)
  | 0, _, _, _, _, _ => none
  | n + 1, h, x0, x1, x2, x3 => f_X6_liveOf_s4 (f_X6_liveOf_b4 n) h x0 x1 x2 x3
def f_X6_liveOf (h : Hp) (x0 x1 : Int) : Option (Int × Hp) :=
  f_X6_liveOf_b4 fuel h x0 x1 0 0
abbrev w_X6_liveOf : List Cond := Cond.code yX6_liveOf cX6_liveOf 4 (some .int) :: BW
abbrev rm_X6_liveOf : Room := { frames := 0, cells := 0, slots := 0, locals := 0 }
set_option maxHeartbeats 4000000 in
set_option maxRecDepth 100000 in
theorem c_X6_liveOf (l : Launch) (D : va_G) (G : Nat → ClassId) (base : Nat) (h h' : Hp) (x0 x1 : Int) (rv : Int) (i_x1 : inr x1) (hrun : f_X6_liveOf h x0 x1 = some (rv, h')) : Met l yX6_liveOf w_X6_liveOf rm_X6_liveOf (PC l D G base h [vr x0, vi x1]) (QR D G base (some (vi rv)) (inr rv) h') rm_X6_liveOf.cells rm_X6_liveOf.slots (Ab base) := by
  refine Met.ofW (cc := cX6_liveOf) (maxL := 4) (ret := (some .int)) (by decide) rfl ?_
  intro p e s m args below meth c s₁ B hml hv
  obtain ⟨hargs, hE, hM⟩ := hv
  have hx := B.exec
  have hb := B.bytes
  have hr := B.returns
  have hts0 := atoms_spec (ws := w_X6_liveOf) B.pre
  have hts : ∀ w ∈ BW, w.before args s = true := fun w hw => hts0 w (List.mem_cons_of_mem _ hw)
  have hown : s.vm.findClass RX6 = some m.cls := findClass_of_methodNamed B.named
  have hlocks := B.notSynchronized
  have lp4 : ∀ (n4 : Nat) (h : Hp) (x0 x1 x2 x3 : Int) (H : Heap) (locs : List Loc) (ls : Array Slot), inr x1 → inr x2 → inr x3 → SM D G base h H → va_S (Ab base) s.heap H locs → lvh ls 4 [(0, vr x0), (1, vi x1), (2, vi x2), (3, vi x3)] → f_X6_liveOf_b4 n4 h x0 x1 x2 x3 = some (rv, h') → W p l e (headSpec w_X6_liveOf rm_X6_liveOf).room s m args below meth c H locs 0 0 (QI D G base rv h' below args s 0 0) (F0 m 4 ls []) := by
    intro n4
    induction n4 with
    | zero => intro h x0 x1 x2 x3 H locs ls i_x1 i_x2 i_x3 hM hS hl hrun; exact absurd hrun (fun q => nomatch (show (none : Option (Int × Hp)) = some (rv, h') from q))
    | succ n4 ih4 =>
      have j46 : ∀ (h : Hp) (x0 x1 x3 s0 : Int) (H : Heap) (locs : List Loc) (ls : Array Slot), inr x1 → inr x3 → inr s0 → SM D G base h H → va_S (Ab base) s.heap H locs → lvh ls 4 [(0, vr x0), (1, vi x1), (3, vi x3)] → f_X6_liveOf_j46 (f_X6_liveOf_b4 n4) h x0 x1 x3 s0 = some (rv, h') → W p l e (headSpec w_X6_liveOf rm_X6_liveOf).room s m args below meth c H locs 0 0 (QI D G base rv h' below args s 0 0) (F0 m 46 ls [vi s0]) := by
        intro h x0 x1 x3 s0 H locs ls i_x1 i_x3 i_s0 hM hS hl hrun
        unfold f_X6_liveOf_j46 at hrun
        refine t_istore_n (lv' := [(2, vi s0), (0, vr x0), (1, vi x1), (3, vi x3)]) hx hb dX6_liveOf_46 rfl hl (by decide) rfl (fun ls hl => ?_)
        refine t_iinc (lv' := [(3, vi (wr (x3 + 1))), (2, vi s0), (0, vr x0), (1, vi x1)]) hx hb dX6_liveOf_47 hl (k := 3) rfl (by decide) rfl rfl (fun ls hl => ?_)
        refine lv_goto (tgt := 4) hx hb dX6_liveOf_50 (by decide) ?_
        exact ih4 h x0 x1 s0 (wr (x3 + 1)) H locs ls i_x1 i_s0 (inr_wr _) hM hS (lsub hl [2, 3, 1, 0] rfl) hrun
      have j45 : ∀ (h : Hp) (x0 x1 x2 x3 : Int) (H : Heap) (locs : List Loc) (ls : Array Slot), inr x1 → inr x2 → inr x3 → SM D G base h H → va_S (Ab base) s.heap H locs → lvh ls 4 [(0, vr x0), (1, vi x1), (2, vi x2), (3, vi x3)] → f_X6_liveOf_j45 (f_X6_liveOf_b4 n4) h x0 x1 x2 x3 = some (rv, h') → W p l e (headSpec w_X6_liveOf rm_X6_liveOf).room s m args below meth c H locs 0 0 (QI D G base rv h' below args s 0 0) (F0 m 45 ls []) := by
        intro h x0 x1 x2 x3 H locs ls i_x1 i_x2 i_x3 hM hS hl hrun
        unfold f_X6_liveOf_j45 at hrun
        refine lv_iload_n hx hb dX6_liveOf_45 rfl (la hl 2 rfl) ?_
        exact j46 h x0 x1 x3 x2 H locs ls i_x1 i_x3 i_x2 hM hS (lsub hl [0, 1, 3] rfl) hrun
      intro h x0 x1 x2 x3 H locs ls i_x1 i_x2 i_x3 hM hS hl hrun
      replace hrun : f_X6_liveOf_s4 (f_X6_liveOf_b4 n4) h x0 x1 x2 x3 = some (rv, h') := hrun
      unfold f_X6_liveOf_s4 at hrun
      refine lv_iload_n hx hb dX6_liveOf_4 rfl (la hl 3 rfl) ?_
      refine s_ldc (n := 32768) hx hb hown (hts _ kw_667) (by decide) dX6_liveOf_5 ?_
      refine s_icmp_ge (tgt := 53) hx hb dX6_liveOf_7 (by decide) i_x3 (by decide) (fun cd => ?_) (fun cd => ?_)
      · replace hrun := it_pos cd hrun
        refine lv_iload_n hx hb dX6_liveOf_53 rfl (la hl 2 rfl) ?_
        exact s_iret hx hb hr hlocks hM hS i_x2 hrun (Nat.le_of_ble_eq_true rfl) (Nat.le_of_ble_eq_true rfl) dX6_liveOf_54
      · replace hrun := it_neg cd hrun
        refine s_aload_n hx hb dX6_liveOf_10 rfl (la hl 0 rfl) ?_
        obtain ⟨v1, g1, hrun⟩ := bd hrun
        refine s_getfr hx hb hts kl_6 hown hE.1 hM (ci := 6) rfl (by decide) rfl (k := 18) (by decide) rfl (hts _ kw_686) g1 dX6_liveOf_11 ?_
        refine lv_iload_n hx hb dX6_liveOf_14 rfl (la hl 3 rfl) ?_
        obtain ⟨v2, g2, hrun⟩ := bd hrun
        refine s_iald hx hb hE.1 hM i_x3 g2 dX6_liveOf_15 ?_
        have i_v2 : inr v2 := ald_i hM g2 (by decide) (by decide)
        refine lv_iconst (v := Int32.ofInt 2) hx hb dX6_liveOf_16 rfl ?_
        refine s_icmp_ne (tgt := 45) hx hb dX6_liveOf_17 (by decide) i_v2 (by decide) (fun cd => ?_) (fun cd => ?_)
        · replace hrun := it_pos cd hrun
          exact j45 h x0 x1 x2 x3 H locs ls i_x1 i_x2 i_x3 hM hS (lsub hl [0, 1, 2, 3] rfl) hrun
        · replace hrun := it_neg cd hrun
          refine s_aload_n hx hb dX6_liveOf_20 rfl (la hl 0 rfl) ?_
          obtain ⟨v3, g3, hrun⟩ := bd hrun
          refine s_getfr hx hb hts kl_6 hown hE.1 hM (ci := 6) rfl (by decide) rfl (k := 14) (by decide) rfl (hts _ kw_682) g3 dX6_liveOf_21 ?_
          refine s_aload_n hx hb dX6_liveOf_24 rfl (la hl 0 rfl) ?_
          obtain ⟨v4, g4, hrun⟩ := bd hrun
          refine s_getfr hx hb hts kl_6 hown hE.1 hM (ci := 6) rfl (by decide) rfl (k := 2) (by decide) rfl (hts _ kw_670) g4 dX6_liveOf_25 ?_
          refine lv_iload_n hx hb dX6_liveOf_28 rfl (la hl 3 rfl) ?_
          refine lv_sipush (v := Int32.ofInt 128) hx hb dX6_liveOf_29 (by decide) ?_
          obtain ⟨v5, g5, hrun⟩ := bd hrun
          refine s_idiv hx hb i_x3 (by decide) g5 dX6_liveOf_32 ?_
          have i_v5 : inr v5 := inr_dv g5
          obtain ⟨v6, g6, hrun⟩ := bd hrun
          refine s_iald hx hb hE.1 hM i_v5 g6 dX6_liveOf_33 ?_
          have i_v6 : inr v6 := ald_i hM g6 (by decide) (by decide)
          obtain ⟨v7, g7, hrun⟩ := bd hrun
          refine s_iald hx hb hE.1 hM i_v6 g7 dX6_liveOf_34 ?_
          have i_v7 : inr v7 := ald_i hM g7 (by decide) (by decide)
          refine lv_iload_n hx hb dX6_liveOf_35 rfl (la hl 1 rfl) ?_
          refine s_icmp_ne (tgt := 45) hx hb dX6_liveOf_36 (by decide) i_v7 i_x1 (fun cd => ?_) (fun cd => ?_)
          · replace hrun := it_pos cd hrun
            exact j45 h x0 x1 x2 x3 H locs ls i_x1 i_x2 i_x3 hM hS (lsub hl [0, 1, 2, 3] rfl) hrun
          · replace hrun := it_neg cd hrun
            refine lv_iload_n hx hb dX6_liveOf_39 rfl (la hl 2 rfl) ?_
            refine lv_iconst (v := Int32.ofInt 1) hx hb dX6_liveOf_40 rfl ?_
            refine s_iadd hx hb dX6_liveOf_41 ?_
            refine lv_goto (tgt := 46) hx hb dX6_liveOf_42 (by decide) ?_
            exact j46 h x0 x1 x3 (wr (x2 + 1)) H locs ls i_x1 i_x3 (inr_wr _) hM hS (lsub hl [0, 1, 3] rfl) hrun
  refine s_entry hargs hM (c_r (c_i c_0)) (Nat.le_of_ble_eq_true rfl) (fun H locs ls hM hS hl => ?_)
  replace hl : lvh ls 4 [(0, vr x0), (1, vi x1)] := hl
  unfold f_X6_liveOf at hrun
  refine lv_iconst (v := Int32.ofInt 0) hx hb dX6_liveOf_0 rfl ?_
  refine t_istore_n (lv' := [(2, vi 0), (0, vr x0), (1, vi x1)]) hx hb dX6_liveOf_1 rfl hl (by decide) rfl (fun ls hl => ?_)
  refine lv_iconst (v := Int32.ofInt 0) hx hb dX6_liveOf_2 rfl ?_
  refine t_istore_n (lv' := [(3, vi 0), (2, vi 0), (0, vr x0), (1, vi x1)]) hx hb dX6_liveOf_3 rfl hl (by decide) rfl (fun ls hl => ?_)
  exact lp4 fuel h x0 x1 0 0 H locs ls i_x1 (by decide) (by decide) hM hS (lsub hl [2, 3, 1, 0] rfl) hrun
def f_X6_emptyHeld_s11 (k11 : Hp → Int → Int → Int → Int → Option (Int × Hp)) (h : Hp) (x0 x1 x2 x3 : Int) : Option (Int × Hp) :=
  if x3 < 0 then (
    Option.bind (gtf h 6 23 x0) fun v3 =>
    Option.bind (ast h 8 v3 x1 0) fun h4 =>
    some (x2, h4)
  ) else (
    Option.bind (gtf h 6 24 x0) fun v5 =>
    Option.bind (ald h 8 v5 (wr ((wr (4 * x1)) + x3))) fun v6 =>
    Option.bind (ckd h 6 x0) fun u8 =>
    Option.bind (f_X6_toSlab h x0 v6) fun r7 =>
    k11 r7.2 x0 x1 x2 (wr (x3 + (-1)))
  )
def f_X6_emptyHeld_b11 : Nat → Hp → Int → Int → Int → Int → Option (Int × Hp)
  | 0, _, _, _, _, _ => none
  | n + 1, h, x0, x1, x2, x3 => f_X6_emptyHeld_s11 (f_X6_emptyHeld_b11 n) h x0 x1 x2 x3
def f_X6_emptyHeld (h : Hp) (x0 x1 : Int) : Option (Int × Hp) :=
  Option.bind (gtf h 6 23 x0) fun v1 =>
  Option.bind (ald h 8 v1 x1) fun v2 =>
  f_X6_emptyHeld_b11 fuel h x0 x1 v2 (wr (v2 - 1))
abbrev w_X6_emptyHeld : List Cond := Cond.code yX6_emptyHeld cX6_emptyHeld 4 (some .int) :: BW
abbrev rm_X6_emptyHeld : Room := { frames := 3, cells := 0, slots := 0, locals := 72 }
set_option maxHeartbeats 4000000 in
set_option maxRecDepth 100000 in
theorem c_X6_emptyHeld (l : Launch) (D : va_G) (G : Nat → ClassId) (base : Nat) (h h' : Hp) (x0 x1 : Int) (rv : Int) (i_x1 : inr x1) (hrun : f_X6_emptyHeld h x0 x1 = some (rv, h')) : Met l yX6_emptyHeld w_X6_emptyHeld rm_X6_emptyHeld (PC l D G base h [vr x0, vi x1]) (QR D G base (some (vi rv)) (inr rv) h') rm_X6_emptyHeld.cells rm_X6_emptyHeld.slots (Ab base) := by
  refine Met.ofW (cc := cX6_emptyHeld) (maxL := 4) (ret := (some .int)) (by decide) rfl ?_
  intro p e s m args below meth c s₁ B hml hv
  obtain ⟨hargs, hE, hM⟩ := hv
  have hx := B.exec
  have hb := B.bytes
  have hr := B.returns
  have hts0 := atoms_spec (ws := w_X6_emptyHeld) B.pre
  have hts : ∀ w ∈ BW, w.before args s = true := fun w hw => hts0 w (List.mem_cons_of_mem _ hw)
  have hown : s.vm.findClass RX6 = some m.cls := findClass_of_methodNamed B.named
  have hlocks := B.notSynchronized
  have lp11 : ∀ (n11 : Nat) (h : Hp) (x0 x1 x2 x3 : Int) (H : Heap) (locs : List Loc) (ls : Array Slot), inr x1 → inr x2 → inr x3 → SM D G base h H → va_S (Ab base) s.heap H locs → lvh ls 4 [(0, vr x0), (1, vi x1), (2, vi x2), (3, vi x3)] → f_X6_emptyHeld_b11 n11 h x0 x1 x2 x3 = some (rv, h') → W p l e (headSpec w_X6_emptyHeld rm_X6_emptyHeld).room s m args below meth c H locs 0 0 (QI D G base rv h' below args s 0 0) (F0 m 11 ls []) := by
    intro n11
    induction n11 with
    | zero => intro h x0 x1 x2 x3 H locs ls i_x1 i_x2 i_x3 hM hS hl hrun; exact absurd hrun (fun q => nomatch (show (none : Option (Int × Hp)) = some (rv, h') from q))
    | succ n11 ih11 =>
      intro h x0 x1 x2 x3 H locs ls i_x1 i_x2 i_x3 hM hS hl hrun
      replace hrun : f_X6_emptyHeld_s11 (f_X6_emptyHeld_b11 n11) h x0 x1 x2 x3 = some (rv, h') := hrun
      unfold f_X6_emptyHeld_s11 at hrun
      refine lv_iload_n hx hb dX6_emptyHeld_11 rfl (la hl 3 rfl) ?_
      refine s_if_lt (tgt := 35) hx hb dX6_emptyHeld_12 (by decide) i_x3 (fun cd => ?_) (fun cd => ?_)
      · replace hrun := it_pos cd hrun
        refine s_aload_n hx hb dX6_emptyHeld_35 rfl (la hl 0 rfl) ?_
        obtain ⟨v3, g3, hrun⟩ := bd hrun
        refine s_getfr hx hb hts kl_6 hown hE.1 hM (ci := 6) rfl (by decide) rfl (k := 23) (by decide) rfl (hts _ kw_691) g3 dX6_emptyHeld_36 ?_
        refine lv_iload_n hx hb dX6_emptyHeld_39 rfl (la hl 1 rfl) ?_
        refine lv_iconst (v := Int32.ofInt 0) hx hb dX6_emptyHeld_40 rfl ?_
        obtain ⟨h4, g4, hrun⟩ := bd hrun
        refine s_iast hx hb hE.1 hM hS i_x1 (by decide) g4 dX6_emptyHeld_41 (fun H locs hM hS => ?_)
        refine lv_iload_n hx hb dX6_emptyHeld_42 rfl (la hl 2 rfl) ?_
        exact s_iret hx hb hr hlocks hM hS i_x2 hrun (Nat.le_of_ble_eq_true rfl) (Nat.le_of_ble_eq_true rfl) dX6_emptyHeld_43
      · replace hrun := it_neg cd hrun
        refine s_aload_n hx hb dX6_emptyHeld_15 rfl (la hl 0 rfl) ?_
        refine s_aload_n hx hb dX6_emptyHeld_16 rfl (la hl 0 rfl) ?_
        obtain ⟨v5, g5, hrun⟩ := bd hrun
        refine s_getfr hx hb hts kl_6 hown hE.1 hM (ci := 6) rfl (by decide) rfl (k := 24) (by decide) rfl (hts _ kw_692) g5 dX6_emptyHeld_17 ?_
        refine lv_iconst (v := Int32.ofInt 4) hx hb dX6_emptyHeld_20 rfl ?_
        refine lv_iload_n hx hb dX6_emptyHeld_21 rfl (la hl 1 rfl) ?_
        refine s_imul hx hb dX6_emptyHeld_22 ?_
        refine lv_iload_n hx hb dX6_emptyHeld_23 rfl (la hl 3 rfl) ?_
        refine s_iadd hx hb dX6_emptyHeld_24 ?_
        obtain ⟨v6, g6, hrun⟩ := bd hrun
        refine s_iald hx hb hE.1 hM (inr_wr _) g6 dX6_emptyHeld_25 ?_
        have i_v6 : inr v6 := ald_i hM g6 (by decide) (by decide)
        obtain ⟨u8, g8, hrun⟩ := bd hrun
        obtain ⟨r7, g7, hrun⟩ := bd hrun
        refine s_callV (n := 1) (rest := []) [vi v6] hx hb hml hown hts hE hM hS (c_X6_toSlab l D G base h r7.2 x0 v6 r7.1 i_v6 g7) kw_785 kw_782 kw_40 kw_784 kw_19 (by decide +kernel) ⟨Nat.le_of_ble_eq_true rfl, Nat.le_of_ble_eq_true rfl⟩ rfl rfl (by decide) g8 rfl hl.1.1 rfl (c8 c_0 (Nat.le_of_ble_eq_true rfl)) dX6_emptyHeld_26 ⟨Nat.le_of_ble_eq_true rfl, Nat.le_of_ble_eq_true rfl⟩ (fun H locs i_r7 hM hS => ?_)
        refine W.eq (g2 := F0 m 29 ls []) rfl ?_
        refine t_iinc (lv' := [(3, vi (wr (x3 + (-1)))), (0, vr x0), (1, vi x1), (2, vi x2)]) hx hb dX6_emptyHeld_29 hl (k := 3) rfl (by decide) rfl rfl (fun ls hl => ?_)
        refine lv_goto (tgt := 11) hx hb dX6_emptyHeld_32 (by decide) ?_
        exact ih11 r7.2 x0 x1 x2 (wr (x3 + (-1))) H locs ls i_x1 i_x2 (inr_wr _) hM hS (lsub hl [1, 2, 3, 0] rfl) hrun
  refine s_entry hargs hM (c_r (c_i c_0)) (Nat.le_of_ble_eq_true rfl) (fun H locs ls hM hS hl => ?_)
  replace hl : lvh ls 4 [(0, vr x0), (1, vi x1)] := hl
  unfold f_X6_emptyHeld at hrun
  refine s_aload_n hx hb dX6_emptyHeld_0 rfl (la hl 0 rfl) ?_
  obtain ⟨v1, g1, hrun⟩ := bd hrun
  refine s_getfr hx hb hts kl_6 hown hE.1 hM (ci := 6) rfl (by decide) rfl (k := 23) (by decide) rfl (hts _ kw_691) g1 dX6_emptyHeld_1 ?_
  refine lv_iload_n hx hb dX6_emptyHeld_4 rfl (la hl 1 rfl) ?_
  obtain ⟨v2, g2, hrun⟩ := bd hrun
  refine s_iald hx hb hE.1 hM i_x1 g2 dX6_emptyHeld_5 ?_
  have i_v2 : inr v2 := ald_i hM g2 (by decide) (by decide)
  refine t_istore_n (lv' := [(2, vi v2), (0, vr x0), (1, vi x1)]) hx hb dX6_emptyHeld_6 rfl hl (by decide) rfl (fun ls hl => ?_)
  refine lv_iload_n hx hb dX6_emptyHeld_7 rfl (la hl 0 rfl) ?_
  refine lv_iconst (v := Int32.ofInt 1) hx hb dX6_emptyHeld_8 rfl ?_
  refine s_isub hx hb dX6_emptyHeld_9 ?_
  refine t_istore_n (lv' := [(3, vi (wr (v2 - 1))), (2, vi v2), (0, vr x0), (1, vi x1)]) hx hb dX6_emptyHeld_10 rfl hl (by decide) rfl (fun ls hl => ?_)
  exact lp11 fuel h x0 x1 v2 (wr (v2 - 1)) H locs ls i_x1 i_v2 (inr_wr _) hM hS (lsub hl [2, 3, 1, 0] rfl) hrun
def f_X6_emptyDepot_s13 (k13 : Hp → Int → Int → Int → Int → Option (Int × Hp)) (h : Hp) (x0 x1 x2 x3 : Int) : Option (Int × Hp) :=
  if x3 < 0 then (
    Option.bind (gtf h 6 25 x0) fun v3 =>
    Option.bind (ast h 8 v3 x1 0) fun h4 =>
    some (x2, h4)
  ) else (
    Option.bind (gtf h 6 26 x0) fun v5 =>
    Option.bind (ald h 8 v5 (wr ((wr (12 * x1)) + x3))) fun v6 =>
    Option.bind (ckd h 6 x0) fun u8 =>
    Option.bind (f_X6_toSlab h x0 v6) fun r7 =>
    k13 r7.2 x0 x1 x2 (wr (x3 + (-1)))
  )
def f_X6_emptyDepot_b13 : Nat → Hp → Int → Int → Int → Int → Option (Int × Hp)
  | 0, _, _, _, _, _ => none
  | n + 1, h, x0, x1, x2, x3 => f_X6_emptyDepot_s13 (f_X6_emptyDepot_b13 n) h x0 x1 x2 x3
def f_X6_emptyDepot (h : Hp) (x0 x1 : Int) : Option (Int × Hp) :=
  Option.bind (gtf h 6 25 x0) fun v1 =>
  Option.bind (ald h 8 v1 x1) fun v2 =>
  f_X6_emptyDepot_b13 fuel h x0 x1 (wr (4 * v2)) (wr ((wr (4 * v2)) - 1))
abbrev w_X6_emptyDepot : List Cond := Cond.code yX6_emptyDepot cX6_emptyDepot 4 (some .int) :: BW
abbrev rm_X6_emptyDepot : Room := { frames := 3, cells := 0, slots := 0, locals := 72 }
set_option maxHeartbeats 4000000 in
set_option maxRecDepth 100000 in
theorem c_X6_emptyDepot (l : Launch) (D : va_G) (G : Nat → ClassId) (base : Nat) (h h' : Hp) (x0 x1 : Int) (rv : Int) (i_x1 : inr x1) (hrun : f_X6_emptyDepot h x0 x1 = some (rv, h')) : Met l yX6_emptyDepot w_X6_emptyDepot rm_X6_emptyDepot (PC l D G base h [vr x0, vi x1]) (QR D G base (some (vi rv)) (inr rv) h') rm_X6_emptyDepot.cells rm_X6_emptyDepot.slots (Ab base) := by
  refine Met.ofW (cc := cX6_emptyDepot) (maxL := 4) (ret := (some .int)) (by decide) rfl ?_
  intro p e s m args below meth c s₁ B hml hv
  obtain ⟨hargs, hE, hM⟩ := hv
  have hx := B.exec
  have hb := B.bytes
  have hr := B.returns
  have hts0 := atoms_spec (ws := w_X6_emptyDepot) B.pre
  have hts : ∀ w ∈ BW, w.before args s = true := fun w hw => hts0 w (List.mem_cons_of_mem _ hw)
  have hown : s.vm.findClass RX6 = some m.cls := findClass_of_methodNamed B.named
  have hlocks := B.notSynchronized
  have lp13 : ∀ (n13 : Nat) (h : Hp) (x0 x1 x2 x3 : Int) (H : Heap) (locs : List Loc) (ls : Array Slot), inr x1 → inr x2 → inr x3 → SM D G base h H → va_S (Ab base) s.heap H locs → lvh ls 4 [(0, vr x0), (1, vi x1), (2, vi x2), (3, vi x3)] → f_X6_emptyDepot_b13 n13 h x0 x1 x2 x3 = some (rv, h') → W p l e (headSpec w_X6_emptyDepot rm_X6_emptyDepot).room s m args below meth c H locs 0 0 (QI D G base rv h' below args s 0 0) (F0 m 13 ls []) := by
    intro n13
    induction n13 with
    | zero => intro h x0 x1 x2 x3 H locs ls i_x1 i_x2 i_x3 hM hS hl hrun; exact absurd hrun (fun q => nomatch (show (none : Option (Int × Hp)) = some (rv, h') from q))
    | succ n13 ih13 =>
      intro h x0 x1 x2 x3 H locs ls i_x1 i_x2 i_x3 hM hS hl hrun
      replace hrun : f_X6_emptyDepot_s13 (f_X6_emptyDepot_b13 n13) h x0 x1 x2 x3 = some (rv, h') := hrun
      unfold f_X6_emptyDepot_s13 at hrun
      refine lv_iload_n hx hb dX6_emptyDepot_13 rfl (la hl 3 rfl) ?_
      refine s_if_lt (tgt := 38) hx hb dX6_emptyDepot_14 (by decide) i_x3 (fun cd => ?_) (fun cd => ?_)
      · replace hrun := it_pos cd hrun
        refine s_aload_n hx hb dX6_emptyDepot_38 rfl (la hl 0 rfl) ?_
        obtain ⟨v3, g3, hrun⟩ := bd hrun
        refine s_getfr hx hb hts kl_6 hown hE.1 hM (ci := 6) rfl (by decide) rfl (k := 25) (by decide) rfl (hts _ kw_693) g3 dX6_emptyDepot_39 ?_
        refine lv_iload_n hx hb dX6_emptyDepot_42 rfl (la hl 1 rfl) ?_
        refine lv_iconst (v := Int32.ofInt 0) hx hb dX6_emptyDepot_43 rfl ?_
        obtain ⟨h4, g4, hrun⟩ := bd hrun
        refine s_iast hx hb hE.1 hM hS i_x1 (by decide) g4 dX6_emptyDepot_44 (fun H locs hM hS => ?_)
        refine lv_iload_n hx hb dX6_emptyDepot_45 rfl (la hl 2 rfl) ?_
        exact s_iret hx hb hr hlocks hM hS i_x2 hrun (Nat.le_of_ble_eq_true rfl) (Nat.le_of_ble_eq_true rfl) dX6_emptyDepot_46
      · replace hrun := it_neg cd hrun
        refine s_aload_n hx hb dX6_emptyDepot_17 rfl (la hl 0 rfl) ?_
        refine s_aload_n hx hb dX6_emptyDepot_18 rfl (la hl 0 rfl) ?_
        obtain ⟨v5, g5, hrun⟩ := bd hrun
        refine s_getfr hx hb hts kl_6 hown hE.1 hM (ci := 6) rfl (by decide) rfl (k := 26) (by decide) rfl (hts _ kw_694) g5 dX6_emptyDepot_19 ?_
        refine lv_bipush (v := Int32.ofInt 12) hx hb dX6_emptyDepot_22 (by decide) ?_
        refine lv_iload_n hx hb dX6_emptyDepot_24 rfl (la hl 1 rfl) ?_
        refine s_imul hx hb dX6_emptyDepot_25 ?_
        refine lv_iload_n hx hb dX6_emptyDepot_26 rfl (la hl 3 rfl) ?_
        refine s_iadd hx hb dX6_emptyDepot_27 ?_
        obtain ⟨v6, g6, hrun⟩ := bd hrun
        refine s_iald hx hb hE.1 hM (inr_wr _) g6 dX6_emptyDepot_28 ?_
        have i_v6 : inr v6 := ald_i hM g6 (by decide) (by decide)
        obtain ⟨u8, g8, hrun⟩ := bd hrun
        obtain ⟨r7, g7, hrun⟩ := bd hrun
        refine s_callV (n := 1) (rest := []) [vi v6] hx hb hml hown hts hE hM hS (c_X6_toSlab l D G base h r7.2 x0 v6 r7.1 i_v6 g7) kw_785 kw_782 kw_40 kw_784 kw_19 (by decide +kernel) ⟨Nat.le_of_ble_eq_true rfl, Nat.le_of_ble_eq_true rfl⟩ rfl rfl (by decide) g8 rfl hl.1.1 rfl (c8 c_0 (Nat.le_of_ble_eq_true rfl)) dX6_emptyDepot_29 ⟨Nat.le_of_ble_eq_true rfl, Nat.le_of_ble_eq_true rfl⟩ (fun H locs i_r7 hM hS => ?_)
        refine W.eq (g2 := F0 m 32 ls []) rfl ?_
        refine t_iinc (lv' := [(3, vi (wr (x3 + (-1)))), (0, vr x0), (1, vi x1), (2, vi x2)]) hx hb dX6_emptyDepot_32 hl (k := 3) rfl (by decide) rfl rfl (fun ls hl => ?_)
        refine lv_goto (tgt := 13) hx hb dX6_emptyDepot_35 (by decide) ?_
        exact ih13 r7.2 x0 x1 x2 (wr (x3 + (-1))) H locs ls i_x1 i_x2 (inr_wr _) hM hS (lsub hl [1, 2, 3, 0] rfl) hrun
  refine s_entry hargs hM (c_r (c_i c_0)) (Nat.le_of_ble_eq_true rfl) (fun H locs ls hM hS hl => ?_)
  replace hl : lvh ls 4 [(0, vr x0), (1, vi x1)] := hl
  unfold f_X6_emptyDepot at hrun
  refine lv_iconst (v := Int32.ofInt 4) hx hb dX6_emptyDepot_0 rfl ?_
  refine s_aload_n hx hb dX6_emptyDepot_1 rfl (la hl 0 rfl) ?_
  obtain ⟨v1, g1, hrun⟩ := bd hrun
  refine s_getfr hx hb hts kl_6 hown hE.1 hM (ci := 6) rfl (by decide) rfl (k := 25) (by decide) rfl (hts _ kw_693) g1 dX6_emptyDepot_2 ?_
  refine lv_iload_n hx hb dX6_emptyDepot_5 rfl (la hl 1 rfl) ?_
  obtain ⟨v2, g2, hrun⟩ := bd hrun
  refine s_iald hx hb hE.1 hM i_x1 g2 dX6_emptyDepot_6 ?_
  have i_v2 : inr v2 := ald_i hM g2 (by decide) (by decide)
  refine s_imul hx hb dX6_emptyDepot_7 ?_
  refine t_istore_n (lv' := [(2, vi (wr (4 * v2))), (0, vr x0), (1, vi x1)]) hx hb dX6_emptyDepot_8 rfl hl (by decide) rfl (fun ls hl => ?_)
  refine lv_iload_n hx hb dX6_emptyDepot_9 rfl (la hl 0 rfl) ?_
  refine lv_iconst (v := Int32.ofInt 1) hx hb dX6_emptyDepot_10 rfl ?_
  refine s_isub hx hb dX6_emptyDepot_11 ?_
  refine t_istore_n (lv' := [(3, vi (wr ((wr (4 * v2)) - 1))), (2, vi (wr (4 * v2))), (0, vr x0), (1, vi x1)]) hx hb dX6_emptyDepot_12 rfl hl (by decide) rfl (fun ls hl => ?_)
  exact lp13 fuel h x0 x1 (wr (4 * v2)) (wr ((wr (4 * v2)) - 1)) H locs ls i_x1 (inr_wr _) (inr_wr _) hM hS (lsub hl [2, 3, 1, 0] rfl) hrun
def f_X6_drop_j123 (k85 : Hp → Int → Int → Int → Int → Option (Int × Hp)) (h : Hp) (x0 x1 x3 s0 : Int) : Option (Int × Hp) :=
  k85 h x0 x1 s0 (wr (x3 + 1))
def f_X6_drop_j122 (k85 : Hp → Int → Int → Int → Int → Option (Int × Hp)) (h : Hp) (x0 x1 x2 x3 : Int) : Option (Int × Hp) :=
  f_X6_drop_j123 k85 h x0 x1 x3 x2
def f_X6_drop_s85 (k85 : Hp → Int → Int → Int → Int → Option (Int × Hp)) (h : Hp) (x0 x1 x2 x3 : Int) : Option (Int × Hp) :=
  if 256 ≤ x3 then (
    Option.bind (gtf h 6 4 x0) fun v13 =>
    Option.bind (ast h 9 v13 x1 1) fun h14 =>
    some (x2, h14)
  ) else (
    Option.bind (gtf h 6 2 x0) fun v15 =>
    Option.bind (ald h 8 v15 x3) fun v16 =>
    if v16 ≠ x3 then (
      f_X6_drop_j122 k85 h x0 x1 x2 x3
    ) else (
      Option.bind (gtf h 6 14 x0) fun v17 =>
      Option.bind (ald h 8 v17 x3) fun v18 =>
      if v18 ≠ x1 then (
        f_X6_drop_j122 k85 h x0 x1 x2 x3
      ) else (
        Option.bind (ckd h 6 x0) fun u20 =>
        Option.bind (f_X6_giveSlab h x0 x3) fun r19 =>
        f_X6_drop_j123 k85 r19.2 x0 x1 x3 (wr (x2 + r19.1))
      )
    )
  )
def f_X6_drop_b85 : Nat → Hp → Int → Int → Int → Int → Option (Int × Hp)
  | 0, _, _, _, _, _ => none
  | n + 1, h, x0, x1, x2, x3 => f_X6_drop_s85 (f_X6_drop_b85 n) h x0 x1 x2 x3
def f_X6_drop_s36 (k36 : Hp → Int → Int → Int → Option (Int × Hp)) (h : Hp) (x0 x1 x2 : Int) : Option (Int × Hp) :=
  if 4 ≤ x2 then (
    Option.bind (ckd h 6 x0) fun u8 =>
    Option.bind (f_X6_emptyDepot h x0 x1) fun r7 =>
    f_X6_drop_b85 fuel r7.2 x0 x1 0 0
  ) else (
    Option.bind (ckd h 6 x0) fun u10 =>
    Option.bind (f_X6_emptyHeld h x0 (wr (2 * (wr ((wr (8 * x2)) + x1))))) fun r9 =>
    Option.bind (ckd r9.2 6 x0) fun u12 =>
    Option.bind (f_X6_emptyHeld r9.2 x0 (wr ((wr (2 * (wr ((wr (8 * x2)) + x1)))) + 1))) fun r11 =>
    k36 r11.2 x0 x1 (wr (x2 + 1))
  )
def f_X6_drop_b36 : Nat → Hp → Int → Int → Int → Option (Int × Hp)
  | 0, _, _, _, _ => none
  | n + 1, h, x0, x1, x2 => f_X6_drop_s36 (f_X6_drop_b36 n) h x0 x1 x2
def f_X6_drop_j26 (h : Hp) (x0 x1 s0 s1 : Int) : Option (Int × Hp) :=
  Option.bind (ckd h 6 s0) fun u6 =>
  Option.bind (f_X6_refused h s0 s1) fun r5 =>
  if r5.1 = 0 then (
    f_X6_drop_b36 fuel r5.2 x0 x1 0
  ) else (
    some (0, r5.2)
  )
def f_X6_drop (h : Hp) (x0 x1 : Int) : Option (Int × Hp) :=
  Option.bind (ckd h 6 x0) fun u2 =>
  Option.bind (f_X6_isCache h x0 x1) fun r1 =>
  if r1.1 ≠ 0 then (
    Option.bind (ckd r1.2 6 x0) fun u4 =>
    Option.bind (f_X6_liveOf r1.2 x0 x1) fun r3 =>
    if r3.1 ≤ 0 then (
      f_X6_drop_j26 r3.2 x0 x1 x0 0
    ) else (
      f_X6_drop_j26 r3.2 x0 x1 x0 2
    )
  ) else (
    f_X6_drop_j26 r1.2 x0 x1 x0 1
  )
abbrev w_X6_drop : List Cond := Cond.code yX6_drop cX6_drop 4 (some .int) :: BW
abbrev rm_X6_drop : Room := { frames := 4, cells := 0, slots := 0, locals := 95 }
set_option maxHeartbeats 4000000 in
set_option maxRecDepth 100000 in
theorem c_X6_drop (l : Launch) (D : va_G) (G : Nat → ClassId) (base : Nat) (h h' : Hp) (x0 x1 : Int) (rv : Int) (i_x1 : inr x1) (hrun : f_X6_drop h x0 x1 = some (rv, h')) : Met l yX6_drop w_X6_drop rm_X6_drop (PC l D G base h [vr x0, vi x1]) (QR D G base (some (vi rv)) (inr rv) h') rm_X6_drop.cells rm_X6_drop.slots (Ab base) := by
  refine Met.ofW (cc := cX6_drop) (maxL := 4) (ret := (some .int)) (by decide) rfl ?_
  intro p e s m args below meth c s₁ B hml hv
  obtain ⟨hargs, hE, hM⟩ := hv
  have hx := B.exec
  have hb := B.bytes
  have hr := B.returns
  have hts0 := atoms_spec (ws := w_X6_drop) B.pre
  have hts : ∀ w ∈ BW, w.before args s = true := fun w hw => hts0 w (List.mem_cons_of_mem _ hw)
  have hown : s.vm.findClass RX6 = some m.cls := findClass_of_methodNamed B.named
  have hlocks := B.notSynchronized
  have lp85 : ∀ (n85 : Nat) (h : Hp) (x0 x1 x2 x3 : Int) (H : Heap) (locs : List Loc) (ls : Array Slot), inr x1 → inr x2 → inr x3 → SM D G base h H → va_S (Ab base) s.heap H locs → lvh ls 4 [(0, vr x0), (1, vi x1), (2, vi x2), (3, vi x3)] → f_X6_drop_b85 n85 h x0 x1 x2 x3 = some (rv, h') → W p l e (headSpec w_X6_drop rm_X6_drop).room s m args below meth c H locs 0 0 (QI D G base rv h' below args s 0 0) (F0 m 85 ls []) := by
    intro n85
    induction n85 with
    | zero => intro h x0 x1 x2 x3 H locs ls i_x1 i_x2 i_x3 hM hS hl hrun; exact absurd hrun (fun q => nomatch (show (none : Option (Int × Hp)) = some (rv, h') from q))
    | succ n85 ih85 =>
      have j123 : ∀ (h : Hp) (x0 x1 x3 s0 : Int) (H : Heap) (locs : List Loc) (ls : Array Slot), inr x1 → inr x3 → inr s0 → SM D G base h H → va_S (Ab base) s.heap H locs → lvh ls 4 [(0, vr x0), (1, vi x1), (3, vi x3)] → f_X6_drop_j123 (f_X6_drop_b85 n85) h x0 x1 x3 s0 = some (rv, h') → W p l e (headSpec w_X6_drop rm_X6_drop).room s m args below meth c H locs 0 0 (QI D G base rv h' below args s 0 0) (F0 m 123 ls [vi s0]) := by
        intro h x0 x1 x3 s0 H locs ls i_x1 i_x3 i_s0 hM hS hl hrun
        unfold f_X6_drop_j123 at hrun
        refine t_istore_n (lv' := [(2, vi s0), (0, vr x0), (1, vi x1), (3, vi x3)]) hx hb dX6_drop_123 rfl hl (by decide) rfl (fun ls hl => ?_)
        refine t_iinc (lv' := [(3, vi (wr (x3 + 1))), (2, vi s0), (0, vr x0), (1, vi x1)]) hx hb dX6_drop_124 hl (k := 3) rfl (by decide) rfl rfl (fun ls hl => ?_)
        refine lv_goto (tgt := 85) hx hb dX6_drop_127 (by decide) ?_
        exact ih85 h x0 x1 s0 (wr (x3 + 1)) H locs ls i_x1 i_s0 (inr_wr _) hM hS (lsub hl [2, 3, 1, 0] rfl) hrun
      have j122 : ∀ (h : Hp) (x0 x1 x2 x3 : Int) (H : Heap) (locs : List Loc) (ls : Array Slot), inr x1 → inr x2 → inr x3 → SM D G base h H → va_S (Ab base) s.heap H locs → lvh ls 4 [(0, vr x0), (1, vi x1), (2, vi x2), (3, vi x3)] → f_X6_drop_j122 (f_X6_drop_b85 n85) h x0 x1 x2 x3 = some (rv, h') → W p l e (headSpec w_X6_drop rm_X6_drop).room s m args below meth c H locs 0 0 (QI D G base rv h' below args s 0 0) (F0 m 122 ls []) := by
        intro h x0 x1 x2 x3 H locs ls i_x1 i_x2 i_x3 hM hS hl hrun
        unfold f_X6_drop_j122 at hrun
        refine lv_iload_n hx hb dX6_drop_122 rfl (la hl 2 rfl) ?_
        exact j123 h x0 x1 x3 x2 H locs ls i_x1 i_x3 i_x2 hM hS (lsub hl [0, 1, 3] rfl) hrun
      intro h x0 x1 x2 x3 H locs ls i_x1 i_x2 i_x3 hM hS hl hrun
      replace hrun : f_X6_drop_s85 (f_X6_drop_b85 n85) h x0 x1 x2 x3 = some (rv, h') := hrun
      unfold f_X6_drop_s85 at hrun
      refine lv_iload_n hx hb dX6_drop_85 rfl (la hl 3 rfl) ?_
      refine lv_sipush (v := Int32.ofInt 256) hx hb dX6_drop_86 (by decide) ?_
      refine s_icmp_ge (tgt := 130) hx hb dX6_drop_89 (by decide) i_x3 (by decide) (fun cd => ?_) (fun cd => ?_)
      · replace hrun := it_pos cd hrun
        refine s_aload_n hx hb dX6_drop_130 rfl (la hl 0 rfl) ?_
        obtain ⟨v13, g13, hrun⟩ := bd hrun
        refine s_getfr hx hb hts kl_6 hown hE.1 hM (ci := 6) rfl (by decide) rfl (k := 4) (by decide) rfl (hts _ kw_672) g13 dX6_drop_131 ?_
        refine lv_iload_n hx hb dX6_drop_134 rfl (la hl 1 rfl) ?_
        refine lv_iconst (v := Int32.ofInt 1) hx hb dX6_drop_135 rfl ?_
        obtain ⟨h14, g14, hrun⟩ := bd hrun
        refine s_zast hx hb hE.1 hM hS i_x1 (by decide) (by decide) g14 dX6_drop_136 (fun H locs hM hS => ?_)
        refine lv_iload_n hx hb dX6_drop_137 rfl (la hl 2 rfl) ?_
        exact s_iret hx hb hr hlocks hM hS i_x2 hrun (Nat.le_of_ble_eq_true rfl) (Nat.le_of_ble_eq_true rfl) dX6_drop_138
      · replace hrun := it_neg cd hrun
        refine s_aload_n hx hb dX6_drop_92 rfl (la hl 0 rfl) ?_
        obtain ⟨v15, g15, hrun⟩ := bd hrun
        refine s_getfr hx hb hts kl_6 hown hE.1 hM (ci := 6) rfl (by decide) rfl (k := 2) (by decide) rfl (hts _ kw_670) g15 dX6_drop_93 ?_
        refine lv_iload_n hx hb dX6_drop_96 rfl (la hl 3 rfl) ?_
        obtain ⟨v16, g16, hrun⟩ := bd hrun
        refine s_iald hx hb hE.1 hM i_x3 g16 dX6_drop_97 ?_
        have i_v16 : inr v16 := ald_i hM g16 (by decide) (by decide)
        refine lv_iload_n hx hb dX6_drop_98 rfl (la hl 3 rfl) ?_
        refine s_icmp_ne (tgt := 122) hx hb dX6_drop_99 (by decide) i_v16 i_x3 (fun cd => ?_) (fun cd => ?_)
        · replace hrun := it_pos cd hrun
          exact j122 h x0 x1 x2 x3 H locs ls i_x1 i_x2 i_x3 hM hS (lsub hl [0, 1, 2, 3] rfl) hrun
        · replace hrun := it_neg cd hrun
          refine s_aload_n hx hb dX6_drop_102 rfl (la hl 0 rfl) ?_
          obtain ⟨v17, g17, hrun⟩ := bd hrun
          refine s_getfr hx hb hts kl_6 hown hE.1 hM (ci := 6) rfl (by decide) rfl (k := 14) (by decide) rfl (hts _ kw_682) g17 dX6_drop_103 ?_
          refine lv_iload_n hx hb dX6_drop_106 rfl (la hl 3 rfl) ?_
          obtain ⟨v18, g18, hrun⟩ := bd hrun
          refine s_iald hx hb hE.1 hM i_x3 g18 dX6_drop_107 ?_
          have i_v18 : inr v18 := ald_i hM g18 (by decide) (by decide)
          refine lv_iload_n hx hb dX6_drop_108 rfl (la hl 1 rfl) ?_
          refine s_icmp_ne (tgt := 122) hx hb dX6_drop_109 (by decide) i_v18 i_x1 (fun cd => ?_) (fun cd => ?_)
          · replace hrun := it_pos cd hrun
            exact j122 h x0 x1 x2 x3 H locs ls i_x1 i_x2 i_x3 hM hS (lsub hl [0, 1, 2, 3] rfl) hrun
          · replace hrun := it_neg cd hrun
            refine lv_iload_n hx hb dX6_drop_112 rfl (la hl 2 rfl) ?_
            refine s_aload_n hx hb dX6_drop_113 rfl (la hl 0 rfl) ?_
            refine lv_iload_n hx hb dX6_drop_114 rfl (la hl 3 rfl) ?_
            obtain ⟨u20, g20, hrun⟩ := bd hrun
            obtain ⟨r19, g19, hrun⟩ := bd hrun
            refine s_callV (n := 1) (rest := [vi x2]) [vi x3] hx hb hml hown hts hE hM hS (c_X6_giveSlab l D G base h r19.2 x0 x3 r19.1 i_x3 g19) kw_809 kw_806 kw_40 kw_808 kw_25 (by decide +kernel) ⟨Nat.le_of_ble_eq_true rfl, Nat.le_of_ble_eq_true rfl⟩ rfl rfl (by decide) g20 rfl hl.1.1 rfl (c8 (c_i c_0) (Nat.le_of_ble_eq_true rfl)) dX6_drop_115 ⟨Nat.le_of_ble_eq_true rfl, Nat.le_of_ble_eq_true rfl⟩ (fun H locs i_r19 hM hS => ?_)
            refine W.eq (g2 := F0 m 118 ls [vi r19.1, vi x2]) rfl ?_
            refine s_iadd hx hb dX6_drop_118 ?_
            refine lv_goto (tgt := 123) hx hb dX6_drop_119 (by decide) ?_
            exact j123 r19.2 x0 x1 x3 (wr (x2 + r19.1)) H locs ls i_x1 i_x3 (inr_wr _) hM hS (lsub hl [0, 1, 3] rfl) hrun
  have lp36 : ∀ (n36 : Nat) (h : Hp) (x0 x1 x2 : Int) (H : Heap) (locs : List Loc) (ls : Array Slot), inr x1 → inr x2 → SM D G base h H → va_S (Ab base) s.heap H locs → lvh ls 4 [(0, vr x0), (1, vi x1), (2, vi x2)] → f_X6_drop_b36 n36 h x0 x1 x2 = some (rv, h') → W p l e (headSpec w_X6_drop rm_X6_drop).room s m args below meth c H locs 0 0 (QI D G base rv h' below args s 0 0) (F0 m 36 ls []) := by
    intro n36
    induction n36 with
    | zero => intro h x0 x1 x2 H locs ls i_x1 i_x2 hM hS hl hrun; exact absurd hrun (fun q => nomatch (show (none : Option (Int × Hp)) = some (rv, h') from q))
    | succ n36 ih36 =>
      intro h x0 x1 x2 H locs ls i_x1 i_x2 hM hS hl hrun
      replace hrun : f_X6_drop_s36 (f_X6_drop_b36 n36) h x0 x1 x2 = some (rv, h') := hrun
      unfold f_X6_drop_s36 at hrun
      refine lv_iload_n hx hb dX6_drop_36 rfl (la hl 2 rfl) ?_
      refine lv_iconst (v := Int32.ofInt 4) hx hb dX6_drop_37 rfl ?_
      refine s_icmp_ge (tgt := 75) hx hb dX6_drop_38 (by decide) i_x2 (by decide) (fun cd => ?_) (fun cd => ?_)
      · replace hrun := it_pos cd hrun
        refine s_aload_n hx hb dX6_drop_75 rfl (la hl 0 rfl) ?_
        refine lv_iload_n hx hb dX6_drop_76 rfl (la hl 1 rfl) ?_
        obtain ⟨u8, g8, hrun⟩ := bd hrun
        obtain ⟨r7, g7, hrun⟩ := bd hrun
        refine s_callV (n := 1) (rest := []) [vi x1] hx hb hml hown hts hE hM hS (c_X6_emptyDepot l D G base h r7.2 x0 x1 r7.1 i_x1 g7) kw_805 kw_802 kw_40 kw_804 kw_24 (by decide +kernel) ⟨Nat.le_of_ble_eq_true rfl, Nat.le_of_ble_eq_true rfl⟩ rfl rfl (by decide) g8 rfl hl.1.1 rfl (c8 c_0 (Nat.le_of_ble_eq_true rfl)) dX6_drop_77 ⟨Nat.le_of_ble_eq_true rfl, Nat.le_of_ble_eq_true rfl⟩ (fun H locs i_r7 hM hS => ?_)
        refine W.eq (g2 := F0 m 80 ls [vi r7.1]) rfl ?_
        refine lv_pop hx hb dX6_drop_80 rfl ?_
        refine lv_iconst (v := Int32.ofInt 0) hx hb dX6_drop_81 rfl ?_
        refine t_istore_n (lv' := [(2, vi 0), (0, vr x0), (1, vi x1)]) hx hb dX6_drop_82 rfl hl (by decide) rfl (fun ls hl => ?_)
        refine lv_iconst (v := Int32.ofInt 0) hx hb dX6_drop_83 rfl ?_
        refine t_istore_n (lv' := [(3, vi 0), (2, vi 0), (0, vr x0), (1, vi x1)]) hx hb dX6_drop_84 rfl hl (by decide) rfl (fun ls hl => ?_)
        exact lp85 fuel r7.2 x0 x1 0 0 H locs ls i_x1 (by decide) (by decide) hM hS (lsub hl [2, 3, 1, 0] rfl) hrun
      · replace hrun := it_neg cd hrun
        refine s_aload_n hx hb dX6_drop_41 rfl (la hl 0 rfl) ?_
        refine lv_iconst (v := Int32.ofInt 2) hx hb dX6_drop_42 rfl ?_
        refine lv_bipush (v := Int32.ofInt 8) hx hb dX6_drop_43 (by decide) ?_
        refine lv_iload_n hx hb dX6_drop_45 rfl (la hl 2 rfl) ?_
        refine s_imul hx hb dX6_drop_46 ?_
        refine lv_iload_n hx hb dX6_drop_47 rfl (la hl 1 rfl) ?_
        refine s_iadd hx hb dX6_drop_48 ?_
        refine s_imul hx hb dX6_drop_49 ?_
        obtain ⟨u10, g10, hrun⟩ := bd hrun
        obtain ⟨r9, g9, hrun⟩ := bd hrun
        refine s_callV (n := 1) (rest := []) [vi (wr (2 * (wr ((wr (8 * x2)) + x1))))] hx hb hml hown hts hE hM hS (c_X6_emptyHeld l D G base h r9.2 x0 (wr (2 * (wr ((wr (8 * x2)) + x1)))) r9.1 (inr_wr _) g9) kw_781 kw_778 kw_40 kw_780 kw_18 (by decide +kernel) ⟨Nat.le_of_ble_eq_true rfl, Nat.le_of_ble_eq_true rfl⟩ rfl rfl (by decide) g10 rfl hl.1.1 rfl (c8 c_0 (Nat.le_of_ble_eq_true rfl)) dX6_drop_50 ⟨Nat.le_of_ble_eq_true rfl, Nat.le_of_ble_eq_true rfl⟩ (fun H locs i_r9 hM hS => ?_)
        refine W.eq (g2 := F0 m 53 ls [vi r9.1]) rfl ?_
        refine lv_pop hx hb dX6_drop_53 rfl ?_
        refine s_aload_n hx hb dX6_drop_54 rfl (la hl 0 rfl) ?_
        refine lv_iconst (v := Int32.ofInt 2) hx hb dX6_drop_55 rfl ?_
        refine lv_bipush (v := Int32.ofInt 8) hx hb dX6_drop_56 (by decide) ?_
        refine lv_iload_n hx hb dX6_drop_58 rfl (la hl 2 rfl) ?_
        refine s_imul hx hb dX6_drop_59 ?_
        refine lv_iload_n hx hb dX6_drop_60 rfl (la hl 1 rfl) ?_
        refine s_iadd hx hb dX6_drop_61 ?_
        refine s_imul hx hb dX6_drop_62 ?_
        refine lv_iconst (v := Int32.ofInt 1) hx hb dX6_drop_63 rfl ?_
        refine s_iadd hx hb dX6_drop_64 ?_
        obtain ⟨u12, g12, hrun⟩ := bd hrun
        obtain ⟨r11, g11, hrun⟩ := bd hrun
        refine s_callV (n := 1) (rest := []) [vi (wr ((wr (2 * (wr ((wr (8 * x2)) + x1)))) + 1))] hx hb hml hown hts hE hM hS (c_X6_emptyHeld l D G base r9.2 r11.2 x0 (wr ((wr (2 * (wr ((wr (8 * x2)) + x1)))) + 1)) r11.1 (inr_wr _) g11) kw_781 kw_778 kw_40 kw_780 kw_18 (by decide +kernel) ⟨Nat.le_of_ble_eq_true rfl, Nat.le_of_ble_eq_true rfl⟩ rfl rfl (by decide) g12 rfl hl.1.1 rfl (c8 c_0 (Nat.le_of_ble_eq_true rfl)) dX6_drop_65 ⟨Nat.le_of_ble_eq_true rfl, Nat.le_of_ble_eq_true rfl⟩ (fun H locs i_r11 hM hS => ?_)
        refine W.eq (g2 := F0 m 68 ls [vi r11.1]) rfl ?_
        refine lv_pop hx hb dX6_drop_68 rfl ?_
        refine t_iinc (lv' := [(2, vi (wr (x2 + 1))), (0, vr x0), (1, vi x1)]) hx hb dX6_drop_69 hl (k := 2) rfl (by decide) rfl rfl (fun ls hl => ?_)
        refine lv_goto (tgt := 36) hx hb dX6_drop_72 (by decide) ?_
        exact ih36 r11.2 x0 x1 (wr (x2 + 1)) H locs ls i_x1 (inr_wr _) hM hS (lsub hl [1, 2, 0] rfl) hrun
  have j26 : ∀ (h : Hp) (x0 x1 s0 s1 : Int) (H : Heap) (locs : List Loc) (ls : Array Slot), inr x1 → inr s1 → SM D G base h H → va_S (Ab base) s.heap H locs → lvh ls 4 [(0, vr x0), (1, vi x1)] → f_X6_drop_j26 h x0 x1 s0 s1 = some (rv, h') → W p l e (headSpec w_X6_drop rm_X6_drop).room s m args below meth c H locs 0 0 (QI D G base rv h' below args s 0 0) (F0 m 26 ls [vi s1, vr s0]) := by
    intro h x0 x1 s0 s1 H locs ls i_x1 i_s1 hM hS hl hrun
    unfold f_X6_drop_j26 at hrun
    obtain ⟨u6, g6, hrun⟩ := bd hrun
    obtain ⟨r5, g5, hrun⟩ := bd hrun
    refine s_callV (n := 1) (rest := []) [vi s1] hx hb hml hown hts hE hM hS (c_X6_refused l D G base h r5.2 s0 s1 r5.1 i_s1 g5) kw_765 kw_762 kw_40 kw_764 kw_15 (by decide +kernel) ⟨Nat.le_of_ble_eq_true rfl, Nat.le_of_ble_eq_true rfl⟩ rfl rfl (by decide) g6 rfl hl.1.1 rfl (c8 c_0 (Nat.le_of_ble_eq_true rfl)) dX6_drop_26 ⟨Nat.le_of_ble_eq_true rfl, Nat.le_of_ble_eq_true rfl⟩ (fun H locs i_r5 hM hS => ?_)
    refine W.eq (g2 := F0 m 29 ls [vi r5.1]) rfl ?_
    refine s_if_eq (tgt := 34) hx hb dX6_drop_29 (by decide) i_r5 (fun cd => ?_) (fun cd => ?_)
    · replace hrun := it_pos cd hrun
      refine lv_iconst (v := Int32.ofInt 0) hx hb dX6_drop_34 rfl ?_
      refine t_istore_n (lv' := [(2, vi 0), (0, vr x0), (1, vi x1)]) hx hb dX6_drop_35 rfl hl (by decide) rfl (fun ls hl => ?_)
      exact lp36 fuel r5.2 x0 x1 0 H locs ls i_x1 (by decide) hM hS (lsub hl [1, 2, 0] rfl) hrun
    · replace hrun := it_neg cd hrun
      refine lv_iconst (v := Int32.ofInt 0) hx hb dX6_drop_32 rfl ?_
      exact s_iret hx hb hr hlocks hM hS (by decide) hrun (Nat.le_of_ble_eq_true rfl) (Nat.le_of_ble_eq_true rfl) dX6_drop_33
  refine s_entry hargs hM (c_r (c_i c_0)) (Nat.le_of_ble_eq_true rfl) (fun H locs ls hM hS hl => ?_)
  replace hl : lvh ls 4 [(0, vr x0), (1, vi x1)] := hl
  unfold f_X6_drop at hrun
  refine s_aload_n hx hb dX6_drop_0 rfl (la hl 0 rfl) ?_
  refine s_aload_n hx hb dX6_drop_1 rfl (la hl 0 rfl) ?_
  refine lv_iload_n hx hb dX6_drop_2 rfl (la hl 1 rfl) ?_
  obtain ⟨u2, g2, hrun⟩ := bd hrun
  obtain ⟨r1, g1, hrun⟩ := bd hrun
  refine s_callV (n := 1) (rest := [vr x0]) [vi x1] hx hb hml hown hts hE hM hS (c_X6_isCache l D G base h r1.2 x0 x1 r1.1 i_x1 g1) kw_773 kw_770 kw_40 kw_772 kw_16 (by decide +kernel) ⟨Nat.le_of_ble_eq_true rfl, Nat.le_of_ble_eq_true rfl⟩ rfl rfl (by decide) g2 rfl hl.1.1 rfl (c8 (c_r c_0) (Nat.le_of_ble_eq_true rfl)) dX6_drop_3 ⟨Nat.le_of_ble_eq_true rfl, Nat.le_of_ble_eq_true rfl⟩ (fun H locs i_r1 hM hS => ?_)
  refine W.eq (g2 := F0 m 6 ls [vi r1.1, vr x0]) rfl ?_
  refine s_if_ne (tgt := 13) hx hb dX6_drop_6 (by decide) i_r1 (fun cd => ?_) (fun cd => ?_)
  · replace hrun := it_pos cd hrun
    refine s_aload_n hx hb dX6_drop_13 rfl (la hl 0 rfl) ?_
    refine lv_iload_n hx hb dX6_drop_14 rfl (la hl 1 rfl) ?_
    obtain ⟨u4, g4, hrun⟩ := bd hrun
    obtain ⟨r3, g3, hrun⟩ := bd hrun
    refine s_callV (n := 1) (rest := [vr x0]) [vi x1] hx hb hml hown hts hE hM hS (c_X6_liveOf l D G base r1.2 r3.2 x0 x1 r3.1 i_x1 g3) kw_777 kw_774 kw_40 kw_776 kw_17 (by decide +kernel) ⟨Nat.le_of_ble_eq_true rfl, Nat.le_of_ble_eq_true rfl⟩ rfl rfl (by decide) g4 rfl hl.1.1 rfl (c8 (c_r c_0) (Nat.le_of_ble_eq_true rfl)) dX6_drop_15 ⟨Nat.le_of_ble_eq_true rfl, Nat.le_of_ble_eq_true rfl⟩ (fun H locs i_r3 hM hS => ?_)
    refine W.eq (g2 := F0 m 18 ls [vi r3.1, vr x0]) rfl ?_
    refine s_if_le (tgt := 25) hx hb dX6_drop_18 (by decide) i_r3 (fun cd => ?_) (fun cd => ?_)
    · replace hrun := it_pos cd hrun
      refine lv_iconst (v := Int32.ofInt 0) hx hb dX6_drop_25 rfl ?_
      exact j26 r3.2 x0 x1 x0 0 H locs ls i_x1 (by decide) hM hS (lsub hl [0, 1] rfl) hrun
    · replace hrun := it_neg cd hrun
      refine lv_iconst (v := Int32.ofInt 2) hx hb dX6_drop_21 rfl ?_
      refine lv_goto (tgt := 26) hx hb dX6_drop_22 (by decide) ?_
      exact j26 r3.2 x0 x1 x0 2 H locs ls i_x1 (by decide) hM hS (lsub hl [0, 1] rfl) hrun
  · replace hrun := it_neg cd hrun
    refine lv_iconst (v := Int32.ofInt 1) hx hb dX6_drop_9 rfl ?_
    refine lv_goto (tgt := 26) hx hb dX6_drop_10 (by decide) ?_
    exact j26 r1.2 x0 x1 x0 1 H locs ls i_x1 (by decide) hM hS (lsub hl [0, 1] rfl) hrun
def f_X6_swap_s2 (k2 : Hp → Int → Int → Int → Option (Int × Hp)) (h : Hp) (x0 x1 x2 : Int) : Option (Int × Hp) :=
  if 4 ≤ x2 then (
    Option.bind (gtf h 6 23 x0) fun v1 =>
    Option.bind (ald h 8 v1 x1) fun v2 =>
    Option.bind (gtf h 6 23 x0) fun v3 =>
    Option.bind (gtf h 6 23 x0) fun v4 =>
    Option.bind (ald h 8 v4 (wr (x1 + 1))) fun v5 =>
    Option.bind (ast h 8 v3 x1 v5) fun h6 =>
    Option.bind (gtf h6 6 23 x0) fun v7 =>
    Option.bind (ast h6 8 v7 (wr (x1 + 1)) v2) fun h8 =>
    some (0, h8)
  ) else (
    Option.bind (gtf h 6 24 x0) fun v9 =>
    Option.bind (ald h 8 v9 (wr ((wr (4 * x1)) + x2))) fun v10 =>
    Option.bind (gtf h 6 24 x0) fun v11 =>
    Option.bind (gtf h 6 24 x0) fun v12 =>
    Option.bind (ald h 8 v12 (wr ((wr ((wr (4 * x1)) + 4)) + x2))) fun v13 =>
    Option.bind (ast h 8 v11 (wr ((wr (4 * x1)) + x2)) v13) fun h14 =>
    Option.bind (gtf h14 6 24 x0) fun v15 =>
    Option.bind (ast h14 8 v15 (wr ((wr ((wr (4 * x1)) + 4)) + x2)) v10) fun h16 =>
    k2 h16 x0 x1 (wr (x2 + 1))
  )
def f_X6_swap_b2 : Nat → Hp → Int → Int → Int → Option (Int × Hp)
  | 0, _, _, _, _ => none
  | n + 1, h, x0, x1, x2 => f_X6_swap_s2 (f_X6_swap_b2 n) h x0 x1 x2
def f_X6_swap (h : Hp) (x0 x1 : Int) : Option (Int × Hp) :=
  f_X6_swap_b2 fuel h x0 x1 0
abbrev w_X6_swap : List Cond := Cond.code yX6_swap cX6_swap 4 none :: BW
abbrev rm_X6_swap : Room := { frames := 0, cells := 0, slots := 0, locals := 0 }
set_option maxHeartbeats 4000000 in
set_option maxRecDepth 100000 in
theorem c_X6_swap (l : Launch) (D : va_G) (G : Nat → ClassId) (base : Nat) (h h' : Hp) (x0 x1 : Int) (rv : Int) (i_x1 : inr x1) (hrun : f_X6_swap h x0 x1 = some (rv, h')) : Met l yX6_swap w_X6_swap rm_X6_swap (PC l D G base h [vr x0, vi x1]) (QR D G base none True h') rm_X6_swap.cells rm_X6_swap.slots (Ab base) := by
  refine Met.ofW (cc := cX6_swap) (maxL := 4) (ret := none) (by decide) rfl ?_
  intro p e s m args below meth c s₁ B hml hv
  obtain ⟨hargs, hE, hM⟩ := hv
  have hx := B.exec
  have hb := B.bytes
  have hr := B.returns
  have hts0 := atoms_spec (ws := w_X6_swap) B.pre
  have hts : ∀ w ∈ BW, w.before args s = true := fun w hw => hts0 w (List.mem_cons_of_mem _ hw)
  have hown : s.vm.findClass RX6 = some m.cls := findClass_of_methodNamed B.named
  have hlocks := B.notSynchronized
  have lp2 : ∀ (n2 : Nat) (h : Hp) (x0 x1 x2 : Int) (H : Heap) (locs : List Loc) (ls : Array Slot), inr x1 → inr x2 → SM D G base h H → va_S (Ab base) s.heap H locs → lvh ls 4 [(0, vr x0), (1, vi x1), (2, vi x2)] → f_X6_swap_b2 n2 h x0 x1 x2 = some (rv, h') → W p l e (headSpec w_X6_swap rm_X6_swap).room s m args below meth c H locs 0 0 (QV D G base rv h' below args s 0 0) (F0 m 2 ls []) := by
    intro n2
    induction n2 with
    | zero => intro h x0 x1 x2 H locs ls i_x1 i_x2 hM hS hl hrun; exact absurd hrun (fun q => nomatch (show (none : Option (Int × Hp)) = some (rv, h') from q))
    | succ n2 ih2 =>
      intro h x0 x1 x2 H locs ls i_x1 i_x2 hM hS hl hrun
      replace hrun : f_X6_swap_s2 (f_X6_swap_b2 n2) h x0 x1 x2 = some (rv, h') := hrun
      unfold f_X6_swap_s2 at hrun
      refine lv_iload_n hx hb dX6_swap_2 rfl (la hl 2 rfl) ?_
      refine lv_iconst (v := Int32.ofInt 4) hx hb dX6_swap_3 rfl ?_
      refine s_icmp_ge (tgt := 59) hx hb dX6_swap_4 (by decide) i_x2 (by decide) (fun cd => ?_) (fun cd => ?_)
      · replace hrun := it_pos cd hrun
        refine s_aload_n hx hb dX6_swap_59 rfl (la hl 0 rfl) ?_
        obtain ⟨v1, g1, hrun⟩ := bd hrun
        refine s_getfr hx hb hts kl_6 hown hE.1 hM (ci := 6) rfl (by decide) rfl (k := 23) (by decide) rfl (hts _ kw_691) g1 dX6_swap_60 ?_
        refine lv_iload_n hx hb dX6_swap_63 rfl (la hl 1 rfl) ?_
        obtain ⟨v2, g2, hrun⟩ := bd hrun
        refine s_iald hx hb hE.1 hM i_x1 g2 dX6_swap_64 ?_
        have i_v2 : inr v2 := ald_i hM g2 (by decide) (by decide)
        refine t_istore_n (lv' := [(2, vi v2), (0, vr x0), (1, vi x1)]) hx hb dX6_swap_65 rfl hl (by decide) rfl (fun ls hl => ?_)
        refine s_aload_n hx hb dX6_swap_66 rfl (la hl 1 rfl) ?_
        obtain ⟨v3, g3, hrun⟩ := bd hrun
        refine s_getfr hx hb hts kl_6 hown hE.1 hM (ci := 6) rfl (by decide) rfl (k := 23) (by decide) rfl (hts _ kw_691) g3 dX6_swap_67 ?_
        refine lv_iload_n hx hb dX6_swap_70 rfl (la hl 2 rfl) ?_
        refine s_aload_n hx hb dX6_swap_71 rfl (la hl 1 rfl) ?_
        obtain ⟨v4, g4, hrun⟩ := bd hrun
        refine s_getfr hx hb hts kl_6 hown hE.1 hM (ci := 6) rfl (by decide) rfl (k := 23) (by decide) rfl (hts _ kw_691) g4 dX6_swap_72 ?_
        refine lv_iload_n hx hb dX6_swap_75 rfl (la hl 2 rfl) ?_
        refine lv_iconst (v := Int32.ofInt 1) hx hb dX6_swap_76 rfl ?_
        refine s_iadd hx hb dX6_swap_77 ?_
        obtain ⟨v5, g5, hrun⟩ := bd hrun
        refine s_iald hx hb hE.1 hM (inr_wr _) g5 dX6_swap_78 ?_
        have i_v5 : inr v5 := ald_i hM g5 (by decide) (by decide)
        obtain ⟨h6, g6, hrun⟩ := bd hrun
        refine s_iast hx hb hE.1 hM hS i_x1 i_v5 g6 dX6_swap_79 (fun H locs hM hS => ?_)
        refine s_aload_n hx hb dX6_swap_80 rfl (la hl 1 rfl) ?_
        obtain ⟨v7, g7, hrun⟩ := bd hrun
        refine s_getfr hx hb hts kl_6 hown hE.1 hM (ci := 6) rfl (by decide) rfl (k := 23) (by decide) rfl (hts _ kw_691) g7 dX6_swap_81 ?_
        refine lv_iload_n hx hb dX6_swap_84 rfl (la hl 2 rfl) ?_
        refine lv_iconst (v := Int32.ofInt 1) hx hb dX6_swap_85 rfl ?_
        refine s_iadd hx hb dX6_swap_86 ?_
        refine lv_iload_n hx hb dX6_swap_87 rfl (la hl 0 rfl) ?_
        obtain ⟨h8, g8, hrun⟩ := bd hrun
        refine s_iast hx hb hE.1 hM hS (inr_wr _) i_v2 g8 dX6_swap_88 (fun H locs hM hS => ?_)
        exact s_vret hx hb hr hlocks hM hS hrun (Nat.le_of_ble_eq_true rfl) (Nat.le_of_ble_eq_true rfl) dX6_swap_89
      · replace hrun := it_neg cd hrun
        refine s_aload_n hx hb dX6_swap_7 rfl (la hl 0 rfl) ?_
        obtain ⟨v9, g9, hrun⟩ := bd hrun
        refine s_getfr hx hb hts kl_6 hown hE.1 hM (ci := 6) rfl (by decide) rfl (k := 24) (by decide) rfl (hts _ kw_692) g9 dX6_swap_8 ?_
        refine lv_iconst (v := Int32.ofInt 4) hx hb dX6_swap_11 rfl ?_
        refine lv_iload_n hx hb dX6_swap_12 rfl (la hl 1 rfl) ?_
        refine s_imul hx hb dX6_swap_13 ?_
        refine lv_iload_n hx hb dX6_swap_14 rfl (la hl 2 rfl) ?_
        refine s_iadd hx hb dX6_swap_15 ?_
        obtain ⟨v10, g10, hrun⟩ := bd hrun
        refine s_iald hx hb hE.1 hM (inr_wr _) g10 dX6_swap_16 ?_
        have i_v10 : inr v10 := ald_i hM g10 (by decide) (by decide)
        refine t_istore_n (lv' := [(3, vi v10), (0, vr x0), (1, vi x1), (2, vi x2)]) hx hb dX6_swap_17 rfl hl (by decide) rfl (fun ls hl => ?_)
        refine s_aload_n hx hb dX6_swap_18 rfl (la hl 1 rfl) ?_
        obtain ⟨v11, g11, hrun⟩ := bd hrun
        refine s_getfr hx hb hts kl_6 hown hE.1 hM (ci := 6) rfl (by decide) rfl (k := 24) (by decide) rfl (hts _ kw_692) g11 dX6_swap_19 ?_
        refine lv_iconst (v := Int32.ofInt 4) hx hb dX6_swap_22 rfl ?_
        refine lv_iload_n hx hb dX6_swap_23 rfl (la hl 2 rfl) ?_
        refine s_imul hx hb dX6_swap_24 ?_
        refine lv_iload_n hx hb dX6_swap_25 rfl (la hl 3 rfl) ?_
        refine s_iadd hx hb dX6_swap_26 ?_
        refine s_aload_n hx hb dX6_swap_27 rfl (la hl 1 rfl) ?_
        obtain ⟨v12, g12, hrun⟩ := bd hrun
        refine s_getfr hx hb hts kl_6 hown hE.1 hM (ci := 6) rfl (by decide) rfl (k := 24) (by decide) rfl (hts _ kw_692) g12 dX6_swap_28 ?_
        refine lv_iconst (v := Int32.ofInt 4) hx hb dX6_swap_31 rfl ?_
        refine lv_iload_n hx hb dX6_swap_32 rfl (la hl 2 rfl) ?_
        refine s_imul hx hb dX6_swap_33 ?_
        refine lv_iconst (v := Int32.ofInt 4) hx hb dX6_swap_34 rfl ?_
        refine s_iadd hx hb dX6_swap_35 ?_
        refine lv_iload_n hx hb dX6_swap_36 rfl (la hl 3 rfl) ?_
        refine s_iadd hx hb dX6_swap_37 ?_
        obtain ⟨v13, g13, hrun⟩ := bd hrun
        refine s_iald hx hb hE.1 hM (inr_wr _) g13 dX6_swap_38 ?_
        have i_v13 : inr v13 := ald_i hM g13 (by decide) (by decide)
        obtain ⟨h14, g14, hrun⟩ := bd hrun
        refine s_iast hx hb hE.1 hM hS (inr_wr _) i_v13 g14 dX6_swap_39 (fun H locs hM hS => ?_)
        refine s_aload_n hx hb dX6_swap_40 rfl (la hl 1 rfl) ?_
        obtain ⟨v15, g15, hrun⟩ := bd hrun
        refine s_getfr hx hb hts kl_6 hown hE.1 hM (ci := 6) rfl (by decide) rfl (k := 24) (by decide) rfl (hts _ kw_692) g15 dX6_swap_41 ?_
        refine lv_iconst (v := Int32.ofInt 4) hx hb dX6_swap_44 rfl ?_
        refine lv_iload_n hx hb dX6_swap_45 rfl (la hl 2 rfl) ?_
        refine s_imul hx hb dX6_swap_46 ?_
        refine lv_iconst (v := Int32.ofInt 4) hx hb dX6_swap_47 rfl ?_
        refine s_iadd hx hb dX6_swap_48 ?_
        refine lv_iload_n hx hb dX6_swap_49 rfl (la hl 3 rfl) ?_
        refine s_iadd hx hb dX6_swap_50 ?_
        refine lv_iload_n hx hb dX6_swap_51 rfl (la hl 0 rfl) ?_
        obtain ⟨h16, g16, hrun⟩ := bd hrun
        refine s_iast hx hb hE.1 hM hS (inr_wr _) i_v10 g16 dX6_swap_52 (fun H locs hM hS => ?_)
        refine t_iinc (lv' := [(2, vi (wr (x2 + 1))), (3, vi v10), (0, vr x0), (1, vi x1)]) hx hb dX6_swap_53 hl (k := 3) rfl (by decide) rfl rfl (fun ls hl => ?_)
        refine lv_goto (tgt := 2) hx hb dX6_swap_56 (by decide) ?_
        exact ih2 h16 x0 x1 (wr (x2 + 1)) H locs ls i_x1 (inr_wr _) hM hS (lsub hl [2, 3, 0] rfl) hrun
  refine s_entry hargs hM (c_r (c_i c_0)) (Nat.le_of_ble_eq_true rfl) (fun H locs ls hM hS hl => ?_)
  replace hl : lvh ls 4 [(0, vr x0), (1, vi x1)] := hl
  unfold f_X6_swap at hrun
  refine lv_iconst (v := Int32.ofInt 0) hx hb dX6_swap_0 rfl ?_
  refine t_istore_n (lv' := [(2, vi 0), (0, vr x0), (1, vi x1)]) hx hb dX6_swap_1 rfl hl (by decide) rfl (fun ls hl => ?_)
  exact lp2 fuel h x0 x1 0 H locs ls i_x1 (by decide) hM hS (lsub hl [1, 2, 0] rfl) hrun
