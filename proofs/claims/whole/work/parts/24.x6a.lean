def f_X6_init_j239 (k214 : Hp → Int → Int → Option (Int × Hp)) (h : Hp) (x0 x1 s0 s1 s2 : Int) : Option (Int × Hp) :=
  Option.bind (ast h 8 s0 s1 s2) fun h54 =>
  Option.bind (gtf h54 6 2 x0) fun v55 =>
  Option.bind (ast h54 8 v55 x1 (-1)) fun h56 =>
  k214 h56 x0 (wr (x1 + 1))
def f_X6_init_s214 (k214 : Hp → Int → Int → Option (Int × Hp)) (h : Hp) (x0 x1 : Int) : Option (Int × Hp) :=
  if 256 ≤ x1 then (
    some (0, h)
  ) else (
    Option.bind (gtf h 6 1 x0) fun v52 =>
    Option.bind (irm x1 64) fun v53 =>
    if v53 ≠ 0 then (
      f_X6_init_j239 k214 h x0 x1 v52 x1 (-1)
    ) else (
      f_X6_init_j239 k214 h x0 x1 v52 x1 6
    )
  )
def f_X6_init_b214 : Nat → Hp → Int → Int → Option (Int × Hp)
  | 0, _, _, _ => none
  | n + 1, h, x0, x1 => f_X6_init_s214 (f_X6_init_b214 n) h x0 x1
def f_X6_init (h : Hp) (x0 : Int) : Option (Int × Hp) :=
  Option.bind (ckd h 6 x0) fun u1 =>
  Option.bind (nwa h 8 256 256) fun h2 =>
  Option.bind (ptf h2 6 1 x0 (hN h : Int)) fun h3 =>
  Option.bind (nwa h3 8 256 256) fun h4 =>
  Option.bind (ptf h4 6 2 x0 (hN h3 : Int)) fun h5 =>
  Option.bind (nwa h5 9 8 8) fun h6 =>
  Option.bind (ptf h6 6 4 x0 (hN h5 : Int)) fun h7 =>
  Option.bind (nwa h7 8 8 8) fun h8 =>
  Option.bind (ptf h8 6 5 x0 (hN h7 : Int)) fun h9 =>
  Option.bind (nwa h9 8 8 8) fun h10 =>
  Option.bind (ptf h10 6 6 x0 (hN h9 : Int)) fun h11 =>
  Option.bind (nwa h11 8 8 8) fun h12 =>
  Option.bind (ptf h12 6 7 x0 (hN h11 : Int)) fun h13 =>
  Option.bind (nwa h13 8 8 8) fun h14 =>
  Option.bind (ptf h14 6 8 x0 (hN h13 : Int)) fun h15 =>
  Option.bind (nwa h15 8 8 8) fun h16 =>
  Option.bind (ptf h16 6 9 x0 (hN h15 : Int)) fun h17 =>
  Option.bind (nwa h17 8 8 8) fun h18 =>
  Option.bind (ptf h18 6 10 x0 (hN h17 : Int)) fun h19 =>
  Option.bind (nwa h19 8 8 8) fun h20 =>
  Option.bind (ptf h20 6 11 x0 (hN h19 : Int)) fun h21 =>
  Option.bind (nwa h21 8 8 8) fun h22 =>
  Option.bind (ptf h22 6 12 x0 (hN h21 : Int)) fun h23 =>
  Option.bind (nwa h23 8 8 8) fun h24 =>
  Option.bind (ptf h24 6 13 x0 (hN h23 : Int)) fun h25 =>
  Option.bind (nwa h25 8 256 256) fun h26 =>
  Option.bind (ptf h26 6 14 x0 (hN h25 : Int)) fun h27 =>
  Option.bind (nwa h27 8 256 256) fun h28 =>
  Option.bind (ptf h28 6 15 x0 (hN h27 : Int)) fun h29 =>
  Option.bind (nwa h29 8 256 256) fun h30 =>
  Option.bind (ptf h30 6 16 x0 (hN h29 : Int)) fun h31 =>
  Option.bind (nwa h31 8 256 256) fun h32 =>
  Option.bind (ptf h32 6 17 x0 (hN h31 : Int)) fun h33 =>
  Option.bind (nwa h33 8 32768 32768) fun h34 =>
  Option.bind (ptf h34 6 18 x0 (hN h33 : Int)) fun h35 =>
  Option.bind (nwa h35 8 32768 32768) fun h36 =>
  Option.bind (ptf h36 6 19 x0 (hN h35 : Int)) fun h37 =>
  Option.bind (nwa h37 8 32768 32768) fun h38 =>
  Option.bind (ptf h38 6 20 x0 (hN h37 : Int)) fun h39 =>
  Option.bind (nwa h39 8 24 24) fun h40 =>
  Option.bind (ptf h40 6 21 x0 (hN h39 : Int)) fun h41 =>
  Option.bind (nwa h41 8 6144 6144) fun h42 =>
  Option.bind (ptf h42 6 22 x0 (hN h41 : Int)) fun h43 =>
  Option.bind (nwa h43 8 64 64) fun h44 =>
  Option.bind (ptf h44 6 23 x0 (hN h43 : Int)) fun h45 =>
  Option.bind (nwa h45 8 256 256) fun h46 =>
  Option.bind (ptf h46 6 24 x0 (hN h45 : Int)) fun h47 =>
  Option.bind (nwa h47 8 8 8) fun h48 =>
  Option.bind (ptf h48 6 25 x0 (hN h47 : Int)) fun h49 =>
  Option.bind (nwa h49 8 96 96) fun h50 =>
  Option.bind (ptf h50 6 26 x0 (hN h49 : Int)) fun h51 =>
  f_X6_init_b214 fuel h51 x0 0
abbrev w_X6_init : List Cond := Cond.code yX6_init cX6_init 2 none :: BW
abbrev rm_X6_init : Room := { frames := 1, cells := 25, slots := 106512, locals := 12 }
set_option maxHeartbeats 4000000 in
set_option maxRecDepth 100000 in
theorem c_X6_init (l : Launch) (D : va_G) (G : Nat → ClassId) (base : Nat) (h h' : Hp) (x0 : Int) (rv : Int) (hrun : f_X6_init h x0 = some (rv, h')) : Met l yX6_init w_X6_init rm_X6_init (PC l D G base h [vr x0]) (QR D G base none True h') rm_X6_init.cells rm_X6_init.slots (Ab base) := by
  refine Met.ofW (cc := cX6_init) (maxL := 2) (ret := none) (by decide) rfl ?_
  intro p e s m args below meth c s₁ B hml hv
  obtain ⟨hargs, hE, hM⟩ := hv
  have hx := B.exec
  have hb := B.bytes
  have hr := B.returns
  have hts0 := atoms_spec (ws := w_X6_init) B.pre
  have hts : ∀ w ∈ BW, w.before args s = true := fun w hw => hts0 w (List.mem_cons_of_mem _ hw)
  have hown : s.vm.findClass RX6 = some m.cls := findClass_of_methodNamed B.named
  have hlocks := B.notSynchronized
  have hin : meth.name = "<init>" := (name_of_methodNamed B.named B.method).1
  have lp214 : ∀ (n214 : Nat) (h : Hp) (x0 x1 : Int) (H : Heap) (locs : List Loc) (ls : Array Slot), inr x1 → SM D G base h H → va_S (Ab base) s.heap H locs → lvh ls 2 [(0, vr x0), (1, vi x1)] → f_X6_init_b214 n214 h x0 x1 = some (rv, h') → W p l e (headSpec w_X6_init rm_X6_init).room s m args below meth c H locs 25 106512 (QV D G base rv h' below args s 25 106512) (F0 m 214 ls []) := by
    intro n214
    induction n214 with
    | zero => intro h x0 x1 H locs ls i_x1 hM hS hl hrun; exact absurd hrun (fun q => nomatch (show (none : Option (Int × Hp)) = some (rv, h') from q))
    | succ n214 ih214 =>
      have j239 : ∀ (h : Hp) (x0 x1 s0 s1 s2 : Int) (H : Heap) (locs : List Loc) (ls : Array Slot), inr x1 → inr s1 → inr s2 → SM D G base h H → va_S (Ab base) s.heap H locs → lvh ls 2 [(0, vr x0), (1, vi x1)] → f_X6_init_j239 (f_X6_init_b214 n214) h x0 x1 s0 s1 s2 = some (rv, h') → W p l e (headSpec w_X6_init rm_X6_init).room s m args below meth c H locs 25 106512 (QV D G base rv h' below args s 25 106512) (F0 m 239 ls [vi s2, vi s1, vr s0]) := by
        intro h x0 x1 s0 s1 s2 H locs ls i_x1 i_s1 i_s2 hM hS hl hrun
        unfold f_X6_init_j239 at hrun
        obtain ⟨h54, g54, hrun⟩ := bd hrun
        refine s_iast hx hb hE.1 hM hS i_s1 i_s2 g54 dX6_init_239 (fun H locs hM hS => ?_)
        refine s_aload_n hx hb dX6_init_240 rfl (la hl 0 rfl) ?_
        obtain ⟨v55, g55, hrun⟩ := bd hrun
        refine s_getfr hx hb hts kl_6 hown hE.1 hM (ci := 6) rfl (by decide) rfl (k := 2) (by decide) rfl (hts _ kw_670) g55 dX6_init_241 ?_
        refine lv_iload_n hx hb dX6_init_244 rfl (la hl 1 rfl) ?_
        refine lv_iconst (v := Int32.ofInt (-1)) hx hb dX6_init_245 rfl ?_
        obtain ⟨h56, g56, hrun⟩ := bd hrun
        refine s_iast hx hb hE.1 hM hS i_x1 (by decide) g56 dX6_init_246 (fun H locs hM hS => ?_)
        refine t_iinc (lv' := [(1, vi (wr (x1 + 1))), (0, vr x0)]) hx hb dX6_init_247 hl (k := 1) rfl (by decide) rfl rfl (fun ls hl => ?_)
        refine lv_goto (tgt := 214) hx hb dX6_init_250 (by decide) ?_
        exact ih214 h56 x0 (wr (x1 + 1)) H locs ls (inr_wr _) hM hS (lsub hl [1, 0] rfl) hrun
      intro h x0 x1 H locs ls i_x1 hM hS hl hrun
      replace hrun : f_X6_init_s214 (f_X6_init_b214 n214) h x0 x1 = some (rv, h') := hrun
      unfold f_X6_init_s214 at hrun
      refine lv_iload_n hx hb dX6_init_214 rfl (la hl 1 rfl) ?_
      refine lv_sipush (v := Int32.ofInt 256) hx hb dX6_init_215 (by decide) ?_
      refine s_icmp_ge (tgt := 253) hx hb dX6_init_218 (by decide) i_x1 (by decide) (fun cd => ?_) (fun cd => ?_)
      · replace hrun := it_pos cd hrun
        exact s_vret hx hb hr hlocks hM hS hrun (Nat.le_of_ble_eq_true rfl) (Nat.le_of_ble_eq_true rfl) dX6_init_253
      · replace hrun := it_neg cd hrun
        refine s_aload_n hx hb dX6_init_221 rfl (la hl 0 rfl) ?_
        obtain ⟨v52, g52, hrun⟩ := bd hrun
        refine s_getfr hx hb hts kl_6 hown hE.1 hM (ci := 6) rfl (by decide) rfl (k := 1) (by decide) rfl (hts _ kw_669) g52 dX6_init_222 ?_
        refine lv_iload_n hx hb dX6_init_225 rfl (la hl 1 rfl) ?_
        refine lv_iload_n hx hb dX6_init_226 rfl (la hl 1 rfl) ?_
        refine lv_bipush (v := Int32.ofInt 64) hx hb dX6_init_227 (by decide) ?_
        obtain ⟨v53, g53, hrun⟩ := bd hrun
        refine s_irem hx hb i_x1 (by decide) g53 dX6_init_229 ?_
        have i_v53 : inr v53 := inr_rm i_x1 g53
        refine s_if_ne (tgt := 238) hx hb dX6_init_230 (by decide) i_v53 (fun cd => ?_) (fun cd => ?_)
        · replace hrun := it_pos cd hrun
          refine lv_iconst (v := Int32.ofInt (-1)) hx hb dX6_init_238 rfl ?_
          exact j239 h x0 x1 v52 x1 (-1) H locs ls i_x1 i_x1 (by decide) hM hS (lsub hl [0, 1] rfl) hrun
        · replace hrun := it_neg cd hrun
          refine lv_bipush (v := Int32.ofInt 6) hx hb dX6_init_233 (by decide) ?_
          refine lv_goto (tgt := 239) hx hb dX6_init_235 (by decide) ?_
          exact j239 h x0 x1 v52 x1 6 H locs ls i_x1 i_x1 (by decide) hM hS (lsub hl [0, 1] rfl) hrun
  refine s_entry hargs hM (c_r c_0) (Nat.le_of_ble_eq_true rfl) (fun H locs ls hM hS hl => ?_)
  replace hl : lvh ls 2 [(0, vr x0)] := hl
  unfold f_X6_init at hrun
  refine s_aload_n hx hb dX6_init_0 rfl (la hl 0 rfl) ?_
  obtain ⟨u1, g1, hrun⟩ := bd hrun
  refine s_objInit hx hb hml hown hts kw_666 kw_59 kw_60 g1 hl.1.1 dX6_init_1 (Nat.le_of_ble_eq_true rfl) (cN c_0 (Nat.le_of_ble_eq_true rfl)) ?_
  refine s_aload_n hx hb dX6_init_4 rfl (la hl 0 rfl) ?_
  refine lv_sipush (v := Int32.ofInt 256) hx hb dX6_init_5 (by decide) ?_
  obtain ⟨h2, g2, hrun⟩ := bd hrun
  refine s_newa hx hb (atype := .int) (kd := 8) (bound := 256) (hts _ kw_78) hE.1 (Or.inl ⟨rfl, rfl⟩) hM hS hE.2.1 (by decide) g2 (by decide) (Nat.le_of_ble_eq_true rfl) (Nat.le_of_ble_eq_true rfl) dX6_init_8 (fun H hM hS => ?_)
  obtain ⟨h3, g3, hrun⟩ := bd hrun
  refine s_putF (b := true) hx hb hts kl_6 tyX6 tyX6_ok nmX6 hown hE.1 hM hS (ci := 6) rfl (by decide) rfl (k := 1) (by decide) rfl (hts _ kw_669) rfl hin rfl (nar_a _) (fit_a _) (fun q => by cases q) g3 dX6_init_10 (fun H locs hM hS => ?_)
  refine s_aload_n hx hb dX6_init_13 rfl (la hl 0 rfl) ?_
  refine lv_sipush (v := Int32.ofInt 256) hx hb dX6_init_14 (by decide) ?_
  obtain ⟨h4, g4, hrun⟩ := bd hrun
  refine s_newa hx hb (atype := .int) (kd := 8) (bound := 256) (hts _ kw_78) hE.1 (Or.inl ⟨rfl, rfl⟩) hM hS hE.2.1 (by decide) g4 (by decide) (Nat.le_of_ble_eq_true rfl) (Nat.le_of_ble_eq_true rfl) dX6_init_17 (fun H hM hS => ?_)
  obtain ⟨h5, g5, hrun⟩ := bd hrun
  refine s_putF (b := true) hx hb hts kl_6 tyX6 tyX6_ok nmX6 hown hE.1 hM hS (ci := 6) rfl (by decide) rfl (k := 2) (by decide) rfl (hts _ kw_670) rfl hin rfl (nar_a _) (fit_a _) (fun q => by cases q) g5 dX6_init_19 (fun H locs hM hS => ?_)
  refine s_aload_n hx hb dX6_init_22 rfl (la hl 0 rfl) ?_
  refine lv_bipush (v := Int32.ofInt 8) hx hb dX6_init_23 (by decide) ?_
  obtain ⟨h6, g6, hrun⟩ := bd hrun
  refine s_newa hx hb (atype := .boolean) (kd := 9) (bound := 8) (hts _ kw_750) hE.1 (Or.inr (Or.inl ⟨rfl, rfl⟩)) hM hS hE.2.1 (by decide) g6 (by decide) (Nat.le_of_ble_eq_true rfl) (Nat.le_of_ble_eq_true rfl) dX6_init_25 (fun H hM hS => ?_)
  obtain ⟨h7, g7, hrun⟩ := bd hrun
  refine s_putF (b := true) hx hb hts kl_6 tyX6 tyX6_ok nmX6 hown hE.1 hM hS (ci := 6) rfl (by decide) rfl (k := 4) (by decide) rfl (hts _ kw_672) rfl hin rfl (nar_a _) (fit_a _) (fun q => by cases q) g7 dX6_init_27 (fun H locs hM hS => ?_)
  refine s_aload_n hx hb dX6_init_30 rfl (la hl 0 rfl) ?_
  refine lv_bipush (v := Int32.ofInt 8) hx hb dX6_init_31 (by decide) ?_
  obtain ⟨h8, g8, hrun⟩ := bd hrun
  refine s_newa hx hb (atype := .int) (kd := 8) (bound := 8) (hts _ kw_78) hE.1 (Or.inl ⟨rfl, rfl⟩) hM hS hE.2.1 (by decide) g8 (by decide) (Nat.le_of_ble_eq_true rfl) (Nat.le_of_ble_eq_true rfl) dX6_init_33 (fun H hM hS => ?_)
  obtain ⟨h9, g9, hrun⟩ := bd hrun
  refine s_putF (b := true) hx hb hts kl_6 tyX6 tyX6_ok nmX6 hown hE.1 hM hS (ci := 6) rfl (by decide) rfl (k := 5) (by decide) rfl (hts _ kw_673) rfl hin rfl (nar_a _) (fit_a _) (fun q => by cases q) g9 dX6_init_35 (fun H locs hM hS => ?_)
  refine s_aload_n hx hb dX6_init_38 rfl (la hl 0 rfl) ?_
  refine lv_bipush (v := Int32.ofInt 8) hx hb dX6_init_39 (by decide) ?_
  obtain ⟨h10, g10, hrun⟩ := bd hrun
  refine s_newa hx hb (atype := .int) (kd := 8) (bound := 8) (hts _ kw_78) hE.1 (Or.inl ⟨rfl, rfl⟩) hM hS hE.2.1 (by decide) g10 (by decide) (Nat.le_of_ble_eq_true rfl) (Nat.le_of_ble_eq_true rfl) dX6_init_41 (fun H hM hS => ?_)
  obtain ⟨h11, g11, hrun⟩ := bd hrun
  refine s_putF (b := true) hx hb hts kl_6 tyX6 tyX6_ok nmX6 hown hE.1 hM hS (ci := 6) rfl (by decide) rfl (k := 6) (by decide) rfl (hts _ kw_674) rfl hin rfl (nar_a _) (fit_a _) (fun q => by cases q) g11 dX6_init_43 (fun H locs hM hS => ?_)
  refine s_aload_n hx hb dX6_init_46 rfl (la hl 0 rfl) ?_
  refine lv_bipush (v := Int32.ofInt 8) hx hb dX6_init_47 (by decide) ?_
  obtain ⟨h12, g12, hrun⟩ := bd hrun
  refine s_newa hx hb (atype := .int) (kd := 8) (bound := 8) (hts _ kw_78) hE.1 (Or.inl ⟨rfl, rfl⟩) hM hS hE.2.1 (by decide) g12 (by decide) (Nat.le_of_ble_eq_true rfl) (Nat.le_of_ble_eq_true rfl) dX6_init_49 (fun H hM hS => ?_)
  obtain ⟨h13, g13, hrun⟩ := bd hrun
  refine s_putF (b := true) hx hb hts kl_6 tyX6 tyX6_ok nmX6 hown hE.1 hM hS (ci := 6) rfl (by decide) rfl (k := 7) (by decide) rfl (hts _ kw_675) rfl hin rfl (nar_a _) (fit_a _) (fun q => by cases q) g13 dX6_init_51 (fun H locs hM hS => ?_)
  refine s_aload_n hx hb dX6_init_54 rfl (la hl 0 rfl) ?_
  refine lv_bipush (v := Int32.ofInt 8) hx hb dX6_init_55 (by decide) ?_
  obtain ⟨h14, g14, hrun⟩ := bd hrun
  refine s_newa hx hb (atype := .int) (kd := 8) (bound := 8) (hts _ kw_78) hE.1 (Or.inl ⟨rfl, rfl⟩) hM hS hE.2.1 (by decide) g14 (by decide) (Nat.le_of_ble_eq_true rfl) (Nat.le_of_ble_eq_true rfl) dX6_init_57 (fun H hM hS => ?_)
  obtain ⟨h15, g15, hrun⟩ := bd hrun
  refine s_putF (b := true) hx hb hts kl_6 tyX6 tyX6_ok nmX6 hown hE.1 hM hS (ci := 6) rfl (by decide) rfl (k := 8) (by decide) rfl (hts _ kw_676) rfl hin rfl (nar_a _) (fit_a _) (fun q => by cases q) g15 dX6_init_59 (fun H locs hM hS => ?_)
  refine s_aload_n hx hb dX6_init_62 rfl (la hl 0 rfl) ?_
  refine lv_bipush (v := Int32.ofInt 8) hx hb dX6_init_63 (by decide) ?_
  obtain ⟨h16, g16, hrun⟩ := bd hrun
  refine s_newa hx hb (atype := .int) (kd := 8) (bound := 8) (hts _ kw_78) hE.1 (Or.inl ⟨rfl, rfl⟩) hM hS hE.2.1 (by decide) g16 (by decide) (Nat.le_of_ble_eq_true rfl) (Nat.le_of_ble_eq_true rfl) dX6_init_65 (fun H hM hS => ?_)
  obtain ⟨h17, g17, hrun⟩ := bd hrun
  refine s_putF (b := true) hx hb hts kl_6 tyX6 tyX6_ok nmX6 hown hE.1 hM hS (ci := 6) rfl (by decide) rfl (k := 9) (by decide) rfl (hts _ kw_677) rfl hin rfl (nar_a _) (fit_a _) (fun q => by cases q) g17 dX6_init_67 (fun H locs hM hS => ?_)
  refine s_aload_n hx hb dX6_init_70 rfl (la hl 0 rfl) ?_
  refine lv_bipush (v := Int32.ofInt 8) hx hb dX6_init_71 (by decide) ?_
  obtain ⟨h18, g18, hrun⟩ := bd hrun
  refine s_newa hx hb (atype := .int) (kd := 8) (bound := 8) (hts _ kw_78) hE.1 (Or.inl ⟨rfl, rfl⟩) hM hS hE.2.1 (by decide) g18 (by decide) (Nat.le_of_ble_eq_true rfl) (Nat.le_of_ble_eq_true rfl) dX6_init_73 (fun H hM hS => ?_)
  obtain ⟨h19, g19, hrun⟩ := bd hrun
  refine s_putF (b := true) hx hb hts kl_6 tyX6 tyX6_ok nmX6 hown hE.1 hM hS (ci := 6) rfl (by decide) rfl (k := 10) (by decide) rfl (hts _ kw_678) rfl hin rfl (nar_a _) (fit_a _) (fun q => by cases q) g19 dX6_init_75 (fun H locs hM hS => ?_)
  refine s_aload_n hx hb dX6_init_78 rfl (la hl 0 rfl) ?_
  refine lv_bipush (v := Int32.ofInt 8) hx hb dX6_init_79 (by decide) ?_
  obtain ⟨h20, g20, hrun⟩ := bd hrun
  refine s_newa hx hb (atype := .int) (kd := 8) (bound := 8) (hts _ kw_78) hE.1 (Or.inl ⟨rfl, rfl⟩) hM hS hE.2.1 (by decide) g20 (by decide) (Nat.le_of_ble_eq_true rfl) (Nat.le_of_ble_eq_true rfl) dX6_init_81 (fun H hM hS => ?_)
  obtain ⟨h21, g21, hrun⟩ := bd hrun
  refine s_putF (b := true) hx hb hts kl_6 tyX6 tyX6_ok nmX6 hown hE.1 hM hS (ci := 6) rfl (by decide) rfl (k := 11) (by decide) rfl (hts _ kw_679) rfl hin rfl (nar_a _) (fit_a _) (fun q => by cases q) g21 dX6_init_83 (fun H locs hM hS => ?_)
  refine s_aload_n hx hb dX6_init_86 rfl (la hl 0 rfl) ?_
  refine lv_bipush (v := Int32.ofInt 8) hx hb dX6_init_87 (by decide) ?_
  obtain ⟨h22, g22, hrun⟩ := bd hrun
  refine s_newa hx hb (atype := .int) (kd := 8) (bound := 8) (hts _ kw_78) hE.1 (Or.inl ⟨rfl, rfl⟩) hM hS hE.2.1 (by decide) g22 (by decide) (Nat.le_of_ble_eq_true rfl) (Nat.le_of_ble_eq_true rfl) dX6_init_89 (fun H hM hS => ?_)
  obtain ⟨h23, g23, hrun⟩ := bd hrun
  refine s_putF (b := true) hx hb hts kl_6 tyX6 tyX6_ok nmX6 hown hE.1 hM hS (ci := 6) rfl (by decide) rfl (k := 12) (by decide) rfl (hts _ kw_680) rfl hin rfl (nar_a _) (fit_a _) (fun q => by cases q) g23 dX6_init_91 (fun H locs hM hS => ?_)
  refine s_aload_n hx hb dX6_init_94 rfl (la hl 0 rfl) ?_
  refine lv_bipush (v := Int32.ofInt 8) hx hb dX6_init_95 (by decide) ?_
  obtain ⟨h24, g24, hrun⟩ := bd hrun
  refine s_newa hx hb (atype := .int) (kd := 8) (bound := 8) (hts _ kw_78) hE.1 (Or.inl ⟨rfl, rfl⟩) hM hS hE.2.1 (by decide) g24 (by decide) (Nat.le_of_ble_eq_true rfl) (Nat.le_of_ble_eq_true rfl) dX6_init_97 (fun H hM hS => ?_)
  obtain ⟨h25, g25, hrun⟩ := bd hrun
  refine s_putF (b := true) hx hb hts kl_6 tyX6 tyX6_ok nmX6 hown hE.1 hM hS (ci := 6) rfl (by decide) rfl (k := 13) (by decide) rfl (hts _ kw_681) rfl hin rfl (nar_a _) (fit_a _) (fun q => by cases q) g25 dX6_init_99 (fun H locs hM hS => ?_)
  refine s_aload_n hx hb dX6_init_102 rfl (la hl 0 rfl) ?_
  refine lv_sipush (v := Int32.ofInt 256) hx hb dX6_init_103 (by decide) ?_
  obtain ⟨h26, g26, hrun⟩ := bd hrun
  refine s_newa hx hb (atype := .int) (kd := 8) (bound := 256) (hts _ kw_78) hE.1 (Or.inl ⟨rfl, rfl⟩) hM hS hE.2.1 (by decide) g26 (by decide) (Nat.le_of_ble_eq_true rfl) (Nat.le_of_ble_eq_true rfl) dX6_init_106 (fun H hM hS => ?_)
  obtain ⟨h27, g27, hrun⟩ := bd hrun
  refine s_putF (b := true) hx hb hts kl_6 tyX6 tyX6_ok nmX6 hown hE.1 hM hS (ci := 6) rfl (by decide) rfl (k := 14) (by decide) rfl (hts _ kw_682) rfl hin rfl (nar_a _) (fit_a _) (fun q => by cases q) g27 dX6_init_108 (fun H locs hM hS => ?_)
  refine s_aload_n hx hb dX6_init_111 rfl (la hl 0 rfl) ?_
  refine lv_sipush (v := Int32.ofInt 256) hx hb dX6_init_112 (by decide) ?_
  obtain ⟨h28, g28, hrun⟩ := bd hrun
  refine s_newa hx hb (atype := .int) (kd := 8) (bound := 256) (hts _ kw_78) hE.1 (Or.inl ⟨rfl, rfl⟩) hM hS hE.2.1 (by decide) g28 (by decide) (Nat.le_of_ble_eq_true rfl) (Nat.le_of_ble_eq_true rfl) dX6_init_115 (fun H hM hS => ?_)
  obtain ⟨h29, g29, hrun⟩ := bd hrun
  refine s_putF (b := true) hx hb hts kl_6 tyX6 tyX6_ok nmX6 hown hE.1 hM hS (ci := 6) rfl (by decide) rfl (k := 15) (by decide) rfl (hts _ kw_683) rfl hin rfl (nar_a _) (fit_a _) (fun q => by cases q) g29 dX6_init_117 (fun H locs hM hS => ?_)
  refine s_aload_n hx hb dX6_init_120 rfl (la hl 0 rfl) ?_
  refine lv_sipush (v := Int32.ofInt 256) hx hb dX6_init_121 (by decide) ?_
  obtain ⟨h30, g30, hrun⟩ := bd hrun
  refine s_newa hx hb (atype := .int) (kd := 8) (bound := 256) (hts _ kw_78) hE.1 (Or.inl ⟨rfl, rfl⟩) hM hS hE.2.1 (by decide) g30 (by decide) (Nat.le_of_ble_eq_true rfl) (Nat.le_of_ble_eq_true rfl) dX6_init_124 (fun H hM hS => ?_)
  obtain ⟨h31, g31, hrun⟩ := bd hrun
  refine s_putF (b := true) hx hb hts kl_6 tyX6 tyX6_ok nmX6 hown hE.1 hM hS (ci := 6) rfl (by decide) rfl (k := 16) (by decide) rfl (hts _ kw_684) rfl hin rfl (nar_a _) (fit_a _) (fun q => by cases q) g31 dX6_init_126 (fun H locs hM hS => ?_)
  refine s_aload_n hx hb dX6_init_129 rfl (la hl 0 rfl) ?_
  refine lv_sipush (v := Int32.ofInt 256) hx hb dX6_init_130 (by decide) ?_
  obtain ⟨h32, g32, hrun⟩ := bd hrun
  refine s_newa hx hb (atype := .int) (kd := 8) (bound := 256) (hts _ kw_78) hE.1 (Or.inl ⟨rfl, rfl⟩) hM hS hE.2.1 (by decide) g32 (by decide) (Nat.le_of_ble_eq_true rfl) (Nat.le_of_ble_eq_true rfl) dX6_init_133 (fun H hM hS => ?_)
  obtain ⟨h33, g33, hrun⟩ := bd hrun
  refine s_putF (b := true) hx hb hts kl_6 tyX6 tyX6_ok nmX6 hown hE.1 hM hS (ci := 6) rfl (by decide) rfl (k := 17) (by decide) rfl (hts _ kw_685) rfl hin rfl (nar_a _) (fit_a _) (fun q => by cases q) g33 dX6_init_135 (fun H locs hM hS => ?_)
  refine s_aload_n hx hb dX6_init_138 rfl (la hl 0 rfl) ?_
  refine s_ldc (n := 32768) hx hb hown (hts _ kw_667) (by decide) dX6_init_139 ?_
  obtain ⟨h34, g34, hrun⟩ := bd hrun
  refine s_newa hx hb (atype := .int) (kd := 8) (bound := 32768) (hts _ kw_78) hE.1 (Or.inl ⟨rfl, rfl⟩) hM hS hE.2.1 (by decide) g34 (by decide) (Nat.le_of_ble_eq_true rfl) (Nat.le_of_ble_eq_true rfl) dX6_init_141 (fun H hM hS => ?_)
  obtain ⟨h35, g35, hrun⟩ := bd hrun
  refine s_putF (b := true) hx hb hts kl_6 tyX6 tyX6_ok nmX6 hown hE.1 hM hS (ci := 6) rfl (by decide) rfl (k := 18) (by decide) rfl (hts _ kw_686) rfl hin rfl (nar_a _) (fit_a _) (fun q => by cases q) g35 dX6_init_143 (fun H locs hM hS => ?_)
  refine s_aload_n hx hb dX6_init_146 rfl (la hl 0 rfl) ?_
  refine s_ldc (n := 32768) hx hb hown (hts _ kw_667) (by decide) dX6_init_147 ?_
  obtain ⟨h36, g36, hrun⟩ := bd hrun
  refine s_newa hx hb (atype := .int) (kd := 8) (bound := 32768) (hts _ kw_78) hE.1 (Or.inl ⟨rfl, rfl⟩) hM hS hE.2.1 (by decide) g36 (by decide) (Nat.le_of_ble_eq_true rfl) (Nat.le_of_ble_eq_true rfl) dX6_init_149 (fun H hM hS => ?_)
  obtain ⟨h37, g37, hrun⟩ := bd hrun
  refine s_putF (b := true) hx hb hts kl_6 tyX6 tyX6_ok nmX6 hown hE.1 hM hS (ci := 6) rfl (by decide) rfl (k := 19) (by decide) rfl (hts _ kw_687) rfl hin rfl (nar_a _) (fit_a _) (fun q => by cases q) g37 dX6_init_151 (fun H locs hM hS => ?_)
  refine s_aload_n hx hb dX6_init_154 rfl (la hl 0 rfl) ?_
  refine s_ldc (n := 32768) hx hb hown (hts _ kw_667) (by decide) dX6_init_155 ?_
  obtain ⟨h38, g38, hrun⟩ := bd hrun
  refine s_newa hx hb (atype := .int) (kd := 8) (bound := 32768) (hts _ kw_78) hE.1 (Or.inl ⟨rfl, rfl⟩) hM hS hE.2.1 (by decide) g38 (by decide) (Nat.le_of_ble_eq_true rfl) (Nat.le_of_ble_eq_true rfl) dX6_init_157 (fun H hM hS => ?_)
  obtain ⟨h39, g39, hrun⟩ := bd hrun
  refine s_putF (b := true) hx hb hts kl_6 tyX6 tyX6_ok nmX6 hown hE.1 hM hS (ci := 6) rfl (by decide) rfl (k := 20) (by decide) rfl (hts _ kw_688) rfl hin rfl (nar_a _) (fit_a _) (fun q => by cases q) g39 dX6_init_159 (fun H locs hM hS => ?_)
  refine s_aload_n hx hb dX6_init_162 rfl (la hl 0 rfl) ?_
  refine lv_bipush (v := Int32.ofInt 24) hx hb dX6_init_163 (by decide) ?_
  obtain ⟨h40, g40, hrun⟩ := bd hrun
  refine s_newa hx hb (atype := .int) (kd := 8) (bound := 24) (hts _ kw_78) hE.1 (Or.inl ⟨rfl, rfl⟩) hM hS hE.2.1 (by decide) g40 (by decide) (Nat.le_of_ble_eq_true rfl) (Nat.le_of_ble_eq_true rfl) dX6_init_165 (fun H hM hS => ?_)
  obtain ⟨h41, g41, hrun⟩ := bd hrun
  refine s_putF (b := true) hx hb hts kl_6 tyX6 tyX6_ok nmX6 hown hE.1 hM hS (ci := 6) rfl (by decide) rfl (k := 21) (by decide) rfl (hts _ kw_689) rfl hin rfl (nar_a _) (fit_a _) (fun q => by cases q) g41 dX6_init_167 (fun H locs hM hS => ?_)
  refine s_aload_n hx hb dX6_init_170 rfl (la hl 0 rfl) ?_
  refine lv_sipush (v := Int32.ofInt 6144) hx hb dX6_init_171 (by decide) ?_
  obtain ⟨h42, g42, hrun⟩ := bd hrun
  refine s_newa hx hb (atype := .int) (kd := 8) (bound := 6144) (hts _ kw_78) hE.1 (Or.inl ⟨rfl, rfl⟩) hM hS hE.2.1 (by decide) g42 (by decide) (Nat.le_of_ble_eq_true rfl) (Nat.le_of_ble_eq_true rfl) dX6_init_174 (fun H hM hS => ?_)
  obtain ⟨h43, g43, hrun⟩ := bd hrun
  refine s_putF (b := true) hx hb hts kl_6 tyX6 tyX6_ok nmX6 hown hE.1 hM hS (ci := 6) rfl (by decide) rfl (k := 22) (by decide) rfl (hts _ kw_690) rfl hin rfl (nar_a _) (fit_a _) (fun q => by cases q) g43 dX6_init_176 (fun H locs hM hS => ?_)
  refine s_aload_n hx hb dX6_init_179 rfl (la hl 0 rfl) ?_
  refine lv_bipush (v := Int32.ofInt 64) hx hb dX6_init_180 (by decide) ?_
  obtain ⟨h44, g44, hrun⟩ := bd hrun
  refine s_newa hx hb (atype := .int) (kd := 8) (bound := 64) (hts _ kw_78) hE.1 (Or.inl ⟨rfl, rfl⟩) hM hS hE.2.1 (by decide) g44 (by decide) (Nat.le_of_ble_eq_true rfl) (Nat.le_of_ble_eq_true rfl) dX6_init_182 (fun H hM hS => ?_)
  obtain ⟨h45, g45, hrun⟩ := bd hrun
  refine s_putF (b := true) hx hb hts kl_6 tyX6 tyX6_ok nmX6 hown hE.1 hM hS (ci := 6) rfl (by decide) rfl (k := 23) (by decide) rfl (hts _ kw_691) rfl hin rfl (nar_a _) (fit_a _) (fun q => by cases q) g45 dX6_init_184 (fun H locs hM hS => ?_)
  refine s_aload_n hx hb dX6_init_187 rfl (la hl 0 rfl) ?_
  refine lv_sipush (v := Int32.ofInt 256) hx hb dX6_init_188 (by decide) ?_
  obtain ⟨h46, g46, hrun⟩ := bd hrun
  refine s_newa hx hb (atype := .int) (kd := 8) (bound := 256) (hts _ kw_78) hE.1 (Or.inl ⟨rfl, rfl⟩) hM hS hE.2.1 (by decide) g46 (by decide) (Nat.le_of_ble_eq_true rfl) (Nat.le_of_ble_eq_true rfl) dX6_init_191 (fun H hM hS => ?_)
  obtain ⟨h47, g47, hrun⟩ := bd hrun
  refine s_putF (b := true) hx hb hts kl_6 tyX6 tyX6_ok nmX6 hown hE.1 hM hS (ci := 6) rfl (by decide) rfl (k := 24) (by decide) rfl (hts _ kw_692) rfl hin rfl (nar_a _) (fit_a _) (fun q => by cases q) g47 dX6_init_193 (fun H locs hM hS => ?_)
  refine s_aload_n hx hb dX6_init_196 rfl (la hl 0 rfl) ?_
  refine lv_bipush (v := Int32.ofInt 8) hx hb dX6_init_197 (by decide) ?_
  obtain ⟨h48, g48, hrun⟩ := bd hrun
  refine s_newa hx hb (atype := .int) (kd := 8) (bound := 8) (hts _ kw_78) hE.1 (Or.inl ⟨rfl, rfl⟩) hM hS hE.2.1 (by decide) g48 (by decide) (Nat.le_of_ble_eq_true rfl) (Nat.le_of_ble_eq_true rfl) dX6_init_199 (fun H hM hS => ?_)
  obtain ⟨h49, g49, hrun⟩ := bd hrun
  refine s_putF (b := true) hx hb hts kl_6 tyX6 tyX6_ok nmX6 hown hE.1 hM hS (ci := 6) rfl (by decide) rfl (k := 25) (by decide) rfl (hts _ kw_693) rfl hin rfl (nar_a _) (fit_a _) (fun q => by cases q) g49 dX6_init_201 (fun H locs hM hS => ?_)
  refine s_aload_n hx hb dX6_init_204 rfl (la hl 0 rfl) ?_
  refine lv_bipush (v := Int32.ofInt 96) hx hb dX6_init_205 (by decide) ?_
  obtain ⟨h50, g50, hrun⟩ := bd hrun
  refine s_newa hx hb (atype := .int) (kd := 8) (bound := 96) (hts _ kw_78) hE.1 (Or.inl ⟨rfl, rfl⟩) hM hS hE.2.1 (by decide) g50 (by decide) (Nat.le_of_ble_eq_true rfl) (Nat.le_of_ble_eq_true rfl) dX6_init_207 (fun H hM hS => ?_)
  obtain ⟨h51, g51, hrun⟩ := bd hrun
  refine s_putF (b := true) hx hb hts kl_6 tyX6 tyX6_ok nmX6 hown hE.1 hM hS (ci := 6) rfl (by decide) rfl (k := 26) (by decide) rfl (hts _ kw_694) rfl hin rfl (nar_a _) (fit_a _) (fun q => by cases q) g51 dX6_init_209 (fun H locs hM hS => ?_)
  refine lv_iconst (v := Int32.ofInt 0) hx hb dX6_init_212 rfl ?_
  refine t_istore_n (lv' := [(1, vi 0), (0, vr x0)]) hx hb dX6_init_213 rfl hl (by decide) rfl (fun ls hl => ?_)
  exact lp214 fuel h51 x0 0 H locs ls (by decide) hM hS (lsub hl [1, 0] rfl) hrun
def f_X6_thrown (h : Hp) (x0 : Int) : Option (Int × Hp) :=
  Option.bind (gtf h 6 0 x0) fun v1 =>
  some (v1, h)
abbrev w_X6_thrown : List Cond := Cond.code yX6_thrown cX6_thrown 1 (some .int) :: BW
abbrev rm_X6_thrown : Room := { frames := 0, cells := 0, slots := 0, locals := 0 }
set_option maxHeartbeats 4000000 in
set_option maxRecDepth 100000 in
theorem c_X6_thrown (l : Launch) (D : va_G) (G : Nat → ClassId) (base : Nat) (h h' : Hp) (x0 : Int) (rv : Int) (hrun : f_X6_thrown h x0 = some (rv, h')) : Met l yX6_thrown w_X6_thrown rm_X6_thrown (PC l D G base h [vr x0]) (QR D G base (some (vi rv)) (inr rv) h') rm_X6_thrown.cells rm_X6_thrown.slots (Ab base) := by
  refine Met.ofW (cc := cX6_thrown) (maxL := 1) (ret := (some .int)) (by decide) rfl ?_
  intro p e s m args below meth c s₁ B hml hv
  obtain ⟨hargs, hE, hM⟩ := hv
  have hx := B.exec
  have hb := B.bytes
  have hr := B.returns
  have hts0 := atoms_spec (ws := w_X6_thrown) B.pre
  have hts : ∀ w ∈ BW, w.before args s = true := fun w hw => hts0 w (List.mem_cons_of_mem _ hw)
  have hown : s.vm.findClass RX6 = some m.cls := findClass_of_methodNamed B.named
  have hlocks := B.notSynchronized
  refine s_entry hargs hM (c_r c_0) (Nat.le_of_ble_eq_true rfl) (fun H locs ls hM hS hl => ?_)
  replace hl : lvh ls 1 [(0, vr x0)] := hl
  unfold f_X6_thrown at hrun
  refine s_aload_n hx hb dX6_thrown_0 rfl (la hl 0 rfl) ?_
  obtain ⟨v1, g1, hrun⟩ := bd hrun
  refine s_getfi hx hb hts kl_6 hown hE.1 hM (ci := 6) rfl (by decide) rfl (k := 0) (by decide) rfl (hts _ kw_668) g1 dX6_thrown_1 ?_
  have i_v1 : inr v1 := gtf_i hM g1 (by decide) rfl
  exact s_iret hx hb hr hlocks hM hS i_v1 hrun (Nat.le_of_ble_eq_true rfl) (Nat.le_of_ble_eq_true rfl) dX6_thrown_4
def f_X6_refused_j14 (h : Hp) (s0 : Int) : Option (Int × Hp) :=
  rtB s0 h
def f_X6_refused (h : Hp) (x0 x1 : Int) : Option (Int × Hp) :=
  Option.bind (ptf h 6 0 x0 x1) fun h1 =>
  if x1 ≤ 0 then (
    f_X6_refused_j14 h1 0
  ) else (
    f_X6_refused_j14 h1 1
  )
abbrev w_X6_refused : List Cond := Cond.code yX6_refused cX6_refused 2 (some .boolean) :: BW
abbrev rm_X6_refused : Room := { frames := 0, cells := 0, slots := 0, locals := 0 }
set_option maxHeartbeats 4000000 in
set_option maxRecDepth 100000 in
theorem c_X6_refused (l : Launch) (D : va_G) (G : Nat → ClassId) (base : Nat) (h h' : Hp) (x0 x1 : Int) (rv : Int) (i_x1 : inr x1) (hrun : f_X6_refused h x0 x1 = some (rv, h')) : Met l yX6_refused w_X6_refused rm_X6_refused (PC l D G base h [vr x0, vi x1]) (QR D G base (some (vi rv)) (inr rv) h') rm_X6_refused.cells rm_X6_refused.slots (Ab base) := by
  refine Met.ofW (cc := cX6_refused) (maxL := 2) (ret := (some .boolean)) (by decide) rfl ?_
  intro p e s m args below meth c s₁ B hml hv
  obtain ⟨hargs, hE, hM⟩ := hv
  have hx := B.exec
  have hb := B.bytes
  have hr := B.returns
  have hts0 := atoms_spec (ws := w_X6_refused) B.pre
  have hts : ∀ w ∈ BW, w.before args s = true := fun w hw => hts0 w (List.mem_cons_of_mem _ hw)
  have hown : s.vm.findClass RX6 = some m.cls := findClass_of_methodNamed B.named
  have hlocks := B.notSynchronized
  have j14 : ∀ (h : Hp) (s0 : Int) (H : Heap) (locs : List Loc) (ls : Array Slot), inr s0 → SM D G base h H → va_S (Ab base) s.heap H locs → lvh ls 2 [] → f_X6_refused_j14 h s0 = some (rv, h') → W p l e (headSpec w_X6_refused rm_X6_refused).room s m args below meth c H locs 0 0 (QI D G base rv h' below args s 0 0) (F0 m 14 ls [vi s0]) := by
    intro h s0 H locs ls i_s0 hM hS hl hrun
    unfold f_X6_refused_j14 at hrun
    exact s_zret hx hb hr hlocks hM hS i_s0 hrun (Nat.le_of_ble_eq_true rfl) (Nat.le_of_ble_eq_true rfl) dX6_refused_14
  refine s_entry hargs hM (c_r (c_i c_0)) (Nat.le_of_ble_eq_true rfl) (fun H locs ls hM hS hl => ?_)
  replace hl : lvh ls 2 [(0, vr x0), (1, vi x1)] := hl
  unfold f_X6_refused at hrun
  refine s_aload_n hx hb dX6_refused_0 rfl (la hl 0 rfl) ?_
  refine lv_iload_n hx hb dX6_refused_1 rfl (la hl 1 rfl) ?_
  obtain ⟨h1, g1, hrun⟩ := bd hrun
  refine s_put (b := false) hx hb hts kl_6 tyX6 tyX6_ok nmX6 hown hE.1 hM hS (ci := 6) rfl (by decide) rfl (k := 0) (by decide) rfl (hts _ kw_668) rfl (vp_nar_int _) rfl (fun _ => i_x1) g1 dX6_refused_2 (fun H locs hM hS => ?_)
  refine lv_iload_n hx hb dX6_refused_5 rfl (la hl 1 rfl) ?_
  refine s_if_le (tgt := 13) hx hb dX6_refused_6 (by decide) i_x1 (fun cd => ?_) (fun cd => ?_)
  · replace hrun := it_pos cd hrun
    refine lv_iconst (v := Int32.ofInt 0) hx hb dX6_refused_13 rfl ?_
    exact j14 h1 0 H locs ls (by decide) hM hS (lsub hl [] rfl) hrun
  · replace hrun := it_neg cd hrun
    refine lv_iconst (v := Int32.ofInt 1) hx hb dX6_refused_9 rfl ?_
    refine lv_goto (tgt := 14) hx hb dX6_refused_10 (by decide) ?_
    exact j14 h1 1 H locs ls (by decide) hM hS (lsub hl [] rfl) hrun
def f_X6_isIn_j15 (h : Hp) (s0 : Int) : Option (Int × Hp) :=
  rtB s0 h
def f_X6_isIn_j14 (h : Hp) : Option (Int × Hp) :=
  f_X6_isIn_j15 h 0
def f_X6_isIn (h : Hp) (x0 x1 x2 : Int) : Option (Int × Hp) :=
  if x0 < x1 then (
    f_X6_isIn_j14 h
  ) else (
    if x2 < x0 then (
      f_X6_isIn_j14 h
    ) else (
      f_X6_isIn_j15 h 1
    )
  )
abbrev w_X6_isIn : List Cond := Cond.code yX6_isIn cX6_isIn 3 (some .boolean) :: BW
abbrev rm_X6_isIn : Room := { frames := 0, cells := 0, slots := 0, locals := 0 }
set_option maxHeartbeats 4000000 in
set_option maxRecDepth 100000 in
theorem c_X6_isIn (l : Launch) (D : va_G) (G : Nat → ClassId) (base : Nat) (h h' : Hp) (x0 x1 x2 : Int) (rv : Int) (i_x0 : inr x0) (i_x1 : inr x1) (i_x2 : inr x2) (hrun : f_X6_isIn h x0 x1 x2 = some (rv, h')) : Met l yX6_isIn w_X6_isIn rm_X6_isIn (PC l D G base h [vi x0, vi x1, vi x2]) (QR D G base (some (vi rv)) (inr rv) h') rm_X6_isIn.cells rm_X6_isIn.slots (Ab base) := by
  refine Met.ofW (cc := cX6_isIn) (maxL := 3) (ret := (some .boolean)) (by decide) rfl ?_
  intro p e s m args below meth c s₁ B hml hv
  obtain ⟨hargs, hE, hM⟩ := hv
  have hx := B.exec
  have hb := B.bytes
  have hr := B.returns
  have hts0 := atoms_spec (ws := w_X6_isIn) B.pre
  have hts : ∀ w ∈ BW, w.before args s = true := fun w hw => hts0 w (List.mem_cons_of_mem _ hw)
  have hown : s.vm.findClass RX6 = some m.cls := findClass_of_methodNamed B.named
  have hlocks := B.notSynchronized
  have j15 : ∀ (h : Hp) (s0 : Int) (H : Heap) (locs : List Loc) (ls : Array Slot), inr s0 → SM D G base h H → va_S (Ab base) s.heap H locs → lvh ls 3 [] → f_X6_isIn_j15 h s0 = some (rv, h') → W p l e (headSpec w_X6_isIn rm_X6_isIn).room s m args below meth c H locs 0 0 (QI D G base rv h' below args s 0 0) (F0 m 15 ls [vi s0]) := by
    intro h s0 H locs ls i_s0 hM hS hl hrun
    unfold f_X6_isIn_j15 at hrun
    exact s_zret hx hb hr hlocks hM hS i_s0 hrun (Nat.le_of_ble_eq_true rfl) (Nat.le_of_ble_eq_true rfl) dX6_isIn_15
  have j14 : ∀ (h : Hp) (H : Heap) (locs : List Loc) (ls : Array Slot), SM D G base h H → va_S (Ab base) s.heap H locs → lvh ls 3 [] → f_X6_isIn_j14 h = some (rv, h') → W p l e (headSpec w_X6_isIn rm_X6_isIn).room s m args below meth c H locs 0 0 (QI D G base rv h' below args s 0 0) (F0 m 14 ls []) := by
    intro h H locs ls hM hS hl hrun
    unfold f_X6_isIn_j14 at hrun
    refine lv_iconst (v := Int32.ofInt 0) hx hb dX6_isIn_14 rfl ?_
    exact j15 h 0 H locs ls (by decide) hM hS (lsub hl [] rfl) hrun
  refine s_entry hargs hM (c_i (c_i (c_i c_0))) (Nat.le_of_ble_eq_true rfl) (fun H locs ls hM hS hl => ?_)
  replace hl : lvh ls 3 [(0, vi x0), (1, vi x1), (2, vi x2)] := hl
  unfold f_X6_isIn at hrun
  refine lv_iload_n hx hb dX6_isIn_0 rfl (la hl 0 rfl) ?_
  refine lv_iload_n hx hb dX6_isIn_1 rfl (la hl 1 rfl) ?_
  refine s_icmp_lt (tgt := 14) hx hb dX6_isIn_2 (by decide) i_x0 i_x1 (fun cd => ?_) (fun cd => ?_)
  · replace hrun := it_pos cd hrun
    exact j14 h H locs ls hM hS (lsub hl [] rfl) hrun
  · replace hrun := it_neg cd hrun
    refine lv_iload_n hx hb dX6_isIn_5 rfl (la hl 0 rfl) ?_
    refine lv_iload_n hx hb dX6_isIn_6 rfl (la hl 2 rfl) ?_
    refine s_icmp_gt (tgt := 14) hx hb dX6_isIn_7 (by decide) i_x0 i_x2 (fun cd => ?_) (fun cd => ?_)
    · replace hrun := it_pos cd hrun
      exact j14 h H locs ls hM hS (lsub hl [] rfl) hrun
    · replace hrun := it_neg cd hrun
      refine lv_iconst (v := Int32.ofInt 1) hx hb dX6_isIn_10 rfl ?_
      refine lv_goto (tgt := 15) hx hb dX6_isIn_11 (by decide) ?_
      exact j15 h 1 H locs ls (by decide) hM hS (lsub hl [] rfl) hrun
def f_X6_isCache_j28 (h : Hp) (s0 : Int) : Option (Int × Hp) :=
  rtB s0 h
def f_X6_isCache_j27 (h : Hp) : Option (Int × Hp) :=
  f_X6_isCache_j28 h 0
def f_X6_isCache (h : Hp) (x0 x1 : Int) : Option (Int × Hp) :=
  Option.bind (gtf h 6 3 x0) fun v1 =>
  Option.bind (f_X6_isIn h x1 0 (wr (v1 - 1))) fun r2 =>
  if r2.1 = 0 then (
    f_X6_isCache_j27 r2.2
  ) else (
    Option.bind (gtf r2.2 6 4 x0) fun v3 =>
    Option.bind (ald r2.2 9 v3 x1) fun v4 =>
    if v4 ≠ 0 then (
      f_X6_isCache_j27 r2.2
    ) else (
      f_X6_isCache_j28 r2.2 1
    )
  )
abbrev w_X6_isCache : List Cond := Cond.code yX6_isCache cX6_isCache 2 (some .boolean) :: BW
abbrev rm_X6_isCache : Room := { frames := 1, cells := 0, slots := 0, locals := 22 }
set_option maxHeartbeats 4000000 in
set_option maxRecDepth 100000 in
theorem c_X6_isCache (l : Launch) (D : va_G) (G : Nat → ClassId) (base : Nat) (h h' : Hp) (x0 x1 : Int) (rv : Int) (i_x1 : inr x1) (hrun : f_X6_isCache h x0 x1 = some (rv, h')) : Met l yX6_isCache w_X6_isCache rm_X6_isCache (PC l D G base h [vr x0, vi x1]) (QR D G base (some (vi rv)) (inr rv) h') rm_X6_isCache.cells rm_X6_isCache.slots (Ab base) := by
  refine Met.ofW (cc := cX6_isCache) (maxL := 2) (ret := (some .boolean)) (by decide) rfl ?_
  intro p e s m args below meth c s₁ B hml hv
  obtain ⟨hargs, hE, hM⟩ := hv
  have hx := B.exec
  have hb := B.bytes
  have hr := B.returns
  have hts0 := atoms_spec (ws := w_X6_isCache) B.pre
  have hts : ∀ w ∈ BW, w.before args s = true := fun w hw => hts0 w (List.mem_cons_of_mem _ hw)
  have hown : s.vm.findClass RX6 = some m.cls := findClass_of_methodNamed B.named
  have hlocks := B.notSynchronized
  have j28 : ∀ (h : Hp) (s0 : Int) (H : Heap) (locs : List Loc) (ls : Array Slot), inr s0 → SM D G base h H → va_S (Ab base) s.heap H locs → lvh ls 2 [] → f_X6_isCache_j28 h s0 = some (rv, h') → W p l e (headSpec w_X6_isCache rm_X6_isCache).room s m args below meth c H locs 0 0 (QI D G base rv h' below args s 0 0) (F0 m 28 ls [vi s0]) := by
    intro h s0 H locs ls i_s0 hM hS hl hrun
    unfold f_X6_isCache_j28 at hrun
    exact s_zret hx hb hr hlocks hM hS i_s0 hrun (Nat.le_of_ble_eq_true rfl) (Nat.le_of_ble_eq_true rfl) dX6_isCache_28
  have j27 : ∀ (h : Hp) (H : Heap) (locs : List Loc) (ls : Array Slot), SM D G base h H → va_S (Ab base) s.heap H locs → lvh ls 2 [] → f_X6_isCache_j27 h = some (rv, h') → W p l e (headSpec w_X6_isCache rm_X6_isCache).room s m args below meth c H locs 0 0 (QI D G base rv h' below args s 0 0) (F0 m 27 ls []) := by
    intro h H locs ls hM hS hl hrun
    unfold f_X6_isCache_j27 at hrun
    refine lv_iconst (v := Int32.ofInt 0) hx hb dX6_isCache_27 rfl ?_
    exact j28 h 0 H locs ls (by decide) hM hS (lsub hl [] rfl) hrun
  refine s_entry hargs hM (c_r (c_i c_0)) (Nat.le_of_ble_eq_true rfl) (fun H locs ls hM hS hl => ?_)
  replace hl : lvh ls 2 [(0, vr x0), (1, vi x1)] := hl
  unfold f_X6_isCache at hrun
  refine lv_iload_n hx hb dX6_isCache_0 rfl (la hl 1 rfl) ?_
  refine lv_iconst (v := Int32.ofInt 0) hx hb dX6_isCache_1 rfl ?_
  refine s_aload_n hx hb dX6_isCache_2 rfl (la hl 0 rfl) ?_
  obtain ⟨v1, g1, hrun⟩ := bd hrun
  refine s_getfi hx hb hts kl_6 hown hE.1 hM (ci := 6) rfl (by decide) rfl (k := 3) (by decide) rfl (hts _ kw_671) g1 dX6_isCache_3 ?_
  have i_v1 : inr v1 := gtf_i hM g1 (by decide) rfl
  refine lv_iconst (v := Int32.ofInt 1) hx hb dX6_isCache_6 rfl ?_
  refine s_isub hx hb dX6_isCache_7 ?_
  obtain ⟨r2, g2, hrun⟩ := bd hrun
  refine s_callS (n := 3) (rest := []) [vi x1, vi 0, vi (wr (v1 - 1))] hx hb hml hown hts hE hM hS (c_X6_isIn l D G base h r2.2 x1 0 (wr (v1 - 1)) r2.1 i_x1 (by decide) (inr_wr _) g2) kw_761 kw_759 kw_40 kw_760 (by decide +kernel) ⟨Nat.le_of_ble_eq_true rfl, Nat.le_of_ble_eq_true rfl⟩ rfl hl.1.1 rfl (c8 c_0 (Nat.le_of_ble_eq_true rfl)) dX6_isCache_8 ⟨Nat.le_of_ble_eq_true rfl, Nat.le_of_ble_eq_true rfl⟩ (fun H locs i_r2 hM hS => ?_)
  refine W.eq (g2 := F0 m 11 ls [vi r2.1]) rfl ?_
  refine s_if_eq (tgt := 27) hx hb dX6_isCache_11 (by decide) i_r2 (fun cd => ?_) (fun cd => ?_)
  · replace hrun := it_pos cd hrun
    exact j27 r2.2 H locs ls hM hS (lsub hl [] rfl) hrun
  · replace hrun := it_neg cd hrun
    refine s_aload_n hx hb dX6_isCache_14 rfl (la hl 0 rfl) ?_
    obtain ⟨v3, g3, hrun⟩ := bd hrun
    refine s_getfr hx hb hts kl_6 hown hE.1 hM (ci := 6) rfl (by decide) rfl (k := 4) (by decide) rfl (hts _ kw_672) g3 dX6_isCache_15 ?_
    refine lv_iload_n hx hb dX6_isCache_18 rfl (la hl 1 rfl) ?_
    obtain ⟨v4, g4, hrun⟩ := bd hrun
    refine s_zald hx hb hE.1 hM i_x1 g4 dX6_isCache_19 ?_
    have i_v4 : inr v4 := ald_i hM g4 (by decide) (by decide)
    refine s_if_ne (tgt := 27) hx hb dX6_isCache_20 (by decide) i_v4 (fun cd => ?_) (fun cd => ?_)
    · replace hrun := it_pos cd hrun
      exact j27 r2.2 H locs ls hM hS (lsub hl [] rfl) hrun
    · replace hrun := it_neg cd hrun
      refine lv_iconst (v := Int32.ofInt 1) hx hb dX6_isCache_23 rfl ?_
      refine lv_goto (tgt := 28) hx hb dX6_isCache_24 (by decide) ?_
      exact j28 r2.2 1 H locs ls (by decide) hM hS (lsub hl [] rfl) hrun
def f_X6_takeBlock_s37 (k37 : Hp → Int → Int → Int → Int → Option (Int × Hp)) (h : Hp) (x0 x1 x3 x4 : Int) : Option (Int × Hp) :=
  if x4 ≤ x1 then (
    some (x3, h)
  ) else (
    Option.bind (gtf h 6 1 x0) fun v5 =>
    Option.bind (ast h 8 v5 (wr (x3 + (ish 1 (wr (x4 - 1))))) (wr (x4 - 1))) fun h6 =>
    k37 h6 x0 x1 x3 (wr (x4 + (-1)))
  )
def f_X6_takeBlock_b37 : Nat → Hp → Int → Int → Int → Int → Option (Int × Hp)
  | 0, _, _, _, _, _ => none
  | n + 1, h, x0, x1, x3, x4 => f_X6_takeBlock_s37 (f_X6_takeBlock_b37 n) h x0 x1 x3 x4
def f_X6_takeBlock_s10 (k2 : Hp → Int → Int → Int → Option (Int × Hp)) (k10 : Hp → Int → Int → Int → Int → Option (Int × Hp)) (h : Hp) (x0 x1 x2 x3 : Int) : Option (Int × Hp) :=
  if 256 ≤ x3 then (
    k2 h x0 x1 (wr (x2 + 1))
  ) else (
    Option.bind (gtf h 6 1 x0) fun v1 =>
    Option.bind (ald h 8 v1 x3) fun v2 =>
    if v2 ≠ x2 then (
      k10 h x0 x1 x2 (wr (x3 + 1))
    ) else (
      Option.bind (gtf h 6 1 x0) fun v3 =>
      Option.bind (ast h 8 v3 x3 (-1)) fun h4 =>
      f_X6_takeBlock_b37 fuel h4 x0 x1 x3 x2
    )
  )
def f_X6_takeBlock_b10 (k2 : Hp → Int → Int → Int → Option (Int × Hp)) : Nat → Hp → Int → Int → Int → Int → Option (Int × Hp)
  | 0, _, _, _, _, _ => none
  | n + 1, h, x0, x1, x2, x3 => f_X6_takeBlock_s10 k2 (f_X6_takeBlock_b10 k2 n) h x0 x1 x2 x3
def f_X6_takeBlock_s2 (k2 : Hp → Int → Int → Int → Option (Int × Hp)) (h : Hp) (x0 x1 x2 : Int) : Option (Int × Hp) :=
  if 6 < x2 then (
    some ((-1), h)
  ) else (
    f_X6_takeBlock_b10 k2 fuel h x0 x1 x2 0
  )
def f_X6_takeBlock_b2 : Nat → Hp → Int → Int → Int → Option (Int × Hp)
  | 0, _, _, _, _ => none
  | n + 1, h, x0, x1, x2 => f_X6_takeBlock_s2 (f_X6_takeBlock_b2 n) h x0 x1 x2
def f_X6_takeBlock (h : Hp) (x0 x1 : Int) : Option (Int × Hp) :=
  f_X6_takeBlock_b2 fuel h x0 x1 x1
abbrev w_X6_takeBlock : List Cond := Cond.code yX6_takeBlock cX6_takeBlock 5 (some .int) :: BW
abbrev rm_X6_takeBlock : Room := { frames := 0, cells := 0, slots := 0, locals := 0 }
set_option maxHeartbeats 4000000 in
set_option maxRecDepth 100000 in
theorem c_X6_takeBlock (l : Launch) (D : va_G) (G : Nat → ClassId) (base : Nat) (h h' : Hp) (x0 x1 : Int) (rv : Int) (i_x1 : inr x1) (hrun : f_X6_takeBlock h x0 x1 = some (rv, h')) : Met l yX6_takeBlock w_X6_takeBlock rm_X6_takeBlock (PC l D G base h [vr x0, vi x1]) (QR D G base (some (vi rv)) (inr rv) h') rm_X6_takeBlock.cells rm_X6_takeBlock.slots (Ab base) := by
  refine Met.ofW (cc := cX6_takeBlock) (maxL := 5) (ret := (some .int)) (by decide) rfl ?_
  intro p e s m args below meth c s₁ B hml hv
  obtain ⟨hargs, hE, hM⟩ := hv
  have hx := B.exec
  have hb := B.bytes
  have hr := B.returns
  have hts0 := atoms_spec (ws := w_X6_takeBlock) B.pre
  have hts : ∀ w ∈ BW, w.before args s = true := fun w hw => hts0 w (List.mem_cons_of_mem _ hw)
  have hown : s.vm.findClass RX6 = some m.cls := findClass_of_methodNamed B.named
  have hlocks := B.notSynchronized
  have lp37 : ∀ (n37 : Nat) (h : Hp) (x0 x1 x3 x4 : Int) (H : Heap) (locs : List Loc) (ls : Array Slot), inr x1 → inr x3 → inr x4 → SM D G base h H → va_S (Ab base) s.heap H locs → lvh ls 5 [(0, vr x0), (1, vi x1), (3, vi x3), (4, vi x4)] → f_X6_takeBlock_b37 n37 h x0 x1 x3 x4 = some (rv, h') → W p l e (headSpec w_X6_takeBlock rm_X6_takeBlock).room s m args below meth c H locs 0 0 (QI D G base rv h' below args s 0 0) (F0 m 37 ls []) := by
    intro n37
    induction n37 with
    | zero => intro h x0 x1 x3 x4 H locs ls i_x1 i_x3 i_x4 hM hS hl hrun; exact absurd hrun (fun q => nomatch (show (none : Option (Int × Hp)) = some (rv, h') from q))
    | succ n37 ih37 =>
      intro h x0 x1 x3 x4 H locs ls i_x1 i_x3 i_x4 hM hS hl hrun
      replace hrun : f_X6_takeBlock_s37 (f_X6_takeBlock_b37 n37) h x0 x1 x3 x4 = some (rv, h') := hrun
      unfold f_X6_takeBlock_s37 at hrun
      refine lv_iload hx hb dX6_takeBlock_37 (la hl 3 rfl) ?_
      refine lv_iload_n hx hb dX6_takeBlock_39 rfl (la hl 1 rfl) ?_
      refine s_icmp_le (tgt := 66) hx hb dX6_takeBlock_40 (by decide) i_x4 i_x1 (fun cd => ?_) (fun cd => ?_)
      · replace hrun := it_pos cd hrun
        refine lv_iload_n hx hb dX6_takeBlock_66 rfl (la hl 2 rfl) ?_
        exact s_iret hx hb hr hlocks hM hS i_x3 hrun (Nat.le_of_ble_eq_true rfl) (Nat.le_of_ble_eq_true rfl) dX6_takeBlock_67
      · replace hrun := it_neg cd hrun
        refine s_aload_n hx hb dX6_takeBlock_43 rfl (la hl 0 rfl) ?_
        obtain ⟨v5, g5, hrun⟩ := bd hrun
        refine s_getfr hx hb hts kl_6 hown hE.1 hM (ci := 6) rfl (by decide) rfl (k := 1) (by decide) rfl (hts _ kw_669) g5 dX6_takeBlock_44 ?_
        refine lv_iload_n hx hb dX6_takeBlock_47 rfl (la hl 2 rfl) ?_
        refine lv_iconst (v := Int32.ofInt 1) hx hb dX6_takeBlock_48 rfl ?_
        refine lv_iload hx hb dX6_takeBlock_49 (la hl 3 rfl) ?_
        refine lv_iconst (v := Int32.ofInt 1) hx hb dX6_takeBlock_51 rfl ?_
        refine s_isub hx hb dX6_takeBlock_52 ?_
        refine s_ishl hx hb dX6_takeBlock_53 ?_
        refine s_iadd hx hb dX6_takeBlock_54 ?_
        refine lv_iload hx hb dX6_takeBlock_55 (la hl 3 rfl) ?_
        refine lv_iconst (v := Int32.ofInt 1) hx hb dX6_takeBlock_57 rfl ?_
        refine s_isub hx hb dX6_takeBlock_58 ?_
        obtain ⟨h6, g6, hrun⟩ := bd hrun
        refine s_iast hx hb hE.1 hM hS (inr_wr _) (inr_wr _) g6 dX6_takeBlock_59 (fun H locs hM hS => ?_)
        refine t_iinc (lv' := [(4, vi (wr (x4 + (-1)))), (0, vr x0), (1, vi x1), (3, vi x3)]) hx hb dX6_takeBlock_60 hl (k := 3) rfl (by decide) rfl rfl (fun ls hl => ?_)
        refine lv_goto (tgt := 37) hx hb dX6_takeBlock_63 (by decide) ?_
        exact ih37 h6 x0 x1 x3 (wr (x4 + (-1))) H locs ls i_x1 i_x3 (inr_wr _) hM hS (lsub hl [1, 2, 3, 0] rfl) hrun
  have lp2 : ∀ (n2 : Nat) (h : Hp) (x0 x1 x2 : Int) (H : Heap) (locs : List Loc) (ls : Array Slot), inr x1 → inr x2 → SM D G base h H → va_S (Ab base) s.heap H locs → lvh ls 5 [(0, vr x0), (1, vi x1), (2, vi x2)] → f_X6_takeBlock_b2 n2 h x0 x1 x2 = some (rv, h') → W p l e (headSpec w_X6_takeBlock rm_X6_takeBlock).room s m args below meth c H locs 0 0 (QI D G base rv h' below args s 0 0) (F0 m 2 ls []) := by
    intro n2
    induction n2 with
    | zero => intro h x0 x1 x2 H locs ls i_x1 i_x2 hM hS hl hrun; exact absurd hrun (fun q => nomatch (show (none : Option (Int × Hp)) = some (rv, h') from q))
    | succ n2 ih2 =>
      have lp10 : ∀ (n10 : Nat) (h : Hp) (x0 x1 x2 x3 : Int) (H : Heap) (locs : List Loc) (ls : Array Slot), inr x1 → inr x2 → inr x3 → SM D G base h H → va_S (Ab base) s.heap H locs → lvh ls 5 [(0, vr x0), (1, vi x1), (2, vi x2), (3, vi x3)] → f_X6_takeBlock_b10 (f_X6_takeBlock_b2 n2) n10 h x0 x1 x2 x3 = some (rv, h') → W p l e (headSpec w_X6_takeBlock rm_X6_takeBlock).room s m args below meth c H locs 0 0 (QI D G base rv h' below args s 0 0) (F0 m 10 ls []) := by
        intro n10
        induction n10 with
        | zero => intro h x0 x1 x2 x3 H locs ls i_x1 i_x2 i_x3 hM hS hl hrun; exact absurd hrun (fun q => nomatch (show (none : Option (Int × Hp)) = some (rv, h') from q))
        | succ n10 ih10 =>
          intro h x0 x1 x2 x3 H locs ls i_x1 i_x2 i_x3 hM hS hl hrun
          replace hrun : f_X6_takeBlock_s10 (f_X6_takeBlock_b2 n2) (f_X6_takeBlock_b10 (f_X6_takeBlock_b2 n2) n10) h x0 x1 x2 x3 = some (rv, h') := hrun
          unfold f_X6_takeBlock_s10 at hrun
          refine lv_iload_n hx hb dX6_takeBlock_10 rfl (la hl 3 rfl) ?_
          refine lv_sipush (v := Int32.ofInt 256) hx hb dX6_takeBlock_11 (by decide) ?_
          refine s_icmp_ge (tgt := 74) hx hb dX6_takeBlock_14 (by decide) i_x3 (by decide) (fun cd => ?_) (fun cd => ?_)
          · replace hrun := it_pos cd hrun
            refine t_iinc (lv' := [(2, vi (wr (x2 + 1))), (0, vr x0), (1, vi x1), (3, vi x3)]) hx hb dX6_takeBlock_74 hl (k := 2) rfl (by decide) rfl rfl (fun ls hl => ?_)
            refine lv_goto (tgt := 2) hx hb dX6_takeBlock_77 (by decide) ?_
            exact ih2 h x0 x1 (wr (x2 + 1)) H locs ls i_x1 (inr_wr _) hM hS (lsub hl [1, 2, 0] rfl) hrun
          · replace hrun := it_neg cd hrun
            refine s_aload_n hx hb dX6_takeBlock_17 rfl (la hl 0 rfl) ?_
            obtain ⟨v1, g1, hrun⟩ := bd hrun
            refine s_getfr hx hb hts kl_6 hown hE.1 hM (ci := 6) rfl (by decide) rfl (k := 1) (by decide) rfl (hts _ kw_669) g1 dX6_takeBlock_18 ?_
            refine lv_iload_n hx hb dX6_takeBlock_21 rfl (la hl 3 rfl) ?_
            obtain ⟨v2, g2, hrun⟩ := bd hrun
            refine s_iald hx hb hE.1 hM i_x3 g2 dX6_takeBlock_22 ?_
            have i_v2 : inr v2 := ald_i hM g2 (by decide) (by decide)
            refine lv_iload_n hx hb dX6_takeBlock_23 rfl (la hl 2 rfl) ?_
            refine s_icmp_ne (tgt := 68) hx hb dX6_takeBlock_24 (by decide) i_v2 i_x2 (fun cd => ?_) (fun cd => ?_)
            · replace hrun := it_pos cd hrun
              refine t_iinc (lv' := [(3, vi (wr (x3 + 1))), (0, vr x0), (1, vi x1), (2, vi x2)]) hx hb dX6_takeBlock_68 hl (k := 3) rfl (by decide) rfl rfl (fun ls hl => ?_)
              refine lv_goto (tgt := 10) hx hb dX6_takeBlock_71 (by decide) ?_
              exact ih10 h x0 x1 x2 (wr (x3 + 1)) H locs ls i_x1 i_x2 (inr_wr _) hM hS (lsub hl [1, 2, 3, 0] rfl) hrun
            · replace hrun := it_neg cd hrun
              refine s_aload_n hx hb dX6_takeBlock_27 rfl (la hl 0 rfl) ?_
              obtain ⟨v3, g3, hrun⟩ := bd hrun
              refine s_getfr hx hb hts kl_6 hown hE.1 hM (ci := 6) rfl (by decide) rfl (k := 1) (by decide) rfl (hts _ kw_669) g3 dX6_takeBlock_28 ?_
              refine lv_iload_n hx hb dX6_takeBlock_31 rfl (la hl 3 rfl) ?_
              refine lv_iconst (v := Int32.ofInt (-1)) hx hb dX6_takeBlock_32 rfl ?_
              obtain ⟨h4, g4, hrun⟩ := bd hrun
              refine s_iast hx hb hE.1 hM hS i_x3 (by decide) g4 dX6_takeBlock_33 (fun H locs hM hS => ?_)
              refine lv_iload_n hx hb dX6_takeBlock_34 rfl (la hl 2 rfl) ?_
              refine t_istore (lv' := [(4, vi x2), (0, vr x0), (1, vi x1), (2, vi x2), (3, vi x3)]) hx hb dX6_takeBlock_35 hl (by decide) rfl (fun ls hl => ?_)
              exact lp37 fuel h4 x0 x1 x3 x2 H locs ls i_x1 i_x3 i_x2 hM hS (lsub hl [1, 2, 4, 0] rfl) hrun
      intro h x0 x1 x2 H locs ls i_x1 i_x2 hM hS hl hrun
      replace hrun : f_X6_takeBlock_s2 (f_X6_takeBlock_b2 n2) h x0 x1 x2 = some (rv, h') := hrun
      unfold f_X6_takeBlock_s2 at hrun
      refine lv_iload_n hx hb dX6_takeBlock_2 rfl (la hl 2 rfl) ?_
      refine lv_bipush (v := Int32.ofInt 6) hx hb dX6_takeBlock_3 (by decide) ?_
      refine s_icmp_gt (tgt := 80) hx hb dX6_takeBlock_5 (by decide) i_x2 (by decide) (fun cd => ?_) (fun cd => ?_)
      · replace hrun := it_pos cd hrun
        refine lv_iconst (v := Int32.ofInt (-1)) hx hb dX6_takeBlock_80 rfl ?_
        exact s_iret hx hb hr hlocks hM hS (by decide) hrun (Nat.le_of_ble_eq_true rfl) (Nat.le_of_ble_eq_true rfl) dX6_takeBlock_81
      · replace hrun := it_neg cd hrun
        refine lv_iconst (v := Int32.ofInt 0) hx hb dX6_takeBlock_8 rfl ?_
        refine t_istore_n (lv' := [(3, vi 0), (0, vr x0), (1, vi x1), (2, vi x2)]) hx hb dX6_takeBlock_9 rfl hl (by decide) rfl (fun ls hl => ?_)
        exact lp10 fuel h x0 x1 x2 0 H locs ls i_x1 i_x2 (by decide) hM hS (lsub hl [1, 2, 3, 0] rfl) hrun
  refine s_entry hargs hM (c_r (c_i c_0)) (Nat.le_of_ble_eq_true rfl) (fun H locs ls hM hS hl => ?_)
  replace hl : lvh ls 5 [(0, vr x0), (1, vi x1)] := hl
  unfold f_X6_takeBlock at hrun
  refine lv_iload_n hx hb dX6_takeBlock_0 rfl (la hl 1 rfl) ?_
  refine t_istore_n (lv' := [(2, vi x1), (0, vr x0), (1, vi x1)]) hx hb dX6_takeBlock_1 rfl hl (by decide) rfl (fun ls hl => ?_)
  exact lp2 fuel h x0 x1 x1 H locs ls i_x1 i_x1 hM hS (lsub hl [1, 2, 0] rfl) hrun
def f_X6_giveBlock_j55 (h : Hp) (x0 x3 x4 : Int) : Option (Int × Hp) :=
  Option.bind (gtf h 6 1 x0) fun v5 =>
  Option.bind (ast h 8 v5 x3 x4) fun h6 =>
  some (0, h6)
def f_X6_giveBlock_s5 (k5 : Hp → Int → Int → Int → Option (Int × Hp)) (h : Hp) (x0 x3 x4 : Int) : Option (Int × Hp) :=
  if 6 ≤ x4 then (
    f_X6_giveBlock_j55 h x0 x3 x4
  ) else (
    Option.bind (gtf h 6 1 x0) fun v1 =>
    Option.bind (ald h 8 v1 (ixr x3 (ish 1 x4))) fun v2 =>
    if v2 ≠ x4 then (
      f_X6_giveBlock_j55 h x0 x3 x4
    ) else (
      Option.bind (gtf h 6 1 x0) fun v3 =>
      Option.bind (ast h 8 v3 (ixr x3 (ish 1 x4)) (-1)) fun h4 =>
      k5 h4 x0 (ian x3 (ixr (ish 1 x4) (-1))) (wr (x4 + 1))
    )
  )
def f_X6_giveBlock_b5 : Nat → Hp → Int → Int → Int → Option (Int × Hp)
  | 0, _, _, _, _ => none
  | n + 1, h, x0, x3, x4 => f_X6_giveBlock_s5 (f_X6_giveBlock_b5 n) h x0 x3 x4
def f_X6_giveBlock (h : Hp) (x0 x1 x2 : Int) : Option (Int × Hp) :=
  f_X6_giveBlock_b5 fuel h x0 x1 x2
abbrev w_X6_giveBlock : List Cond := Cond.code yX6_giveBlock cX6_giveBlock 5 none :: BW
abbrev rm_X6_giveBlock : Room := { frames := 0, cells := 0, slots := 0, locals := 0 }
set_option maxHeartbeats 4000000 in
set_option maxRecDepth 100000 in
theorem c_X6_giveBlock (l : Launch) (D : va_G) (G : Nat → ClassId) (base : Nat) (h h' : Hp) (x0 x1 x2 : Int) (rv : Int) (i_x1 : inr x1) (i_x2 : inr x2) (hrun : f_X6_giveBlock h x0 x1 x2 = some (rv, h')) : Met l yX6_giveBlock w_X6_giveBlock rm_X6_giveBlock (PC l D G base h [vr x0, vi x1, vi x2]) (QR D G base none True h') rm_X6_giveBlock.cells rm_X6_giveBlock.slots (Ab base) := by
  refine Met.ofW (cc := cX6_giveBlock) (maxL := 5) (ret := none) (by decide) rfl ?_
  intro p e s m args below meth c s₁ B hml hv
  obtain ⟨hargs, hE, hM⟩ := hv
  have hx := B.exec
  have hb := B.bytes
  have hr := B.returns
  have hts0 := atoms_spec (ws := w_X6_giveBlock) B.pre
  have hts : ∀ w ∈ BW, w.before args s = true := fun w hw => hts0 w (List.mem_cons_of_mem _ hw)
  have hown : s.vm.findClass RX6 = some m.cls := findClass_of_methodNamed B.named
  have hlocks := B.notSynchronized
  have j55 : ∀ (h : Hp) (x0 x3 x4 : Int) (H : Heap) (locs : List Loc) (ls : Array Slot), inr x3 → inr x4 → SM D G base h H → va_S (Ab base) s.heap H locs → lvh ls 5 [(0, vr x0), (3, vi x3), (4, vi x4)] → f_X6_giveBlock_j55 h x0 x3 x4 = some (rv, h') → W p l e (headSpec w_X6_giveBlock rm_X6_giveBlock).room s m args below meth c H locs 0 0 (QV D G base rv h' below args s 0 0) (F0 m 55 ls []) := by
    intro h x0 x3 x4 H locs ls i_x3 i_x4 hM hS hl hrun
    unfold f_X6_giveBlock_j55 at hrun
    refine s_aload_n hx hb dX6_giveBlock_55 rfl (la hl 0 rfl) ?_
    obtain ⟨v5, g5, hrun⟩ := bd hrun
    refine s_getfr hx hb hts kl_6 hown hE.1 hM (ci := 6) rfl (by decide) rfl (k := 1) (by decide) rfl (hts _ kw_669) g5 dX6_giveBlock_56 ?_
    refine lv_iload_n hx hb dX6_giveBlock_59 rfl (la hl 1 rfl) ?_
    refine lv_iload hx hb dX6_giveBlock_60 (la hl 2 rfl) ?_
    obtain ⟨h6, g6, hrun⟩ := bd hrun
    refine s_iast hx hb hE.1 hM hS i_x3 i_x4 g6 dX6_giveBlock_62 (fun H locs hM hS => ?_)
    exact s_vret hx hb hr hlocks hM hS hrun (Nat.le_of_ble_eq_true rfl) (Nat.le_of_ble_eq_true rfl) dX6_giveBlock_63
  have lp5 : ∀ (n5 : Nat) (h : Hp) (x0 x3 x4 : Int) (H : Heap) (locs : List Loc) (ls : Array Slot), inr x3 → inr x4 → SM D G base h H → va_S (Ab base) s.heap H locs → lvh ls 5 [(0, vr x0), (3, vi x3), (4, vi x4)] → f_X6_giveBlock_b5 n5 h x0 x3 x4 = some (rv, h') → W p l e (headSpec w_X6_giveBlock rm_X6_giveBlock).room s m args below meth c H locs 0 0 (QV D G base rv h' below args s 0 0) (F0 m 5 ls []) := by
    intro n5
    induction n5 with
    | zero => intro h x0 x3 x4 H locs ls i_x3 i_x4 hM hS hl hrun; exact absurd hrun (fun q => nomatch (show (none : Option (Int × Hp)) = some (rv, h') from q))
    | succ n5 ih5 =>
      intro h x0 x3 x4 H locs ls i_x3 i_x4 hM hS hl hrun
      replace hrun : f_X6_giveBlock_s5 (f_X6_giveBlock_b5 n5) h x0 x3 x4 = some (rv, h') := hrun
      unfold f_X6_giveBlock_s5 at hrun
      refine lv_iload hx hb dX6_giveBlock_5 (la hl 2 rfl) ?_
      refine lv_bipush (v := Int32.ofInt 6) hx hb dX6_giveBlock_7 (by decide) ?_
      refine s_icmp_ge (tgt := 55) hx hb dX6_giveBlock_9 (by decide) i_x4 (by decide) (fun cd => ?_) (fun cd => ?_)
      · replace hrun := it_pos cd hrun
        exact j55 h x0 x3 x4 H locs ls i_x3 i_x4 hM hS (lsub hl [0, 1, 2] rfl) hrun
      · replace hrun := it_neg cd hrun
        refine s_aload_n hx hb dX6_giveBlock_12 rfl (la hl 0 rfl) ?_
        obtain ⟨v1, g1, hrun⟩ := bd hrun
        refine s_getfr hx hb hts kl_6 hown hE.1 hM (ci := 6) rfl (by decide) rfl (k := 1) (by decide) rfl (hts _ kw_669) g1 dX6_giveBlock_13 ?_
        refine lv_iload_n hx hb dX6_giveBlock_16 rfl (la hl 1 rfl) ?_
        refine lv_iconst (v := Int32.ofInt 1) hx hb dX6_giveBlock_17 rfl ?_
        refine lv_iload hx hb dX6_giveBlock_18 (la hl 2 rfl) ?_
        refine s_ishl hx hb dX6_giveBlock_20 ?_
        refine s_ixor hx hb dX6_giveBlock_21 ?_
        obtain ⟨v2, g2, hrun⟩ := bd hrun
        refine s_iald hx hb hE.1 hM (inr_xr _ _) g2 dX6_giveBlock_22 ?_
        have i_v2 : inr v2 := ald_i hM g2 (by decide) (by decide)
        refine lv_iload hx hb dX6_giveBlock_23 (la hl 2 rfl) ?_
        refine s_icmp_ne (tgt := 55) hx hb dX6_giveBlock_25 (by decide) i_v2 i_x4 (fun cd => ?_) (fun cd => ?_)
        · replace hrun := it_pos cd hrun
          exact j55 h x0 x3 x4 H locs ls i_x3 i_x4 hM hS (lsub hl [0, 1, 2] rfl) hrun
        · replace hrun := it_neg cd hrun
          refine s_aload_n hx hb dX6_giveBlock_28 rfl (la hl 0 rfl) ?_
          obtain ⟨v3, g3, hrun⟩ := bd hrun
          refine s_getfr hx hb hts kl_6 hown hE.1 hM (ci := 6) rfl (by decide) rfl (k := 1) (by decide) rfl (hts _ kw_669) g3 dX6_giveBlock_29 ?_
          refine lv_iload_n hx hb dX6_giveBlock_32 rfl (la hl 1 rfl) ?_
          refine lv_iconst (v := Int32.ofInt 1) hx hb dX6_giveBlock_33 rfl ?_
          refine lv_iload hx hb dX6_giveBlock_34 (la hl 2 rfl) ?_
          refine s_ishl hx hb dX6_giveBlock_36 ?_
          refine s_ixor hx hb dX6_giveBlock_37 ?_
          refine lv_iconst (v := Int32.ofInt (-1)) hx hb dX6_giveBlock_38 rfl ?_
          obtain ⟨h4, g4, hrun⟩ := bd hrun
          refine s_iast hx hb hE.1 hM hS (inr_xr _ _) (by decide) g4 dX6_giveBlock_39 (fun H locs hM hS => ?_)
          refine lv_iload_n hx hb dX6_giveBlock_40 rfl (la hl 1 rfl) ?_
          refine lv_iconst (v := Int32.ofInt 1) hx hb dX6_giveBlock_41 rfl ?_
          refine lv_iload hx hb dX6_giveBlock_42 (la hl 2 rfl) ?_
          refine s_ishl hx hb dX6_giveBlock_44 ?_
          refine lv_iconst (v := Int32.ofInt (-1)) hx hb dX6_giveBlock_45 rfl ?_
          refine s_ixor hx hb dX6_giveBlock_46 ?_
          refine s_iand hx hb dX6_giveBlock_47 ?_
          refine t_istore_n (lv' := [(3, vi (ian x3 (ixr (ish 1 x4) (-1)))), (0, vr x0), (4, vi x4)]) hx hb dX6_giveBlock_48 rfl hl (by decide) rfl (fun ls hl => ?_)
          refine t_iinc (lv' := [(4, vi (wr (x4 + 1))), (3, vi (ian x3 (ixr (ish 1 x4) (-1)))), (0, vr x0)]) hx hb dX6_giveBlock_49 hl (k := 2) rfl (by decide) rfl rfl (fun ls hl => ?_)
          refine lv_goto (tgt := 5) hx hb dX6_giveBlock_52 (by decide) ?_
          exact ih5 h4 x0 (ian x3 (ixr (ish 1 x4) (-1))) (wr (x4 + 1)) H locs ls (inr_an _ _) (inr_wr _) hM hS (lsub hl [2, 1, 0] rfl) hrun
  refine s_entry hargs hM (c_r (c_i (c_i c_0))) (Nat.le_of_ble_eq_true rfl) (fun H locs ls hM hS hl => ?_)
  replace hl : lvh ls 5 [(0, vr x0), (1, vi x1), (2, vi x2)] := hl
  unfold f_X6_giveBlock at hrun
  refine lv_iload_n hx hb dX6_giveBlock_0 rfl (la hl 1 rfl) ?_
  refine t_istore_n (lv' := [(3, vi x1), (0, vr x0), (1, vi x1), (2, vi x2)]) hx hb dX6_giveBlock_1 rfl hl (by decide) rfl (fun ls hl => ?_)
  refine lv_iload_n hx hb dX6_giveBlock_2 rfl (la hl 3 rfl) ?_
  refine t_istore (lv' := [(4, vi x2), (3, vi x1), (0, vr x0), (1, vi x1), (2, vi x2)]) hx hb dX6_giveBlock_3 hl (by decide) rfl (fun ls hl => ?_)
  exact lp5 fuel h x0 x1 x2 H locs ls i_x1 i_x2 hM hS (lsub hl [2, 1, 0] rfl) hrun
def f_X6_enter_s16 (k16 : Hp → Int → Int → Int → Int → Option (Int × Hp)) (h : Hp) (x0 x3 x4 x5 : Int) : Option (Int × Hp) :=
  if x5 ≤ 0 then (
    Option.bind (gtf h 6 22 x0) fun v3 =>
    Option.bind (ast h 8 v3 (wr (256 * x4)) x3) fun h4 =>
    Option.bind (gtf h4 6 21 x0) fun v5 =>
    Option.bind (ald h4 8 v5 x4) fun v6 =>
    Option.bind (ast h4 8 v5 x4 (wr (v6 + 1))) fun h7 =>
    some (0, h7)
  ) else (
    Option.bind (gtf h 6 22 x0) fun v8 =>
    Option.bind (gtf h 6 22 x0) fun v9 =>
    Option.bind (ald h 8 v9 (wr ((wr ((wr (256 * x4)) + x5)) - 1))) fun v10 =>
    Option.bind (ast h 8 v8 (wr ((wr (256 * x4)) + x5)) v10) fun h11 =>
    k16 h11 x0 x3 x4 (wr (x5 + (-1)))
  )
def f_X6_enter_b16 : Nat → Hp → Int → Int → Int → Int → Option (Int × Hp)
  | 0, _, _, _, _, _ => none
  | n + 1, h, x0, x3, x4, x5 => f_X6_enter_s16 (f_X6_enter_b16 n) h x0 x3 x4 x5
def f_X6_enter (h : Hp) (x0 x1 x2 x3 : Int) : Option (Int × Hp) :=
  Option.bind (gtf h 6 21 x0) fun v1 =>
  Option.bind (ald h 8 v1 (wr ((wr (3 * x1)) + x2))) fun v2 =>
  f_X6_enter_b16 fuel h x0 x3 (wr ((wr (3 * x1)) + x2)) v2
abbrev w_X6_enter : List Cond := Cond.code yX6_enter cX6_enter 6 none :: BW
abbrev rm_X6_enter : Room := { frames := 0, cells := 0, slots := 0, locals := 0 }
set_option maxHeartbeats 4000000 in
set_option maxRecDepth 100000 in
theorem c_X6_enter (l : Launch) (D : va_G) (G : Nat → ClassId) (base : Nat) (h h' : Hp) (x0 x1 x2 x3 : Int) (rv : Int) (i_x1 : inr x1) (i_x2 : inr x2) (i_x3 : inr x3) (hrun : f_X6_enter h x0 x1 x2 x3 = some (rv, h')) : Met l yX6_enter w_X6_enter rm_X6_enter (PC l D G base h [vr x0, vi x1, vi x2, vi x3]) (QR D G base none True h') rm_X6_enter.cells rm_X6_enter.slots (Ab base) := by
  refine Met.ofW (cc := cX6_enter) (maxL := 6) (ret := none) (by decide) rfl ?_
  intro p e s m args below meth c s₁ B hml hv
  obtain ⟨hargs, hE, hM⟩ := hv
  have hx := B.exec
  have hb := B.bytes
  have hr := B.returns
  have hts0 := atoms_spec (ws := w_X6_enter) B.pre
  have hts : ∀ w ∈ BW, w.before args s = true := fun w hw => hts0 w (List.mem_cons_of_mem _ hw)
  have hown : s.vm.findClass RX6 = some m.cls := findClass_of_methodNamed B.named
  have hlocks := B.notSynchronized
  have lp16 : ∀ (n16 : Nat) (h : Hp) (x0 x3 x4 x5 : Int) (H : Heap) (locs : List Loc) (ls : Array Slot), inr x3 → inr x4 → inr x5 → SM D G base h H → va_S (Ab base) s.heap H locs → lvh ls 6 [(0, vr x0), (3, vi x3), (4, vi x4), (5, vi x5)] → f_X6_enter_b16 n16 h x0 x3 x4 x5 = some (rv, h') → W p l e (headSpec w_X6_enter rm_X6_enter).room s m args below meth c H locs 0 0 (QV D G base rv h' below args s 0 0) (F0 m 16 ls []) := by
    intro n16
    induction n16 with
    | zero => intro h x0 x3 x4 x5 H locs ls i_x3 i_x4 i_x5 hM hS hl hrun; exact absurd hrun (fun q => nomatch (show (none : Option (Int × Hp)) = some (rv, h') from q))
    | succ n16 ih16 =>
      intro h x0 x3 x4 x5 H locs ls i_x3 i_x4 i_x5 hM hS hl hrun
      replace hrun : f_X6_enter_s16 (f_X6_enter_b16 n16) h x0 x3 x4 x5 = some (rv, h') := hrun
      unfold f_X6_enter_s16 at hrun
      refine lv_iload hx hb dX6_enter_16 (la hl 3 rfl) ?_
      refine s_if_le (tgt := 57) hx hb dX6_enter_18 (by decide) i_x5 (fun cd => ?_) (fun cd => ?_)
      · replace hrun := it_pos cd hrun
        refine s_aload_n hx hb dX6_enter_57 rfl (la hl 0 rfl) ?_
        obtain ⟨v3, g3, hrun⟩ := bd hrun
        refine s_getfr hx hb hts kl_6 hown hE.1 hM (ci := 6) rfl (by decide) rfl (k := 22) (by decide) rfl (hts _ kw_690) g3 dX6_enter_58 ?_
        refine lv_sipush (v := Int32.ofInt 256) hx hb dX6_enter_61 (by decide) ?_
        refine lv_iload hx hb dX6_enter_64 (la hl 2 rfl) ?_
        refine s_imul hx hb dX6_enter_66 ?_
        refine lv_iload_n hx hb dX6_enter_67 rfl (la hl 1 rfl) ?_
        obtain ⟨h4, g4, hrun⟩ := bd hrun
        refine s_iast hx hb hE.1 hM hS (inr_wr _) i_x3 g4 dX6_enter_68 (fun H locs hM hS => ?_)
        refine s_aload_n hx hb dX6_enter_69 rfl (la hl 0 rfl) ?_
        obtain ⟨v5, g5, hrun⟩ := bd hrun
        refine s_getfr hx hb hts kl_6 hown hE.1 hM (ci := 6) rfl (by decide) rfl (k := 21) (by decide) rfl (hts _ kw_689) g5 dX6_enter_70 ?_
        refine lv_iload hx hb dX6_enter_73 (la hl 2 rfl) ?_
        refine lv_dup2_11 hx hb dX6_enter_75 rfl (vr_cat _) ?_
        obtain ⟨v6, g6, hrun⟩ := bd hrun
        refine s_iald hx hb hE.1 hM i_x4 g6 dX6_enter_76 ?_
        have i_v6 : inr v6 := ald_i hM g6 (by decide) (by decide)
        refine lv_iconst (v := Int32.ofInt 1) hx hb dX6_enter_77 rfl ?_
        refine s_iadd hx hb dX6_enter_78 ?_
        obtain ⟨h7, g7, hrun⟩ := bd hrun
        refine s_iast hx hb hE.1 hM hS i_x4 (inr_wr _) g7 dX6_enter_79 (fun H locs hM hS => ?_)
        exact s_vret hx hb hr hlocks hM hS hrun (Nat.le_of_ble_eq_true rfl) (Nat.le_of_ble_eq_true rfl) dX6_enter_80
      · replace hrun := it_neg cd hrun
        refine s_aload_n hx hb dX6_enter_21 rfl (la hl 0 rfl) ?_
        obtain ⟨v8, g8, hrun⟩ := bd hrun
        refine s_getfr hx hb hts kl_6 hown hE.1 hM (ci := 6) rfl (by decide) rfl (k := 22) (by decide) rfl (hts _ kw_690) g8 dX6_enter_22 ?_
        refine lv_sipush (v := Int32.ofInt 256) hx hb dX6_enter_25 (by decide) ?_
        refine lv_iload hx hb dX6_enter_28 (la hl 2 rfl) ?_
        refine s_imul hx hb dX6_enter_30 ?_
        refine lv_iload hx hb dX6_enter_31 (la hl 3 rfl) ?_
        refine s_iadd hx hb dX6_enter_33 ?_
        refine s_aload_n hx hb dX6_enter_34 rfl (la hl 0 rfl) ?_
        obtain ⟨v9, g9, hrun⟩ := bd hrun
        refine s_getfr hx hb hts kl_6 hown hE.1 hM (ci := 6) rfl (by decide) rfl (k := 22) (by decide) rfl (hts _ kw_690) g9 dX6_enter_35 ?_
        refine lv_sipush (v := Int32.ofInt 256) hx hb dX6_enter_38 (by decide) ?_
        refine lv_iload hx hb dX6_enter_41 (la hl 2 rfl) ?_
        refine s_imul hx hb dX6_enter_43 ?_
        refine lv_iload hx hb dX6_enter_44 (la hl 3 rfl) ?_
        refine s_iadd hx hb dX6_enter_46 ?_
        refine lv_iconst (v := Int32.ofInt 1) hx hb dX6_enter_47 rfl ?_
        refine s_isub hx hb dX6_enter_48 ?_
        obtain ⟨v10, g10, hrun⟩ := bd hrun
        refine s_iald hx hb hE.1 hM (inr_wr _) g10 dX6_enter_49 ?_
        have i_v10 : inr v10 := ald_i hM g10 (by decide) (by decide)
        obtain ⟨h11, g11, hrun⟩ := bd hrun
        refine s_iast hx hb hE.1 hM hS (inr_wr _) i_v10 g11 dX6_enter_50 (fun H locs hM hS => ?_)
        refine t_iinc (lv' := [(5, vi (wr (x5 + (-1)))), (0, vr x0), (3, vi x3), (4, vi x4)]) hx hb dX6_enter_51 hl (k := 3) rfl (by decide) rfl rfl (fun ls hl => ?_)
        refine lv_goto (tgt := 16) hx hb dX6_enter_54 (by decide) ?_
        exact ih16 h11 x0 x3 x4 (wr (x5 + (-1))) H locs ls i_x3 i_x4 (inr_wr _) hM hS (lsub hl [1, 2, 3, 0] rfl) hrun
  refine s_entry hargs hM (c_r (c_i (c_i (c_i c_0)))) (Nat.le_of_ble_eq_true rfl) (fun H locs ls hM hS hl => ?_)
  replace hl : lvh ls 6 [(0, vr x0), (1, vi x1), (2, vi x2), (3, vi x3)] := hl
  unfold f_X6_enter at hrun
  refine lv_iconst (v := Int32.ofInt 3) hx hb dX6_enter_0 rfl ?_
  refine lv_iload_n hx hb dX6_enter_1 rfl (la hl 1 rfl) ?_
  refine s_imul hx hb dX6_enter_2 ?_
  refine lv_iload_n hx hb dX6_enter_3 rfl (la hl 2 rfl) ?_
  refine s_iadd hx hb dX6_enter_4 ?_
  refine t_istore (lv' := [(4, vi (wr ((wr (3 * x1)) + x2))), (0, vr x0), (1, vi x1), (2, vi x2), (3, vi x3)]) hx hb dX6_enter_5 hl (by decide) rfl (fun ls hl => ?_)
  refine s_aload_n hx hb dX6_enter_7 rfl (la hl 1 rfl) ?_
  obtain ⟨v1, g1, hrun⟩ := bd hrun
  refine s_getfr hx hb hts kl_6 hown hE.1 hM (ci := 6) rfl (by decide) rfl (k := 21) (by decide) rfl (hts _ kw_689) g1 dX6_enter_8 ?_
  refine lv_iload hx hb dX6_enter_11 (la hl 0 rfl) ?_
  obtain ⟨v2, g2, hrun⟩ := bd hrun
  refine s_iald hx hb hE.1 hM (inr_wr _) g2 dX6_enter_13 ?_
  have i_v2 : inr v2 := ald_i hM g2 (by decide) (by decide)
  refine t_istore (lv' := [(5, vi v2), (4, vi (wr ((wr (3 * x1)) + x2))), (0, vr x0), (1, vi x1), (2, vi x2), (3, vi x3)]) hx hb dX6_enter_14 hl (by decide) rfl (fun ls hl => ?_)
  exact lp16 fuel h x0 x3 (wr ((wr (3 * x1)) + x2)) v2 H locs ls i_x3 (inr_wr _) i_v2 hM hS (lsub hl [2, 5, 1, 0] rfl) hrun
def f_X6_leave_s49 (k49 : Hp → Int → Int → Int → Option (Int × Hp)) (h : Hp) (x0 x4 x6 : Int) : Option (Int × Hp) :=
  Option.bind (gtf h 6 21 x0) fun v6 =>
  Option.bind (ald h 8 v6 x4) fun v7 =>
  if v7 ≤ x6 then (
    some (0, h)
  ) else (
    Option.bind (gtf h 6 22 x0) fun v8 =>
    Option.bind (gtf h 6 22 x0) fun v9 =>
    Option.bind (ald h 8 v9 (wr ((wr ((wr (256 * x4)) + x6)) + 1))) fun v10 =>
    Option.bind (ast h 8 v8 (wr ((wr (256 * x4)) + x6)) v10) fun h11 =>
    k49 h11 x0 x4 (wr (x6 + 1))
  )
def f_X6_leave_b49 : Nat → Hp → Int → Int → Int → Option (Int × Hp)
  | 0, _, _, _, _ => none
  | n + 1, h, x0, x4, x6 => f_X6_leave_s49 (f_X6_leave_b49 n) h x0 x4 x6
def f_X6_leave_s10 (k10 : Hp → Int → Int → Int → Int → Option (Int × Hp)) (h : Hp) (x0 x3 x4 x5 : Int) : Option (Int × Hp) :=
  Option.bind (gtf h 6 22 x0) fun v1 =>
  Option.bind (ald h 8 v1 (wr ((wr (256 * x4)) + x5))) fun v2 =>
  if v2 = x3 then (
    Option.bind (gtf h 6 21 x0) fun v3 =>
    Option.bind (ald h 8 v3 x4) fun v4 =>
    Option.bind (ast h 8 v3 x4 (wr (v4 - 1))) fun h5 =>
    f_X6_leave_b49 fuel h5 x0 x4 x5
  ) else (
    k10 h x0 x3 x4 (wr (x5 + 1))
  )
def f_X6_leave_b10 : Nat → Hp → Int → Int → Int → Int → Option (Int × Hp)
  | 0, _, _, _, _, _ => none
  | n + 1, h, x0, x3, x4, x5 => f_X6_leave_s10 (f_X6_leave_b10 n) h x0 x3 x4 x5
def f_X6_leave (h : Hp) (x0 x1 x2 x3 : Int) : Option (Int × Hp) :=
  f_X6_leave_b10 fuel h x0 x3 (wr ((wr (3 * x1)) + x2)) 0
abbrev w_X6_leave : List Cond := Cond.code yX6_leave cX6_leave 7 none :: BW
abbrev rm_X6_leave : Room := { frames := 0, cells := 0, slots := 0, locals := 0 }
set_option maxHeartbeats 4000000 in
set_option maxRecDepth 100000 in
theorem c_X6_leave (l : Launch) (D : va_G) (G : Nat → ClassId) (base : Nat) (h h' : Hp) (x0 x1 x2 x3 : Int) (rv : Int) (i_x1 : inr x1) (i_x2 : inr x2) (i_x3 : inr x3) (hrun : f_X6_leave h x0 x1 x2 x3 = some (rv, h')) : Met l yX6_leave w_X6_leave rm_X6_leave (PC l D G base h [vr x0, vi x1, vi x2, vi x3]) (QR D G base none True h') rm_X6_leave.cells rm_X6_leave.slots (Ab base) := by
  refine Met.ofW (cc := cX6_leave) (maxL := 7) (ret := none) (by decide) rfl ?_
  intro p e s m args below meth c s₁ B hml hv
  obtain ⟨hargs, hE, hM⟩ := hv
  have hx := B.exec
  have hb := B.bytes
  have hr := B.returns
  have hts0 := atoms_spec (ws := w_X6_leave) B.pre
  have hts : ∀ w ∈ BW, w.before args s = true := fun w hw => hts0 w (List.mem_cons_of_mem _ hw)
  have hown : s.vm.findClass RX6 = some m.cls := findClass_of_methodNamed B.named
  have hlocks := B.notSynchronized
  have lp49 : ∀ (n49 : Nat) (h : Hp) (x0 x4 x6 : Int) (H : Heap) (locs : List Loc) (ls : Array Slot), inr x4 → inr x6 → SM D G base h H → va_S (Ab base) s.heap H locs → lvh ls 7 [(0, vr x0), (4, vi x4), (6, vi x6)] → f_X6_leave_b49 n49 h x0 x4 x6 = some (rv, h') → W p l e (headSpec w_X6_leave rm_X6_leave).room s m args below meth c H locs 0 0 (QV D G base rv h' below args s 0 0) (F0 m 49 ls []) := by
    intro n49
    induction n49 with
    | zero => intro h x0 x4 x6 H locs ls i_x4 i_x6 hM hS hl hrun; exact absurd hrun (fun q => nomatch (show (none : Option (Int × Hp)) = some (rv, h') from q))
    | succ n49 ih49 =>
      intro h x0 x4 x6 H locs ls i_x4 i_x6 hM hS hl hrun
      replace hrun : f_X6_leave_s49 (f_X6_leave_b49 n49) h x0 x4 x6 = some (rv, h') := hrun
      unfold f_X6_leave_s49 at hrun
      refine lv_iload hx hb dX6_leave_49 (la hl 2 rfl) ?_
      refine s_aload_n hx hb dX6_leave_51 rfl (la hl 0 rfl) ?_
      obtain ⟨v6, g6, hrun⟩ := bd hrun
      refine s_getfr hx hb hts kl_6 hown hE.1 hM (ci := 6) rfl (by decide) rfl (k := 21) (by decide) rfl (hts _ kw_689) g6 dX6_leave_52 ?_
      refine lv_iload hx hb dX6_leave_55 (la hl 1 rfl) ?_
      obtain ⟨v7, g7, hrun⟩ := bd hrun
      refine s_iald hx hb hE.1 hM i_x4 g7 dX6_leave_57 ?_
      have i_v7 : inr v7 := ald_i hM g7 (by decide) (by decide)
      refine s_icmp_ge (tgt := 97) hx hb dX6_leave_58 (by decide) i_x6 i_v7 (fun cd => ?_) (fun cd => ?_)
      · replace hrun := it_pos cd hrun
        exact s_vret hx hb hr hlocks hM hS hrun (Nat.le_of_ble_eq_true rfl) (Nat.le_of_ble_eq_true rfl) dX6_leave_97
      · replace hrun := it_neg cd hrun
        refine s_aload_n hx hb dX6_leave_61 rfl (la hl 0 rfl) ?_
        obtain ⟨v8, g8, hrun⟩ := bd hrun
        refine s_getfr hx hb hts kl_6 hown hE.1 hM (ci := 6) rfl (by decide) rfl (k := 22) (by decide) rfl (hts _ kw_690) g8 dX6_leave_62 ?_
        refine lv_sipush (v := Int32.ofInt 256) hx hb dX6_leave_65 (by decide) ?_
        refine lv_iload hx hb dX6_leave_68 (la hl 1 rfl) ?_
        refine s_imul hx hb dX6_leave_70 ?_
        refine lv_iload hx hb dX6_leave_71 (la hl 2 rfl) ?_
        refine s_iadd hx hb dX6_leave_73 ?_
        refine s_aload_n hx hb dX6_leave_74 rfl (la hl 0 rfl) ?_
        obtain ⟨v9, g9, hrun⟩ := bd hrun
        refine s_getfr hx hb hts kl_6 hown hE.1 hM (ci := 6) rfl (by decide) rfl (k := 22) (by decide) rfl (hts _ kw_690) g9 dX6_leave_75 ?_
        refine lv_sipush (v := Int32.ofInt 256) hx hb dX6_leave_78 (by decide) ?_
        refine lv_iload hx hb dX6_leave_81 (la hl 1 rfl) ?_
        refine s_imul hx hb dX6_leave_83 ?_
        refine lv_iload hx hb dX6_leave_84 (la hl 2 rfl) ?_
        refine s_iadd hx hb dX6_leave_86 ?_
        refine lv_iconst (v := Int32.ofInt 1) hx hb dX6_leave_87 rfl ?_
        refine s_iadd hx hb dX6_leave_88 ?_
        obtain ⟨v10, g10, hrun⟩ := bd hrun
        refine s_iald hx hb hE.1 hM (inr_wr _) g10 dX6_leave_89 ?_
        have i_v10 : inr v10 := ald_i hM g10 (by decide) (by decide)
        obtain ⟨h11, g11, hrun⟩ := bd hrun
        refine s_iast hx hb hE.1 hM hS (inr_wr _) i_v10 g11 dX6_leave_90 (fun H locs hM hS => ?_)
        refine t_iinc (lv' := [(6, vi (wr (x6 + 1))), (0, vr x0), (4, vi x4)]) hx hb dX6_leave_91 hl (k := 2) rfl (by decide) rfl rfl (fun ls hl => ?_)
        refine lv_goto (tgt := 49) hx hb dX6_leave_94 (by decide) ?_
        exact ih49 h11 x0 x4 (wr (x6 + 1)) H locs ls i_x4 (inr_wr _) hM hS (lsub hl [1, 2, 0] rfl) hrun
  have lp10 : ∀ (n10 : Nat) (h : Hp) (x0 x3 x4 x5 : Int) (H : Heap) (locs : List Loc) (ls : Array Slot), inr x3 → inr x4 → inr x5 → SM D G base h H → va_S (Ab base) s.heap H locs → lvh ls 7 [(0, vr x0), (3, vi x3), (4, vi x4), (5, vi x5)] → f_X6_leave_b10 n10 h x0 x3 x4 x5 = some (rv, h') → W p l e (headSpec w_X6_leave rm_X6_leave).room s m args below meth c H locs 0 0 (QV D G base rv h' below args s 0 0) (F0 m 10 ls []) := by
    intro n10
    induction n10 with
    | zero => intro h x0 x3 x4 x5 H locs ls i_x3 i_x4 i_x5 hM hS hl hrun; exact absurd hrun (fun q => nomatch (show (none : Option (Int × Hp)) = some (rv, h') from q))
    | succ n10 ih10 =>
      intro h x0 x3 x4 x5 H locs ls i_x3 i_x4 i_x5 hM hS hl hrun
      replace hrun : f_X6_leave_s10 (f_X6_leave_b10 n10) h x0 x3 x4 x5 = some (rv, h') := hrun
      unfold f_X6_leave_s10 at hrun
      refine s_aload_n hx hb dX6_leave_10 rfl (la hl 0 rfl) ?_
      obtain ⟨v1, g1, hrun⟩ := bd hrun
      refine s_getfr hx hb hts kl_6 hown hE.1 hM (ci := 6) rfl (by decide) rfl (k := 22) (by decide) rfl (hts _ kw_690) g1 dX6_leave_11 ?_
      refine lv_sipush (v := Int32.ofInt 256) hx hb dX6_leave_14 (by decide) ?_
      refine lv_iload hx hb dX6_leave_17 (la hl 2 rfl) ?_
      refine s_imul hx hb dX6_leave_19 ?_
      refine lv_iload hx hb dX6_leave_20 (la hl 3 rfl) ?_
      refine s_iadd hx hb dX6_leave_22 ?_
      obtain ⟨v2, g2, hrun⟩ := bd hrun
      refine s_iald hx hb hE.1 hM (inr_wr _) g2 dX6_leave_23 ?_
      have i_v2 : inr v2 := ald_i hM g2 (by decide) (by decide)
      refine lv_iload_n hx hb dX6_leave_24 rfl (la hl 1 rfl) ?_
      refine s_icmp_eq (tgt := 34) hx hb dX6_leave_25 (by decide) i_v2 i_x3 (fun cd => ?_) (fun cd => ?_)
      · replace hrun := it_pos cd hrun
        refine s_aload_n hx hb dX6_leave_34 rfl (la hl 0 rfl) ?_
        obtain ⟨v3, g3, hrun⟩ := bd hrun
        refine s_getfr hx hb hts kl_6 hown hE.1 hM (ci := 6) rfl (by decide) rfl (k := 21) (by decide) rfl (hts _ kw_689) g3 dX6_leave_35 ?_
        refine lv_iload hx hb dX6_leave_38 (la hl 2 rfl) ?_
        refine lv_dup2_11 hx hb dX6_leave_40 rfl (vr_cat _) ?_
        obtain ⟨v4, g4, hrun⟩ := bd hrun
        refine s_iald hx hb hE.1 hM i_x4 g4 dX6_leave_41 ?_
        have i_v4 : inr v4 := ald_i hM g4 (by decide) (by decide)
        refine lv_iconst (v := Int32.ofInt 1) hx hb dX6_leave_42 rfl ?_
        refine s_isub hx hb dX6_leave_43 ?_
        obtain ⟨h5, g5, hrun⟩ := bd hrun
        refine s_iast hx hb hE.1 hM hS i_x4 (inr_wr _) g5 dX6_leave_44 (fun H locs hM hS => ?_)
        refine lv_iload hx hb dX6_leave_45 (la hl 3 rfl) ?_
        refine t_istore (lv' := [(6, vi x5), (0, vr x0), (3, vi x3), (4, vi x4), (5, vi x5)]) hx hb dX6_leave_47 hl (by decide) rfl (fun ls hl => ?_)
        exact lp49 fuel h5 x0 x4 x5 H locs ls i_x4 i_x5 hM hS (lsub hl [1, 3, 0] rfl) hrun
      · replace hrun := it_neg cd hrun
        refine t_iinc (lv' := [(5, vi (wr (x5 + 1))), (0, vr x0), (3, vi x3), (4, vi x4)]) hx hb dX6_leave_28 hl (k := 3) rfl (by decide) rfl rfl (fun ls hl => ?_)
        refine lv_goto (tgt := 10) hx hb dX6_leave_31 (by decide) ?_
        exact ih10 h x0 x3 x4 (wr (x5 + 1)) H locs ls i_x3 i_x4 (inr_wr _) hM hS (lsub hl [1, 2, 3, 0] rfl) hrun
  refine s_entry hargs hM (c_r (c_i (c_i (c_i c_0)))) (Nat.le_of_ble_eq_true rfl) (fun H locs ls hM hS hl => ?_)
  replace hl : lvh ls 7 [(0, vr x0), (1, vi x1), (2, vi x2), (3, vi x3)] := hl
  unfold f_X6_leave at hrun
  refine lv_iconst (v := Int32.ofInt 3) hx hb dX6_leave_0 rfl ?_
  refine lv_iload_n hx hb dX6_leave_1 rfl (la hl 1 rfl) ?_
  refine s_imul hx hb dX6_leave_2 ?_
  refine lv_iload_n hx hb dX6_leave_3 rfl (la hl 2 rfl) ?_
  refine s_iadd hx hb dX6_leave_4 ?_
  refine t_istore (lv' := [(4, vi (wr ((wr (3 * x1)) + x2))), (0, vr x0), (1, vi x1), (2, vi x2), (3, vi x3)]) hx hb dX6_leave_5 hl (by decide) rfl (fun ls hl => ?_)
  refine lv_iconst (v := Int32.ofInt 0) hx hb dX6_leave_7 rfl ?_
  refine t_istore (lv' := [(5, vi 0), (4, vi (wr ((wr (3 * x1)) + x2))), (0, vr x0), (1, vi x1), (2, vi x2), (3, vi x3)]) hx hb dX6_leave_8 hl (by decide) rfl (fun ls hl => ?_)
  exact lp10 fuel h x0 x3 (wr ((wr (3 * x1)) + x2)) 0 H locs ls i_x3 (inr_wr _) (by decide) hM hS (lsub hl [2, 5, 1, 0] rfl) hrun
def f_X6_whichOf_j38 (h : Hp) (s0 : Int) : Option (Int × Hp) :=
  some (s0, h)
def f_X6_whichOf (h : Hp) (x0 x1 : Int) : Option (Int × Hp) :=
  Option.bind (gtf h 6 16 x0) fun v1 =>
  Option.bind (ald h 8 v1 x1) fun v2 =>
  if v2 ≠ 0 then (
    Option.bind (gtf h 6 16 x0) fun v3 =>
    Option.bind (ald h 8 v3 x1) fun v4 =>
    Option.bind (gtf h 6 10 x0) fun v5 =>
    Option.bind (gtf h 6 14 x0) fun v6 =>
    Option.bind (ald h 8 v6 x1) fun v7 =>
    Option.bind (ald h 8 v5 v7) fun v8 =>
    if v4 ≠ v8 then (
      f_X6_whichOf_j38 h 1
    ) else (
      f_X6_whichOf_j38 h 0
    )
  ) else (
    f_X6_whichOf_j38 h 2
  )
abbrev w_X6_whichOf : List Cond := Cond.code yX6_whichOf cX6_whichOf 2 (some .int) :: BW
abbrev rm_X6_whichOf : Room := { frames := 0, cells := 0, slots := 0, locals := 0 }
set_option maxHeartbeats 4000000 in
set_option maxRecDepth 100000 in
theorem c_X6_whichOf (l : Launch) (D : va_G) (G : Nat → ClassId) (base : Nat) (h h' : Hp) (x0 x1 : Int) (rv : Int) (i_x1 : inr x1) (hrun : f_X6_whichOf h x0 x1 = some (rv, h')) : Met l yX6_whichOf w_X6_whichOf rm_X6_whichOf (PC l D G base h [vr x0, vi x1]) (QR D G base (some (vi rv)) (inr rv) h') rm_X6_whichOf.cells rm_X6_whichOf.slots (Ab base) := by
  refine Met.ofW (cc := cX6_whichOf) (maxL := 2) (ret := (some .int)) (by decide) rfl ?_
  intro p e s m args below meth c s₁ B hml hv
  obtain ⟨hargs, hE, hM⟩ := hv
  have hx := B.exec
  have hb := B.bytes
  have hr := B.returns
  have hts0 := atoms_spec (ws := w_X6_whichOf) B.pre
  have hts : ∀ w ∈ BW, w.before args s = true := fun w hw => hts0 w (List.mem_cons_of_mem _ hw)
  have hown : s.vm.findClass RX6 = some m.cls := findClass_of_methodNamed B.named
  have hlocks := B.notSynchronized
  have j38 : ∀ (h : Hp) (s0 : Int) (H : Heap) (locs : List Loc) (ls : Array Slot), inr s0 → SM D G base h H → va_S (Ab base) s.heap H locs → lvh ls 2 [] → f_X6_whichOf_j38 h s0 = some (rv, h') → W p l e (headSpec w_X6_whichOf rm_X6_whichOf).room s m args below meth c H locs 0 0 (QI D G base rv h' below args s 0 0) (F0 m 38 ls [vi s0]) := by
    intro h s0 H locs ls i_s0 hM hS hl hrun
    unfold f_X6_whichOf_j38 at hrun
    exact s_iret hx hb hr hlocks hM hS i_s0 hrun (Nat.le_of_ble_eq_true rfl) (Nat.le_of_ble_eq_true rfl) dX6_whichOf_38
  refine s_entry hargs hM (c_r (c_i c_0)) (Nat.le_of_ble_eq_true rfl) (fun H locs ls hM hS hl => ?_)
  replace hl : lvh ls 2 [(0, vr x0), (1, vi x1)] := hl
  unfold f_X6_whichOf at hrun
  refine s_aload_n hx hb dX6_whichOf_0 rfl (la hl 0 rfl) ?_
  obtain ⟨v1, g1, hrun⟩ := bd hrun
  refine s_getfr hx hb hts kl_6 hown hE.1 hM (ci := 6) rfl (by decide) rfl (k := 16) (by decide) rfl (hts _ kw_684) g1 dX6_whichOf_1 ?_
  refine lv_iload_n hx hb dX6_whichOf_4 rfl (la hl 1 rfl) ?_
  obtain ⟨v2, g2, hrun⟩ := bd hrun
  refine s_iald hx hb hE.1 hM i_x1 g2 dX6_whichOf_5 ?_
  have i_v2 : inr v2 := ald_i hM g2 (by decide) (by decide)
  refine s_if_ne (tgt := 13) hx hb dX6_whichOf_6 (by decide) i_v2 (fun cd => ?_) (fun cd => ?_)
  · replace hrun := it_pos cd hrun
    refine s_aload_n hx hb dX6_whichOf_13 rfl (la hl 0 rfl) ?_
    obtain ⟨v3, g3, hrun⟩ := bd hrun
    refine s_getfr hx hb hts kl_6 hown hE.1 hM (ci := 6) rfl (by decide) rfl (k := 16) (by decide) rfl (hts _ kw_684) g3 dX6_whichOf_14 ?_
    refine lv_iload_n hx hb dX6_whichOf_17 rfl (la hl 1 rfl) ?_
    obtain ⟨v4, g4, hrun⟩ := bd hrun
    refine s_iald hx hb hE.1 hM i_x1 g4 dX6_whichOf_18 ?_
    have i_v4 : inr v4 := ald_i hM g4 (by decide) (by decide)
    refine s_aload_n hx hb dX6_whichOf_19 rfl (la hl 0 rfl) ?_
    obtain ⟨v5, g5, hrun⟩ := bd hrun
    refine s_getfr hx hb hts kl_6 hown hE.1 hM (ci := 6) rfl (by decide) rfl (k := 10) (by decide) rfl (hts _ kw_678) g5 dX6_whichOf_20 ?_
    refine s_aload_n hx hb dX6_whichOf_23 rfl (la hl 0 rfl) ?_
    obtain ⟨v6, g6, hrun⟩ := bd hrun
    refine s_getfr hx hb hts kl_6 hown hE.1 hM (ci := 6) rfl (by decide) rfl (k := 14) (by decide) rfl (hts _ kw_682) g6 dX6_whichOf_24 ?_
    refine lv_iload_n hx hb dX6_whichOf_27 rfl (la hl 1 rfl) ?_
    obtain ⟨v7, g7, hrun⟩ := bd hrun
    refine s_iald hx hb hE.1 hM i_x1 g7 dX6_whichOf_28 ?_
    have i_v7 : inr v7 := ald_i hM g7 (by decide) (by decide)
    obtain ⟨v8, g8, hrun⟩ := bd hrun
    refine s_iald hx hb hE.1 hM i_v7 g8 dX6_whichOf_29 ?_
    have i_v8 : inr v8 := ald_i hM g8 (by decide) (by decide)
    refine s_icmp_ne (tgt := 37) hx hb dX6_whichOf_30 (by decide) i_v4 i_v8 (fun cd => ?_) (fun cd => ?_)
    · replace hrun := it_pos cd hrun
      refine lv_iconst (v := Int32.ofInt 1) hx hb dX6_whichOf_37 rfl ?_
      exact j38 h 1 H locs ls (by decide) hM hS (lsub hl [] rfl) hrun
    · replace hrun := it_neg cd hrun
      refine lv_iconst (v := Int32.ofInt 0) hx hb dX6_whichOf_33 rfl ?_
      refine lv_goto (tgt := 38) hx hb dX6_whichOf_34 (by decide) ?_
      exact j38 h 0 H locs ls (by decide) hM hS (lsub hl [] rfl) hrun
  · replace hrun := it_neg cd hrun
    refine lv_iconst (v := Int32.ofInt 2) hx hb dX6_whichOf_9 rfl ?_
    refine lv_goto (tgt := 38) hx hb dX6_whichOf_10 (by decide) ?_
    exact j38 h 2 H locs ls (by decide) hM hS (lsub hl [] rfl) hrun
def f_X6_change_j58 (h : Hp) : Option (Int × Hp) :=
  some (0, h)
def f_X6_change (h : Hp) (x0 x1 x2 : Int) : Option (Int × Hp) :=
  Option.bind (ckd h 6 x0) fun u2 =>
  Option.bind (f_X6_whichOf h x0 x1) fun r1 =>
  Option.bind (gtf r1.2 6 16 x0) fun v3 =>
  Option.bind (gtf r1.2 6 16 x0) fun v4 =>
  Option.bind (ald r1.2 8 v4 x1) fun v5 =>
  Option.bind (ast r1.2 8 v3 x1 (wr (v5 + x2))) fun h6 =>
  Option.bind (ckd h6 6 x0) fun u8 =>
  Option.bind (f_X6_whichOf h6 x0 x1) fun r7 =>
  if r7.1 = r1.1 then (
    f_X6_change_j58 r7.2
  ) else (
    Option.bind (gtf r7.2 6 14 x0) fun v9 =>
    Option.bind (ald r7.2 8 v9 x1) fun v10 =>
    Option.bind (ckd r7.2 6 x0) fun u12 =>
    Option.bind (f_X6_leave r7.2 x0 v10 r1.1 x1) fun r11 =>
    Option.bind (gtf r11.2 6 14 x0) fun v13 =>
    Option.bind (ald r11.2 8 v13 x1) fun v14 =>
    Option.bind (ckd r11.2 6 x0) fun u16 =>
    Option.bind (f_X6_enter r11.2 x0 v14 r7.1 x1) fun r15 =>
    f_X6_change_j58 r15.2
  )
abbrev w_X6_change : List Cond := Cond.code yX6_change cX6_change 5 none :: BW
abbrev rm_X6_change : Room := { frames := 1, cells := 0, slots := 0, locals := 26 }
set_option maxHeartbeats 4000000 in
set_option maxRecDepth 100000 in
theorem c_X6_change (l : Launch) (D : va_G) (G : Nat → ClassId) (base : Nat) (h h' : Hp) (x0 x1 x2 : Int) (rv : Int) (i_x1 : inr x1) (i_x2 : inr x2) (hrun : f_X6_change h x0 x1 x2 = some (rv, h')) : Met l yX6_change w_X6_change rm_X6_change (PC l D G base h [vr x0, vi x1, vi x2]) (QR D G base none True h') rm_X6_change.cells rm_X6_change.slots (Ab base) := by
  refine Met.ofW (cc := cX6_change) (maxL := 5) (ret := none) (by decide) rfl ?_
  intro p e s m args below meth c s₁ B hml hv
  obtain ⟨hargs, hE, hM⟩ := hv
  have hx := B.exec
  have hb := B.bytes
  have hr := B.returns
  have hts0 := atoms_spec (ws := w_X6_change) B.pre
  have hts : ∀ w ∈ BW, w.before args s = true := fun w hw => hts0 w (List.mem_cons_of_mem _ hw)
  have hown : s.vm.findClass RX6 = some m.cls := findClass_of_methodNamed B.named
  have hlocks := B.notSynchronized
  have j58 : ∀ (h : Hp) (H : Heap) (locs : List Loc) (ls : Array Slot), SM D G base h H → va_S (Ab base) s.heap H locs → lvh ls 5 [] → f_X6_change_j58 h = some (rv, h') → W p l e (headSpec w_X6_change rm_X6_change).room s m args below meth c H locs 0 0 (QV D G base rv h' below args s 0 0) (F0 m 58 ls []) := by
    intro h H locs ls hM hS hl hrun
    unfold f_X6_change_j58 at hrun
    exact s_vret hx hb hr hlocks hM hS hrun (Nat.le_of_ble_eq_true rfl) (Nat.le_of_ble_eq_true rfl) dX6_change_58
  refine s_entry hargs hM (c_r (c_i (c_i c_0))) (Nat.le_of_ble_eq_true rfl) (fun H locs ls hM hS hl => ?_)
  replace hl : lvh ls 5 [(0, vr x0), (1, vi x1), (2, vi x2)] := hl
  unfold f_X6_change at hrun
  refine s_aload_n hx hb dX6_change_0 rfl (la hl 0 rfl) ?_
  refine lv_iload_n hx hb dX6_change_1 rfl (la hl 1 rfl) ?_
  obtain ⟨u2, g2, hrun⟩ := bd hrun
  obtain ⟨r1, g1, hrun⟩ := bd hrun
  refine s_callV (n := 1) (rest := []) [vi x1] hx hb hml hown hts hE hM hS (c_X6_whichOf l D G base h r1.2 x0 x1 r1.1 i_x1 g1) kw_793 kw_790 kw_40 kw_792 kw_21 (by decide +kernel) ⟨Nat.le_of_ble_eq_true rfl, Nat.le_of_ble_eq_true rfl⟩ rfl rfl (by decide) g2 rfl hl.1.1 rfl (c8 c_0 (Nat.le_of_ble_eq_true rfl)) dX6_change_2 ⟨Nat.le_of_ble_eq_true rfl, Nat.le_of_ble_eq_true rfl⟩ (fun H locs i_r1 hM hS => ?_)
  refine W.eq (g2 := F0 m 5 ls [vi r1.1]) rfl ?_
  refine t_istore_n (lv' := [(3, vi r1.1), (0, vr x0), (1, vi x1), (2, vi x2)]) hx hb dX6_change_5 rfl hl (by decide) rfl (fun ls hl => ?_)
  refine s_aload_n hx hb dX6_change_6 rfl (la hl 1 rfl) ?_
  obtain ⟨v3, g3, hrun⟩ := bd hrun
  refine s_getfr hx hb hts kl_6 hown hE.1 hM (ci := 6) rfl (by decide) rfl (k := 16) (by decide) rfl (hts _ kw_684) g3 dX6_change_7 ?_
  refine lv_iload_n hx hb dX6_change_10 rfl (la hl 2 rfl) ?_
  refine s_aload_n hx hb dX6_change_11 rfl (la hl 1 rfl) ?_
  obtain ⟨v4, g4, hrun⟩ := bd hrun
  refine s_getfr hx hb hts kl_6 hown hE.1 hM (ci := 6) rfl (by decide) rfl (k := 16) (by decide) rfl (hts _ kw_684) g4 dX6_change_12 ?_
  refine lv_iload_n hx hb dX6_change_15 rfl (la hl 2 rfl) ?_
  obtain ⟨v5, g5, hrun⟩ := bd hrun
  refine s_iald hx hb hE.1 hM i_x1 g5 dX6_change_16 ?_
  have i_v5 : inr v5 := ald_i hM g5 (by decide) (by decide)
  refine lv_iload_n hx hb dX6_change_17 rfl (la hl 3 rfl) ?_
  refine s_iadd hx hb dX6_change_18 ?_
  obtain ⟨h6, g6, hrun⟩ := bd hrun
  refine s_iast hx hb hE.1 hM hS i_x1 (inr_wr _) g6 dX6_change_19 (fun H locs hM hS => ?_)
  refine s_aload_n hx hb dX6_change_20 rfl (la hl 1 rfl) ?_
  refine lv_iload_n hx hb dX6_change_21 rfl (la hl 2 rfl) ?_
  obtain ⟨u8, g8, hrun⟩ := bd hrun
  obtain ⟨r7, g7, hrun⟩ := bd hrun
  refine s_callV (n := 1) (rest := []) [vi x1] hx hb hml hown hts hE hM hS (c_X6_whichOf l D G base h6 r7.2 x0 x1 r7.1 i_x1 g7) kw_793 kw_790 kw_40 kw_792 kw_21 (by decide +kernel) ⟨Nat.le_of_ble_eq_true rfl, Nat.le_of_ble_eq_true rfl⟩ rfl rfl (by decide) g8 rfl hl.1.1 rfl (c8 c_0 (Nat.le_of_ble_eq_true rfl)) dX6_change_22 ⟨Nat.le_of_ble_eq_true rfl, Nat.le_of_ble_eq_true rfl⟩ (fun H locs i_r7 hM hS => ?_)
  refine W.eq (g2 := F0 m 25 ls [vi r7.1]) rfl ?_
  refine t_istore (lv' := [(4, vi r7.1), (3, vi r1.1), (0, vr x0), (1, vi x1), (2, vi x2)]) hx hb dX6_change_25 hl (by decide) rfl (fun ls hl => ?_)
  refine lv_iload hx hb dX6_change_27 (la hl 0 rfl) ?_
  refine lv_iload_n hx hb dX6_change_29 rfl (la hl 1 rfl) ?_
  refine s_icmp_eq (tgt := 58) hx hb dX6_change_30 (by decide) i_r7 i_r1 (fun cd => ?_) (fun cd => ?_)
  · replace hrun := it_pos cd hrun
    exact j58 r7.2 H locs ls hM hS (lsub hl [] rfl) hrun
  · replace hrun := it_neg cd hrun
    refine s_aload_n hx hb dX6_change_33 rfl (la hl 2 rfl) ?_
    refine s_aload_n hx hb dX6_change_34 rfl (la hl 2 rfl) ?_
    obtain ⟨v9, g9, hrun⟩ := bd hrun
    refine s_getfr hx hb hts kl_6 hown hE.1 hM (ci := 6) rfl (by decide) rfl (k := 14) (by decide) rfl (hts _ kw_682) g9 dX6_change_35 ?_
    refine lv_iload_n hx hb dX6_change_38 rfl (la hl 3 rfl) ?_
    obtain ⟨v10, g10, hrun⟩ := bd hrun
    refine s_iald hx hb hE.1 hM i_x1 g10 dX6_change_39 ?_
    have i_v10 : inr v10 := ald_i hM g10 (by decide) (by decide)
    refine lv_iload_n hx hb dX6_change_40 rfl (la hl 1 rfl) ?_
    refine lv_iload_n hx hb dX6_change_41 rfl (la hl 3 rfl) ?_
    obtain ⟨u12, g12, hrun⟩ := bd hrun
    obtain ⟨r11, g11, hrun⟩ := bd hrun
    refine s_callV (n := 3) (rest := []) [vi v10, vi r1.1, vi x1] hx hb hml hown hts hE hM hS (c_X6_leave l D G base r7.2 r11.2 x0 v10 r1.1 x1 r11.1 i_v10 i_r1 i_x1 g11) kw_797 kw_794 kw_40 kw_796 kw_22 (by decide +kernel) ⟨Nat.le_of_ble_eq_true rfl, Nat.le_of_ble_eq_true rfl⟩ rfl rfl (by decide) g12 rfl hl.1.1 rfl (c8 c_0 (Nat.le_of_ble_eq_true rfl)) dX6_change_42 ⟨Nat.le_of_ble_eq_true rfl, Nat.le_of_ble_eq_true rfl⟩ (fun H locs i_r11 hM hS => ?_)
    refine W.eq (g2 := F0 m 45 ls []) rfl ?_
    refine s_aload_n hx hb dX6_change_45 rfl (la hl 2 rfl) ?_
    refine s_aload_n hx hb dX6_change_46 rfl (la hl 2 rfl) ?_
    obtain ⟨v13, g13, hrun⟩ := bd hrun
    refine s_getfr hx hb hts kl_6 hown hE.1 hM (ci := 6) rfl (by decide) rfl (k := 14) (by decide) rfl (hts _ kw_682) g13 dX6_change_47 ?_
    refine lv_iload_n hx hb dX6_change_50 rfl (la hl 3 rfl) ?_
    obtain ⟨v14, g14, hrun⟩ := bd hrun
    refine s_iald hx hb hE.1 hM i_x1 g14 dX6_change_51 ?_
    have i_v14 : inr v14 := ald_i hM g14 (by decide) (by decide)
    refine lv_iload hx hb dX6_change_52 (la hl 0 rfl) ?_
    refine lv_iload_n hx hb dX6_change_54 rfl (la hl 3 rfl) ?_
    obtain ⟨u16, g16, hrun⟩ := bd hrun
    obtain ⟨r15, g15, hrun⟩ := bd hrun
    refine s_callV (n := 3) (rest := []) [vi v14, vi r7.1, vi x1] hx hb hml hown hts hE hM hS (c_X6_enter l D G base r11.2 r15.2 x0 v14 r7.1 x1 r15.1 i_v14 i_r7 i_x1 g15) kw_801 kw_798 kw_40 kw_800 kw_23 (by decide +kernel) ⟨Nat.le_of_ble_eq_true rfl, Nat.le_of_ble_eq_true rfl⟩ rfl rfl (by decide) g16 rfl hl.1.1 rfl (c8 c_0 (Nat.le_of_ble_eq_true rfl)) dX6_change_55 ⟨Nat.le_of_ble_eq_true rfl, Nat.le_of_ble_eq_true rfl⟩ (fun H locs i_r15 hM hS => ?_)
    refine W.eq (g2 := F0 m 58 ls []) rfl ?_
    exact j58 r15.2 H locs ls hM hS (lsub hl [] rfl) hrun
def f_X6_unitOf (h : Hp) (x0 x1 x2 : Int) : Option (Int × Hp) :=
  Option.bind (gtf h 6 14 x0) fun v1 =>
  Option.bind (ald h 8 v1 x1) fun v2 =>
  Option.bind (gtf h 6 15 x0) fun v3 =>
  Option.bind (ald h 8 v3 x1) fun v4 =>
  Option.bind (gtf h 6 6 x0) fun v5 =>
  Option.bind (ald h 8 v5 v2) fun v6 =>
  Option.bind (gtf h 6 9 x0) fun v7 =>
  Option.bind (ald h 8 v7 v2) fun v8 =>
  Option.bind (idv (wr ((wr ((wr (1024 * x1)) + (wr (v4 * v6)))) + (wr (x2 * v8)))) 8) fun v9 =>
  some (v9, h)
abbrev w_X6_unitOf : List Cond := Cond.code yX6_unitOf cX6_unitOf 4 (some .int) :: BW
abbrev rm_X6_unitOf : Room := { frames := 0, cells := 0, slots := 0, locals := 0 }
set_option maxHeartbeats 4000000 in
set_option maxRecDepth 100000 in
theorem c_X6_unitOf (l : Launch) (D : va_G) (G : Nat → ClassId) (base : Nat) (h h' : Hp) (x0 x1 x2 : Int) (rv : Int) (i_x1 : inr x1) (i_x2 : inr x2) (hrun : f_X6_unitOf h x0 x1 x2 = some (rv, h')) : Met l yX6_unitOf w_X6_unitOf rm_X6_unitOf (PC l D G base h [vr x0, vi x1, vi x2]) (QR D G base (some (vi rv)) (inr rv) h') rm_X6_unitOf.cells rm_X6_unitOf.slots (Ab base) := by
  refine Met.ofW (cc := cX6_unitOf) (maxL := 4) (ret := (some .int)) (by decide) rfl ?_
  intro p e s m args below meth c s₁ B hml hv
  obtain ⟨hargs, hE, hM⟩ := hv
  have hx := B.exec
  have hb := B.bytes
  have hr := B.returns
  have hts0 := atoms_spec (ws := w_X6_unitOf) B.pre
  have hts : ∀ w ∈ BW, w.before args s = true := fun w hw => hts0 w (List.mem_cons_of_mem _ hw)
  have hown : s.vm.findClass RX6 = some m.cls := findClass_of_methodNamed B.named
  have hlocks := B.notSynchronized
  refine s_entry hargs hM (c_r (c_i (c_i c_0))) (Nat.le_of_ble_eq_true rfl) (fun H locs ls hM hS hl => ?_)
  replace hl : lvh ls 4 [(0, vr x0), (1, vi x1), (2, vi x2)] := hl
  unfold f_X6_unitOf at hrun
  refine s_aload_n hx hb dX6_unitOf_0 rfl (la hl 0 rfl) ?_
  obtain ⟨v1, g1, hrun⟩ := bd hrun
  refine s_getfr hx hb hts kl_6 hown hE.1 hM (ci := 6) rfl (by decide) rfl (k := 14) (by decide) rfl (hts _ kw_682) g1 dX6_unitOf_1 ?_
  refine lv_iload_n hx hb dX6_unitOf_4 rfl (la hl 1 rfl) ?_
  obtain ⟨v2, g2, hrun⟩ := bd hrun
  refine s_iald hx hb hE.1 hM i_x1 g2 dX6_unitOf_5 ?_
  have i_v2 : inr v2 := ald_i hM g2 (by decide) (by decide)
  refine t_istore_n (lv' := [(3, vi v2), (0, vr x0), (1, vi x1), (2, vi x2)]) hx hb dX6_unitOf_6 rfl hl (by decide) rfl (fun ls hl => ?_)
  refine lv_sipush (v := Int32.ofInt 1024) hx hb dX6_unitOf_7 (by decide) ?_
  refine lv_iload_n hx hb dX6_unitOf_10 rfl (la hl 2 rfl) ?_
  refine s_imul hx hb dX6_unitOf_11 ?_
  refine s_aload_n hx hb dX6_unitOf_12 rfl (la hl 1 rfl) ?_
  obtain ⟨v3, g3, hrun⟩ := bd hrun
  refine s_getfr hx hb hts kl_6 hown hE.1 hM (ci := 6) rfl (by decide) rfl (k := 15) (by decide) rfl (hts _ kw_683) g3 dX6_unitOf_13 ?_
  refine lv_iload_n hx hb dX6_unitOf_16 rfl (la hl 2 rfl) ?_
  obtain ⟨v4, g4, hrun⟩ := bd hrun
  refine s_iald hx hb hE.1 hM i_x1 g4 dX6_unitOf_17 ?_
  have i_v4 : inr v4 := ald_i hM g4 (by decide) (by decide)
  refine s_aload_n hx hb dX6_unitOf_18 rfl (la hl 1 rfl) ?_
  obtain ⟨v5, g5, hrun⟩ := bd hrun
  refine s_getfr hx hb hts kl_6 hown hE.1 hM (ci := 6) rfl (by decide) rfl (k := 6) (by decide) rfl (hts _ kw_674) g5 dX6_unitOf_19 ?_
  refine lv_iload_n hx hb dX6_unitOf_22 rfl (la hl 0 rfl) ?_
  obtain ⟨v6, g6, hrun⟩ := bd hrun
  refine s_iald hx hb hE.1 hM i_v2 g6 dX6_unitOf_23 ?_
  have i_v6 : inr v6 := ald_i hM g6 (by decide) (by decide)
  refine s_imul hx hb dX6_unitOf_24 ?_
  refine s_iadd hx hb dX6_unitOf_25 ?_
  refine lv_iload_n hx hb dX6_unitOf_26 rfl (la hl 3 rfl) ?_
  refine s_aload_n hx hb dX6_unitOf_27 rfl (la hl 1 rfl) ?_
  obtain ⟨v7, g7, hrun⟩ := bd hrun
  refine s_getfr hx hb hts kl_6 hown hE.1 hM (ci := 6) rfl (by decide) rfl (k := 9) (by decide) rfl (hts _ kw_677) g7 dX6_unitOf_28 ?_
  refine lv_iload_n hx hb dX6_unitOf_31 rfl (la hl 0 rfl) ?_
  obtain ⟨v8, g8, hrun⟩ := bd hrun
  refine s_iald hx hb hE.1 hM i_v2 g8 dX6_unitOf_32 ?_
  have i_v8 : inr v8 := ald_i hM g8 (by decide) (by decide)
  refine s_imul hx hb dX6_unitOf_33 ?_
  refine s_iadd hx hb dX6_unitOf_34 ?_
  refine lv_bipush (v := Int32.ofInt 8) hx hb dX6_unitOf_35 (by decide) ?_
  obtain ⟨v9, g9, hrun⟩ := bd hrun
  refine s_idiv hx hb (inr_wr _) (by decide) g9 dX6_unitOf_37 ?_
  have i_v9 : inr v9 := inr_dv g9
  exact s_iret hx hb hr hlocks hM hS i_v9 hrun (Nat.le_of_ble_eq_true rfl) (Nat.le_of_ble_eq_true rfl) dX6_unitOf_38
