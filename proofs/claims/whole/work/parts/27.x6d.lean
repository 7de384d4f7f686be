def f_X6_slabAt_j24 (h : Hp) (s0 : Int) : Option (Int × Hp) :=
  some (s0, h)
def f_X6_slabAt (h : Hp) (x0 x1 : Int) : Option (Int × Hp) :=
  Option.bind (f_X6_isIn h x1 0 262143) fun r1 =>
  if r1.1 = 0 then (
    f_X6_slabAt_j24 r1.2 (-1)
  ) else (
    Option.bind (gtf r1.2 6 2 x0) fun v2 =>
    Option.bind (idv x1 1024) fun v3 =>
    Option.bind (ald r1.2 8 v2 v3) fun v4 =>
    f_X6_slabAt_j24 r1.2 v4
  )
abbrev w_X6_slabAt : List Cond := Cond.code yX6_slabAt cX6_slabAt 2 (some .int) :: BW
abbrev rm_X6_slabAt : Room := { frames := 1, cells := 0, slots := 0, locals := 22 }
set_option maxHeartbeats 4000000 in
set_option maxRecDepth 100000 in
theorem c_X6_slabAt (l : Launch) (D : va_G) (G : Nat → ClassId) (base : Nat) (h h' : Hp) (x0 x1 : Int) (rv : Int) (i_x1 : inr x1) (hrun : f_X6_slabAt h x0 x1 = some (rv, h')) : Met l yX6_slabAt w_X6_slabAt rm_X6_slabAt (PC l D G base h [vr x0, vi x1]) (QR D G base (some (vi rv)) (inr rv) h') rm_X6_slabAt.cells rm_X6_slabAt.slots (Ab base) := by
  refine Met.ofW (cc := cX6_slabAt) (maxL := 2) (ret := (some .int)) (by decide) rfl ?_
  intro p e s m args below meth c s₁ B hml hv
  obtain ⟨hargs, hE, hM⟩ := hv
  have hx := B.exec
  have hb := B.bytes
  have hr := B.returns
  have hts0 := atoms_spec (ws := w_X6_slabAt) B.pre
  have hts : ∀ w ∈ BW, w.before args s = true := fun w hw => hts0 w (List.mem_cons_of_mem _ hw)
  have hown : s.vm.findClass RX6 = some m.cls := findClass_of_methodNamed B.named
  have hlocks := B.notSynchronized
  have j24 : ∀ (h : Hp) (s0 : Int) (H : Heap) (locs : List Loc) (ls : Array Slot), inr s0 → SM D G base h H → va_S (Ab base) s.heap H locs → lvh ls 2 [] → f_X6_slabAt_j24 h s0 = some (rv, h') → W p l e (headSpec w_X6_slabAt rm_X6_slabAt).room s m args below meth c H locs 0 0 (QI D G base rv h' below args s 0 0) (F0 m 24 ls [vi s0]) := by
    intro h s0 H locs ls i_s0 hM hS hl hrun
    unfold f_X6_slabAt_j24 at hrun
    exact s_iret hx hb hr hlocks hM hS i_s0 hrun (Nat.le_of_ble_eq_true rfl) (Nat.le_of_ble_eq_true rfl) dX6_slabAt_24
  refine s_entry hargs hM (c_r (c_i c_0)) (Nat.le_of_ble_eq_true rfl) (fun H locs ls hM hS hl => ?_)
  replace hl : lvh ls 2 [(0, vr x0), (1, vi x1)] := hl
  unfold f_X6_slabAt at hrun
  refine lv_iload_n hx hb dX6_slabAt_0 rfl (la hl 1 rfl) ?_
  refine lv_iconst (v := Int32.ofInt 0) hx hb dX6_slabAt_1 rfl ?_
  refine s_ldc (n := 262143) hx hb hown (hts _ kw_850) (by decide) dX6_slabAt_2 ?_
  obtain ⟨r1, g1, hrun⟩ := bd hrun
  refine s_callS (n := 3) (rest := []) [vi x1, vi 0, vi 262143] hx hb hml hown hts hE hM hS (c_X6_isIn l D G base h r1.2 x1 0 262143 r1.1 i_x1 (by decide) (by decide) g1) kw_761 kw_759 kw_40 kw_760 (by decide +kernel) ⟨Nat.le_of_ble_eq_true rfl, Nat.le_of_ble_eq_true rfl⟩ rfl hl.1.1 rfl (c8 c_0 (Nat.le_of_ble_eq_true rfl)) dX6_slabAt_4 ⟨Nat.le_of_ble_eq_true rfl, Nat.le_of_ble_eq_true rfl⟩ (fun H locs i_r1 hM hS => ?_)
  refine W.eq (g2 := F0 m 7 ls [vi r1.1]) rfl ?_
  refine s_if_eq (tgt := 23) hx hb dX6_slabAt_7 (by decide) i_r1 (fun cd => ?_) (fun cd => ?_)
  · replace hrun := it_pos cd hrun
    refine lv_iconst (v := Int32.ofInt (-1)) hx hb dX6_slabAt_23 rfl ?_
    exact j24 r1.2 (-1) H locs ls (by decide) hM hS (lsub hl [] rfl) hrun
  · replace hrun := it_neg cd hrun
    refine s_aload_n hx hb dX6_slabAt_10 rfl (la hl 0 rfl) ?_
    obtain ⟨v2, g2, hrun⟩ := bd hrun
    refine s_getfr hx hb hts kl_6 hown hE.1 hM (ci := 6) rfl (by decide) rfl (k := 2) (by decide) rfl (hts _ kw_670) g2 dX6_slabAt_11 ?_
    refine lv_iload_n hx hb dX6_slabAt_14 rfl (la hl 1 rfl) ?_
    refine lv_sipush (v := Int32.ofInt 1024) hx hb dX6_slabAt_15 (by decide) ?_
    obtain ⟨v3, g3, hrun⟩ := bd hrun
    refine s_idiv hx hb i_x1 (by decide) g3 dX6_slabAt_18 ?_
    have i_v3 : inr v3 := inr_dv g3
    obtain ⟨v4, g4, hrun⟩ := bd hrun
    refine s_iald hx hb hE.1 hM i_v3 g4 dX6_slabAt_19 ?_
    have i_v4 : inr v4 := ald_i hM g4 (by decide) (by decide)
    refine lv_goto (tgt := 24) hx hb dX6_slabAt_20 (by decide) ?_
    exact j24 r1.2 v4 H locs ls i_v4 hM hS (lsub hl [] rfl) hrun
def f_X6_cacheOf_j25 (h : Hp) (s0 : Int) : Option (Int × Hp) :=
  some (s0, h)
def f_X6_cacheOf (h : Hp) (x0 x1 : Int) : Option (Int × Hp) :=
  Option.bind (ptf h 6 0 x0 0) fun h1 =>
  Option.bind (ckd h1 6 x0) fun u3 =>
  Option.bind (f_X6_slabAt h1 x0 x1) fun r2 =>
  if 0 ≤ r2.1 then (
    Option.bind (gtf r2.2 6 14 x0) fun v4 =>
    Option.bind (ald r2.2 8 v4 r2.1) fun v5 =>
    f_X6_cacheOf_j25 r2.2 v5
  ) else (
    f_X6_cacheOf_j25 r2.2 (-1)
  )
abbrev w_X6_cacheOf : List Cond := Cond.code yX6_cacheOf cX6_cacheOf 3 (some .int) :: BW
abbrev rm_X6_cacheOf : Room := { frames := 2, cells := 0, slots := 0, locals := 43 }
set_option maxHeartbeats 4000000 in
set_option maxRecDepth 100000 in
theorem c_X6_cacheOf (l : Launch) (D : va_G) (G : Nat → ClassId) (base : Nat) (h h' : Hp) (x0 x1 : Int) (rv : Int) (i_x1 : inr x1) (hrun : f_X6_cacheOf h x0 x1 = some (rv, h')) : Met l yX6_cacheOf w_X6_cacheOf rm_X6_cacheOf (PC l D G base h [vr x0, vi x1]) (QR D G base (some (vi rv)) (inr rv) h') rm_X6_cacheOf.cells rm_X6_cacheOf.slots (Ab base) := by
  refine Met.ofW (cc := cX6_cacheOf) (maxL := 3) (ret := (some .int)) (by decide) rfl ?_
  intro p e s m args below meth c s₁ B hml hv
  obtain ⟨hargs, hE, hM⟩ := hv
  have hx := B.exec
  have hb := B.bytes
  have hr := B.returns
  have hts0 := atoms_spec (ws := w_X6_cacheOf) B.pre
  have hts : ∀ w ∈ BW, w.before args s = true := fun w hw => hts0 w (List.mem_cons_of_mem _ hw)
  have hown : s.vm.findClass RX6 = some m.cls := findClass_of_methodNamed B.named
  have hlocks := B.notSynchronized
  have j25 : ∀ (h : Hp) (s0 : Int) (H : Heap) (locs : List Loc) (ls : Array Slot), inr s0 → SM D G base h H → va_S (Ab base) s.heap H locs → lvh ls 3 [] → f_X6_cacheOf_j25 h s0 = some (rv, h') → W p l e (headSpec w_X6_cacheOf rm_X6_cacheOf).room s m args below meth c H locs 0 0 (QI D G base rv h' below args s 0 0) (F0 m 25 ls [vi s0]) := by
    intro h s0 H locs ls i_s0 hM hS hl hrun
    unfold f_X6_cacheOf_j25 at hrun
    exact s_iret hx hb hr hlocks hM hS i_s0 hrun (Nat.le_of_ble_eq_true rfl) (Nat.le_of_ble_eq_true rfl) dX6_cacheOf_25
  refine s_entry hargs hM (c_r (c_i c_0)) (Nat.le_of_ble_eq_true rfl) (fun H locs ls hM hS hl => ?_)
  replace hl : lvh ls 3 [(0, vr x0), (1, vi x1)] := hl
  unfold f_X6_cacheOf at hrun
  refine s_aload_n hx hb dX6_cacheOf_0 rfl (la hl 0 rfl) ?_
  refine lv_iconst (v := Int32.ofInt 0) hx hb dX6_cacheOf_1 rfl ?_
  obtain ⟨h1, g1, hrun⟩ := bd hrun
  refine s_put (b := false) hx hb hts kl_6 tyX6 tyX6_ok nmX6 hown hE.1 hM hS (ci := 6) rfl (by decide) rfl (k := 0) (by decide) rfl (hts _ kw_668) rfl (vp_nar_int _) rfl (fun _ => (by decide)) g1 dX6_cacheOf_2 (fun H locs hM hS => ?_)
  refine s_aload_n hx hb dX6_cacheOf_5 rfl (la hl 0 rfl) ?_
  refine lv_iload_n hx hb dX6_cacheOf_6 rfl (la hl 1 rfl) ?_
  obtain ⟨u3, g3, hrun⟩ := bd hrun
  obtain ⟨r2, g2, hrun⟩ := bd hrun
  refine s_callV (n := 1) (rest := []) [vi x1] hx hb hml hown hts hE hM hS (c_X6_slabAt l D G base h1 r2.2 x0 x1 r2.1 i_x1 g2) kw_878 kw_875 kw_40 kw_877 kw_35 (by decide +kernel) ⟨Nat.le_of_ble_eq_true rfl, Nat.le_of_ble_eq_true rfl⟩ rfl rfl (by decide) g3 rfl hl.1.1 rfl (c8 c_0 (Nat.le_of_ble_eq_true rfl)) dX6_cacheOf_7 ⟨Nat.le_of_ble_eq_true rfl, Nat.le_of_ble_eq_true rfl⟩ (fun H locs i_r2 hM hS => ?_)
  refine W.eq (g2 := F0 m 10 ls [vi r2.1]) rfl ?_
  refine t_istore_n (lv' := [(2, vi r2.1), (0, vr x0), (1, vi x1)]) hx hb dX6_cacheOf_10 rfl hl (by decide) rfl (fun ls hl => ?_)
  refine lv_iload_n hx hb dX6_cacheOf_11 rfl (la hl 0 rfl) ?_
  refine s_if_ge (tgt := 19) hx hb dX6_cacheOf_12 (by decide) i_r2 (fun cd => ?_) (fun cd => ?_)
  · replace hrun := it_pos cd hrun
    refine s_aload_n hx hb dX6_cacheOf_19 rfl (la hl 1 rfl) ?_
    obtain ⟨v4, g4, hrun⟩ := bd hrun
    refine s_getfr hx hb hts kl_6 hown hE.1 hM (ci := 6) rfl (by decide) rfl (k := 14) (by decide) rfl (hts _ kw_682) g4 dX6_cacheOf_20 ?_
    refine lv_iload_n hx hb dX6_cacheOf_23 rfl (la hl 0 rfl) ?_
    obtain ⟨v5, g5, hrun⟩ := bd hrun
    refine s_iald hx hb hE.1 hM i_r2 g5 dX6_cacheOf_24 ?_
    have i_v5 : inr v5 := ald_i hM g5 (by decide) (by decide)
    exact j25 r2.2 v5 H locs ls i_v5 hM hS (lsub hl [] rfl) hrun
  · replace hrun := it_neg cd hrun
    refine lv_iconst (v := Int32.ofInt (-1)) hx hb dX6_cacheOf_15 rfl ?_
    refine lv_goto (tgt := 25) hx hb dX6_cacheOf_16 (by decide) ?_
    exact j25 r2.2 (-1) H locs ls (by decide) hM hS (lsub hl [] rfl) hrun
def f_X6_objectOf_j87 (k27 : Hp → Int → Int → Int → Int → Int → Option (Int × Hp)) (h : Hp) (x0 x1 x2 x3 x4 : Int) : Option (Int × Hp) :=
  k27 h x0 x1 x2 x3 (wr (x4 + 1))
def f_X6_objectOf_s27 (k27 : Hp → Int → Int → Int → Int → Int → Option (Int × Hp)) (h : Hp) (x0 x1 x2 x3 x4 : Int) : Option (Int × Hp) :=
  Option.bind (gtf h 6 10 x0) fun v6 =>
  Option.bind (ald h 8 v6 x3) fun v7 =>
  if v7 ≤ x4 then (
    some ((-1), h)
  ) else (
    Option.bind (ckd h 6 x0) fun u9 =>
    Option.bind (f_X6_unitOf h x0 x2 x4) fun r8 =>
    Option.bind (gtf r8.2 6 18 x0) fun v10 =>
    Option.bind (idv (wr (8 * r8.1)) 8) fun v11 =>
    Option.bind (ald r8.2 8 v10 v11) fun v12 =>
    if v12 ≠ 2 then (
      f_X6_objectOf_j87 k27 r8.2 x0 x1 x2 x3 x4
    ) else (
      Option.bind (gtf r8.2 6 5 x0) fun v13 =>
      Option.bind (ald r8.2 8 v13 x3) fun v14 =>
      Option.bind (f_X6_isIn r8.2 x1 (wr (8 * r8.1)) (wr ((wr ((wr (8 * r8.1)) + v14)) - 1))) fun r15 =>
      if r15.1 = 0 then (
        f_X6_objectOf_j87 k27 r15.2 x0 x1 x2 x3 x4
      ) else (
        some (wr (8 * r8.1), r15.2)
      )
    )
  )
def f_X6_objectOf_b27 : Nat → Hp → Int → Int → Int → Int → Int → Option (Int × Hp)
  | 0, _, _, _, _, _, _ => none
  | n + 1, h, x0, x1, x2, x3, x4 => f_X6_objectOf_s27 (f_X6_objectOf_b27 n) h x0 x1 x2 x3 x4
def f_X6_objectOf (h : Hp) (x0 x1 : Int) : Option (Int × Hp) :=
  Option.bind (ptf h 6 0 x0 0) fun h1 =>
  Option.bind (ckd h1 6 x0) fun u3 =>
  Option.bind (f_X6_slabAt h1 x0 x1) fun r2 =>
  if 0 ≤ r2.1 then (
    Option.bind (gtf r2.2 6 14 x0) fun v4 =>
    Option.bind (ald r2.2 8 v4 r2.1) fun v5 =>
    f_X6_objectOf_b27 fuel r2.2 x0 x1 r2.1 v5 0
  ) else (
    some ((-1), r2.2)
  )
abbrev w_X6_objectOf : List Cond := Cond.code yX6_objectOf cX6_objectOf 6 (some .int) :: BW
abbrev rm_X6_objectOf : Room := { frames := 2, cells := 0, slots := 0, locals := 43 }
set_option maxHeartbeats 4000000 in
set_option maxRecDepth 100000 in
theorem c_X6_objectOf (l : Launch) (D : va_G) (G : Nat → ClassId) (base : Nat) (h h' : Hp) (x0 x1 : Int) (rv : Int) (i_x1 : inr x1) (hrun : f_X6_objectOf h x0 x1 = some (rv, h')) : Met l yX6_objectOf w_X6_objectOf rm_X6_objectOf (PC l D G base h [vr x0, vi x1]) (QR D G base (some (vi rv)) (inr rv) h') rm_X6_objectOf.cells rm_X6_objectOf.slots (Ab base) := by
  refine Met.ofW (cc := cX6_objectOf) (maxL := 6) (ret := (some .int)) (by decide) rfl ?_
  intro p e s m args below meth c s₁ B hml hv
  obtain ⟨hargs, hE, hM⟩ := hv
  have hx := B.exec
  have hb := B.bytes
  have hr := B.returns
  have hts0 := atoms_spec (ws := w_X6_objectOf) B.pre
  have hts : ∀ w ∈ BW, w.before args s = true := fun w hw => hts0 w (List.mem_cons_of_mem _ hw)
  have hown : s.vm.findClass RX6 = some m.cls := findClass_of_methodNamed B.named
  have hlocks := B.notSynchronized
  have lp27 : ∀ (n27 : Nat) (h : Hp) (x0 x1 x2 x3 x4 : Int) (H : Heap) (locs : List Loc) (ls : Array Slot), inr x1 → inr x2 → inr x3 → inr x4 → SM D G base h H → va_S (Ab base) s.heap H locs → lvh ls 6 [(0, vr x0), (1, vi x1), (2, vi x2), (3, vi x3), (4, vi x4)] → f_X6_objectOf_b27 n27 h x0 x1 x2 x3 x4 = some (rv, h') → W p l e (headSpec w_X6_objectOf rm_X6_objectOf).room s m args below meth c H locs 0 0 (QI D G base rv h' below args s 0 0) (F0 m 27 ls []) := by
    intro n27
    induction n27 with
    | zero => intro h x0 x1 x2 x3 x4 H locs ls i_x1 i_x2 i_x3 i_x4 hM hS hl hrun; exact absurd hrun (fun q => nomatch (show (none : Option (Int × Hp)) = some (rv, h') from q))
    | succ n27 ih27 =>
      have j87 : ∀ (h : Hp) (x0 x1 x2 x3 x4 : Int) (H : Heap) (locs : List Loc) (ls : Array Slot), inr x1 → inr x2 → inr x3 → inr x4 → SM D G base h H → va_S (Ab base) s.heap H locs → lvh ls 6 [(0, vr x0), (1, vi x1), (2, vi x2), (3, vi x3), (4, vi x4)] → f_X6_objectOf_j87 (f_X6_objectOf_b27 n27) h x0 x1 x2 x3 x4 = some (rv, h') → W p l e (headSpec w_X6_objectOf rm_X6_objectOf).room s m args below meth c H locs 0 0 (QI D G base rv h' below args s 0 0) (F0 m 87 ls []) := by
        intro h x0 x1 x2 x3 x4 H locs ls i_x1 i_x2 i_x3 i_x4 hM hS hl hrun
        unfold f_X6_objectOf_j87 at hrun
        refine t_iinc (lv' := [(4, vi (wr (x4 + 1))), (0, vr x0), (1, vi x1), (2, vi x2), (3, vi x3)]) hx hb dX6_objectOf_87 hl (k := 4) rfl (by decide) rfl rfl (fun ls hl => ?_)
        refine lv_goto (tgt := 27) hx hb dX6_objectOf_90 (by decide) ?_
        exact ih27 h x0 x1 x2 x3 (wr (x4 + 1)) H locs ls i_x1 i_x2 i_x3 (inr_wr _) hM hS (lsub hl [1, 2, 3, 4, 0] rfl) hrun
      intro h x0 x1 x2 x3 x4 H locs ls i_x1 i_x2 i_x3 i_x4 hM hS hl hrun
      replace hrun : f_X6_objectOf_s27 (f_X6_objectOf_b27 n27) h x0 x1 x2 x3 x4 = some (rv, h') := hrun
      unfold f_X6_objectOf_s27 at hrun
      refine lv_iload hx hb dX6_objectOf_27 (la hl 4 rfl) ?_
      refine s_aload_n hx hb dX6_objectOf_29 rfl (la hl 0 rfl) ?_
      obtain ⟨v6, g6, hrun⟩ := bd hrun
      refine s_getfr hx hb hts kl_6 hown hE.1 hM (ci := 6) rfl (by decide) rfl (k := 10) (by decide) rfl (hts _ kw_678) g6 dX6_objectOf_30 ?_
      refine lv_iload_n hx hb dX6_objectOf_33 rfl (la hl 3 rfl) ?_
      obtain ⟨v7, g7, hrun⟩ := bd hrun
      refine s_iald hx hb hE.1 hM i_x3 g7 dX6_objectOf_34 ?_
      have i_v7 : inr v7 := ald_i hM g7 (by decide) (by decide)
      refine s_icmp_ge (tgt := 93) hx hb dX6_objectOf_35 (by decide) i_x4 i_v7 (fun cd => ?_) (fun cd => ?_)
      · replace hrun := it_pos cd hrun
        refine lv_iconst (v := Int32.ofInt (-1)) hx hb dX6_objectOf_93 rfl ?_
        exact s_iret hx hb hr hlocks hM hS (by decide) hrun (Nat.le_of_ble_eq_true rfl) (Nat.le_of_ble_eq_true rfl) dX6_objectOf_94
      · replace hrun := it_neg cd hrun
        refine lv_bipush (v := Int32.ofInt 8) hx hb dX6_objectOf_38 (by decide) ?_
        refine s_aload_n hx hb dX6_objectOf_40 rfl (la hl 0 rfl) ?_
        refine lv_iload_n hx hb dX6_objectOf_41 rfl (la hl 2 rfl) ?_
        refine lv_iload hx hb dX6_objectOf_42 (la hl 4 rfl) ?_
        obtain ⟨u9, g9, hrun⟩ := bd hrun
        obtain ⟨r8, g8, hrun⟩ := bd hrun
        refine s_callV (n := 2) (rest := [vi 8]) [vi x2, vi x4] hx hb hml hown hts hE hM hS (c_X6_unitOf l D G base h r8.2 x0 x2 x4 r8.1 i_x2 i_x4 g8) kw_813 kw_810 kw_40 kw_812 kw_26 (by decide +kernel) ⟨Nat.le_of_ble_eq_true rfl, Nat.le_of_ble_eq_true rfl⟩ rfl rfl (by decide) g9 rfl hl.1.1 rfl (c8 (c_i c_0) (Nat.le_of_ble_eq_true rfl)) dX6_objectOf_44 ⟨Nat.le_of_ble_eq_true rfl, Nat.le_of_ble_eq_true rfl⟩ (fun H locs i_r8 hM hS => ?_)
        refine W.eq (g2 := F0 m 47 ls [vi r8.1, vi 8]) rfl ?_
        refine s_imul hx hb dX6_objectOf_47 ?_
        refine t_istore (lv' := [(5, vi (wr (8 * r8.1))), (0, vr x0), (1, vi x1), (2, vi x2), (3, vi x3), (4, vi x4)]) hx hb dX6_objectOf_48 hl (by decide) rfl (fun ls hl => ?_)
        refine s_aload_n hx hb dX6_objectOf_50 rfl (la hl 1 rfl) ?_
        obtain ⟨v10, g10, hrun⟩ := bd hrun
        refine s_getfr hx hb hts kl_6 hown hE.1 hM (ci := 6) rfl (by decide) rfl (k := 18) (by decide) rfl (hts _ kw_686) g10 dX6_objectOf_51 ?_
        refine lv_iload hx hb dX6_objectOf_54 (la hl 0 rfl) ?_
        refine lv_bipush (v := Int32.ofInt 8) hx hb dX6_objectOf_56 (by decide) ?_
        obtain ⟨v11, g11, hrun⟩ := bd hrun
        refine s_idiv hx hb (inr_wr _) (by decide) g11 dX6_objectOf_58 ?_
        have i_v11 : inr v11 := inr_dv g11
        obtain ⟨v12, g12, hrun⟩ := bd hrun
        refine s_iald hx hb hE.1 hM i_v11 g12 dX6_objectOf_59 ?_
        have i_v12 : inr v12 := ald_i hM g12 (by decide) (by decide)
        refine lv_iconst (v := Int32.ofInt 2) hx hb dX6_objectOf_60 rfl ?_
        refine s_icmp_ne (tgt := 87) hx hb dX6_objectOf_61 (by decide) i_v12 (by decide) (fun cd => ?_) (fun cd => ?_)
        · replace hrun := it_pos cd hrun
          exact j87 r8.2 x0 x1 x2 x3 x4 H locs ls i_x1 i_x2 i_x3 i_x4 hM hS (lsub hl [1, 2, 3, 4, 5] rfl) hrun
        · replace hrun := it_neg cd hrun
          refine lv_iload_n hx hb dX6_objectOf_64 rfl (la hl 2 rfl) ?_
          refine lv_iload hx hb dX6_objectOf_65 (la hl 0 rfl) ?_
          refine lv_iload hx hb dX6_objectOf_67 (la hl 0 rfl) ?_
          refine s_aload_n hx hb dX6_objectOf_69 rfl (la hl 1 rfl) ?_
          obtain ⟨v13, g13, hrun⟩ := bd hrun
          refine s_getfr hx hb hts kl_6 hown hE.1 hM (ci := 6) rfl (by decide) rfl (k := 5) (by decide) rfl (hts _ kw_673) g13 dX6_objectOf_70 ?_
          refine lv_iload_n hx hb dX6_objectOf_73 rfl (la hl 4 rfl) ?_
          obtain ⟨v14, g14, hrun⟩ := bd hrun
          refine s_iald hx hb hE.1 hM i_x3 g14 dX6_objectOf_74 ?_
          have i_v14 : inr v14 := ald_i hM g14 (by decide) (by decide)
          refine s_iadd hx hb dX6_objectOf_75 ?_
          refine lv_iconst (v := Int32.ofInt 1) hx hb dX6_objectOf_76 rfl ?_
          refine s_isub hx hb dX6_objectOf_77 ?_
          obtain ⟨r15, g15, hrun⟩ := bd hrun
          refine s_callS (n := 3) (rest := []) [vi x1, vi (wr (8 * r8.1)), vi (wr ((wr ((wr (8 * r8.1)) + v14)) - 1))] hx hb hml hown hts hE hM hS (c_X6_isIn l D G base r8.2 r15.2 x1 (wr (8 * r8.1)) (wr ((wr ((wr (8 * r8.1)) + v14)) - 1)) r15.1 i_x1 (inr_wr _) (inr_wr _) g15) kw_761 kw_759 kw_40 kw_760 (by decide +kernel) ⟨Nat.le_of_ble_eq_true rfl, Nat.le_of_ble_eq_true rfl⟩ rfl hl.1.1 rfl (c8 c_0 (Nat.le_of_ble_eq_true rfl)) dX6_objectOf_78 ⟨Nat.le_of_ble_eq_true rfl, Nat.le_of_ble_eq_true rfl⟩ (fun H locs i_r15 hM hS => ?_)
          refine W.eq (g2 := F0 m 81 ls [vi r15.1]) rfl ?_
          refine s_if_eq (tgt := 87) hx hb dX6_objectOf_81 (by decide) i_r15 (fun cd => ?_) (fun cd => ?_)
          · replace hrun := it_pos cd hrun
            exact j87 r15.2 x0 x1 x2 x3 x4 H locs ls i_x1 i_x2 i_x3 i_x4 hM hS (lsub hl [1, 2, 3, 4, 5] rfl) hrun
          · replace hrun := it_neg cd hrun
            refine lv_iload hx hb dX6_objectOf_84 (la hl 0 rfl) ?_
            exact s_iret hx hb hr hlocks hM hS (inr_wr _) hrun (Nat.le_of_ble_eq_true rfl) (Nat.le_of_ble_eq_true rfl) dX6_objectOf_86
  refine s_entry hargs hM (c_r (c_i c_0)) (Nat.le_of_ble_eq_true rfl) (fun H locs ls hM hS hl => ?_)
  replace hl : lvh ls 6 [(0, vr x0), (1, vi x1)] := hl
  unfold f_X6_objectOf at hrun
  refine s_aload_n hx hb dX6_objectOf_0 rfl (la hl 0 rfl) ?_
  refine lv_iconst (v := Int32.ofInt 0) hx hb dX6_objectOf_1 rfl ?_
  obtain ⟨h1, g1, hrun⟩ := bd hrun
  refine s_put (b := false) hx hb hts kl_6 tyX6 tyX6_ok nmX6 hown hE.1 hM hS (ci := 6) rfl (by decide) rfl (k := 0) (by decide) rfl (hts _ kw_668) rfl (vp_nar_int _) rfl (fun _ => (by decide)) g1 dX6_objectOf_2 (fun H locs hM hS => ?_)
  refine s_aload_n hx hb dX6_objectOf_5 rfl (la hl 0 rfl) ?_
  refine lv_iload_n hx hb dX6_objectOf_6 rfl (la hl 1 rfl) ?_
  obtain ⟨u3, g3, hrun⟩ := bd hrun
  obtain ⟨r2, g2, hrun⟩ := bd hrun
  refine s_callV (n := 1) (rest := []) [vi x1] hx hb hml hown hts hE hM hS (c_X6_slabAt l D G base h1 r2.2 x0 x1 r2.1 i_x1 g2) kw_878 kw_875 kw_40 kw_877 kw_35 (by decide +kernel) ⟨Nat.le_of_ble_eq_true rfl, Nat.le_of_ble_eq_true rfl⟩ rfl rfl (by decide) g3 rfl hl.1.1 rfl (c8 c_0 (Nat.le_of_ble_eq_true rfl)) dX6_objectOf_7 ⟨Nat.le_of_ble_eq_true rfl, Nat.le_of_ble_eq_true rfl⟩ (fun H locs i_r2 hM hS => ?_)
  refine W.eq (g2 := F0 m 10 ls [vi r2.1]) rfl ?_
  refine t_istore_n (lv' := [(2, vi r2.1), (0, vr x0), (1, vi x1)]) hx hb dX6_objectOf_10 rfl hl (by decide) rfl (fun ls hl => ?_)
  refine lv_iload_n hx hb dX6_objectOf_11 rfl (la hl 0 rfl) ?_
  refine s_if_ge (tgt := 17) hx hb dX6_objectOf_12 (by decide) i_r2 (fun cd => ?_) (fun cd => ?_)
  · replace hrun := it_pos cd hrun
    refine s_aload_n hx hb dX6_objectOf_17 rfl (la hl 1 rfl) ?_
    obtain ⟨v4, g4, hrun⟩ := bd hrun
    refine s_getfr hx hb hts kl_6 hown hE.1 hM (ci := 6) rfl (by decide) rfl (k := 14) (by decide) rfl (hts _ kw_682) g4 dX6_objectOf_18 ?_
    refine lv_iload_n hx hb dX6_objectOf_21 rfl (la hl 0 rfl) ?_
    obtain ⟨v5, g5, hrun⟩ := bd hrun
    refine s_iald hx hb hE.1 hM i_r2 g5 dX6_objectOf_22 ?_
    have i_v5 : inr v5 := ald_i hM g5 (by decide) (by decide)
    refine t_istore_n (lv' := [(3, vi v5), (2, vi r2.1), (0, vr x0), (1, vi x1)]) hx hb dX6_objectOf_23 rfl hl (by decide) rfl (fun ls hl => ?_)
    refine lv_iconst (v := Int32.ofInt 0) hx hb dX6_objectOf_24 rfl ?_
    refine t_istore (lv' := [(4, vi 0), (3, vi v5), (2, vi r2.1), (0, vr x0), (1, vi x1)]) hx hb dX6_objectOf_25 hl (by decide) rfl (fun ls hl => ?_)
    exact lp27 fuel r2.2 x0 x1 r2.1 v5 0 H locs ls i_x1 i_r2 i_v5 (by decide) hM hS (lsub hl [3, 4, 2, 1, 0] rfl) hrun
  · replace hrun := it_neg cd hrun
    refine lv_iconst (v := Int32.ofInt (-1)) hx hb dX6_objectOf_15 rfl ?_
    exact s_iret hx hb hr hlocks hM hS (by decide) hrun (Nat.le_of_ble_eq_true rfl) (Nat.le_of_ble_eq_true rfl) dX6_objectOf_16
def f_X6_about_j88 (h : Hp) (s0 : Int) : Option (Int × Hp) :=
  some (s0, h)
def f_X6_about_j223 (h : Hp) (s0 : Int) : Option (Int × Hp) :=
  some (s0, h)
def f_X6_about_j152 (h : Hp) (x0 x1 x2 x3 : Int) : Option (Int × Hp) :=
  Option.bind (gtf h 6 21 x0) fun v16 =>
  Option.bind (ald h 8 v16 (wr (3 * x1))) fun v17 =>
  Option.bind (gtf h 6 21 x0) fun v18 =>
  Option.bind (ald h 8 v18 (wr ((wr (3 * x1)) + 1))) fun v19 =>
  Option.bind (gtf h 6 21 x0) fun v20 =>
  Option.bind (ald h 8 v20 (wr ((wr (3 * x1)) + 2))) fun v21 =>
  if x2 ≠ 4 then (
    if x2 ≠ 5 then (
      if x2 ≠ 6 then (
        Option.bind (gtf h 6 13 x0) fun v22 =>
        Option.bind (ald h 8 v22 x1) fun v23 =>
        f_X6_about_j223 h v23
      ) else (
        f_X6_about_j223 h x3
      )
    ) else (
      Option.bind (ckd h 6 x0) fun u25 =>
      Option.bind (f_X6_liveOf h x0 x1) fun r24 =>
      f_X6_about_j223 r24.2 r24.1
    )
  ) else (
    f_X6_about_j223 h (wr ((wr (v17 + v19)) + v21))
  )
def f_X6_about_s109 (k109 : Hp → Int → Int → Int → Int → Int → Option (Int × Hp)) (h : Hp) (x0 x1 x2 x3 x4 : Int) : Option (Int × Hp) :=
  if 4 ≤ x4 then (
    f_X6_about_j152 h x0 x1 x2 x3
  ) else (
    Option.bind (gtf h 6 23 x0) fun v26 =>
    Option.bind (ald h 8 v26 (wr (2 * (wr ((wr (8 * x4)) + x1))))) fun v27 =>
    Option.bind (gtf h 6 23 x0) fun v28 =>
    Option.bind (ald h 8 v28 (wr ((wr (2 * (wr ((wr (8 * x4)) + x1)))) + 1))) fun v29 =>
    k109 h x0 x1 x2 (wr ((wr (x3 + v27)) + v29)) (wr (x4 + 1))
  )
def f_X6_about_b109 : Nat → Hp → Int → Int → Int → Int → Int → Option (Int × Hp)
  | 0, _, _, _, _, _, _ => none
  | n + 1, h, x0, x1, x2, x3, x4 => f_X6_about_s109 (f_X6_about_b109 n) h x0 x1 x2 x3 x4
def f_X6_about_j28 (h : Hp) (x0 x1 x2 s0 s1 : Int) : Option (Int × Hp) :=
  Option.bind (ckd h 6 s0) fun u5 =>
  Option.bind (f_X6_refused h s0 s1) fun r4 =>
  if r4.1 = 0 then (
    if 4 ≤ x2 then (
      if x2 ≠ 6 then (
        f_X6_about_j152 r4.2 x0 x1 x2 0
      ) else (
        Option.bind (gtf r4.2 6 25 x0) fun v6 =>
        Option.bind (ald r4.2 8 v6 x1) fun v7 =>
        f_X6_about_b109 fuel r4.2 x0 x1 x2 (wr (4 * v7)) 0
      )
    ) else (
      if x2 ≠ 0 then (
        if x2 ≠ 1 then (
          if x2 ≠ 2 then (
            Option.bind (gtf r4.2 6 12 x0) fun v8 =>
            Option.bind (ald r4.2 8 v8 x1) fun v9 =>
            f_X6_about_j88 r4.2 v9
          ) else (
            Option.bind (gtf r4.2 6 11 x0) fun v10 =>
            Option.bind (ald r4.2 8 v10 x1) fun v11 =>
            f_X6_about_j88 r4.2 v11
          )
        ) else (
          Option.bind (gtf r4.2 6 10 x0) fun v12 =>
          Option.bind (ald r4.2 8 v12 x1) fun v13 =>
          f_X6_about_j88 r4.2 v13
        )
      ) else (
        Option.bind (gtf r4.2 6 9 x0) fun v14 =>
        Option.bind (ald r4.2 8 v14 x1) fun v15 =>
        f_X6_about_j88 r4.2 v15
      )
    )
  ) else (
    some (0, r4.2)
  )
def f_X6_about (h : Hp) (x0 x1 x2 : Int) : Option (Int × Hp) :=
  Option.bind (ckd h 6 x0) fun u2 =>
  Option.bind (f_X6_isCache h x0 x1) fun r1 =>
  if r1.1 ≠ 0 then (
    Option.bind (f_X6_isIn r1.2 x2 0 7) fun r3 =>
    if r3.1 ≠ 0 then (
      f_X6_about_j28 r3.2 x0 x1 x2 x0 0
    ) else (
      f_X6_about_j28 r3.2 x0 x1 x2 x0 2
    )
  ) else (
    f_X6_about_j28 r1.2 x0 x1 x2 x0 1
  )
abbrev w_X6_about : List Cond := Cond.code yX6_about cX6_about 6 (some .int) :: BW
abbrev rm_X6_about : Room := { frames := 2, cells := 0, slots := 0, locals := 43 }
set_option maxHeartbeats 4000000 in
set_option maxRecDepth 100000 in
theorem c_X6_about (l : Launch) (D : va_G) (G : Nat → ClassId) (base : Nat) (h h' : Hp) (x0 x1 x2 : Int) (rv : Int) (i_x1 : inr x1) (i_x2 : inr x2) (hrun : f_X6_about h x0 x1 x2 = some (rv, h')) : Met l yX6_about w_X6_about rm_X6_about (PC l D G base h [vr x0, vi x1, vi x2]) (QR D G base (some (vi rv)) (inr rv) h') rm_X6_about.cells rm_X6_about.slots (Ab base) := by
  refine Met.ofW (cc := cX6_about) (maxL := 6) (ret := (some .int)) (by decide) rfl ?_
  intro p e s m args below meth c s₁ B hml hv
  obtain ⟨hargs, hE, hM⟩ := hv
  have hx := B.exec
  have hb := B.bytes
  have hr := B.returns
  have hts0 := atoms_spec (ws := w_X6_about) B.pre
  have hts : ∀ w ∈ BW, w.before args s = true := fun w hw => hts0 w (List.mem_cons_of_mem _ hw)
  have hown : s.vm.findClass RX6 = some m.cls := findClass_of_methodNamed B.named
  have hlocks := B.notSynchronized
  have j88 : ∀ (h : Hp) (s0 : Int) (H : Heap) (locs : List Loc) (ls : Array Slot), inr s0 → SM D G base h H → va_S (Ab base) s.heap H locs → lvh ls 6 [] → f_X6_about_j88 h s0 = some (rv, h') → W p l e (headSpec w_X6_about rm_X6_about).room s m args below meth c H locs 0 0 (QI D G base rv h' below args s 0 0) (F0 m 88 ls [vi s0]) := by
    intro h s0 H locs ls i_s0 hM hS hl hrun
    unfold f_X6_about_j88 at hrun
    exact s_iret hx hb hr hlocks hM hS i_s0 hrun (Nat.le_of_ble_eq_true rfl) (Nat.le_of_ble_eq_true rfl) dX6_about_88
  have j223 : ∀ (h : Hp) (s0 : Int) (H : Heap) (locs : List Loc) (ls : Array Slot), inr s0 → SM D G base h H → va_S (Ab base) s.heap H locs → lvh ls 6 [] → f_X6_about_j223 h s0 = some (rv, h') → W p l e (headSpec w_X6_about rm_X6_about).room s m args below meth c H locs 0 0 (QI D G base rv h' below args s 0 0) (F0 m 223 ls [vi s0]) := by
    intro h s0 H locs ls i_s0 hM hS hl hrun
    unfold f_X6_about_j223 at hrun
    exact s_iret hx hb hr hlocks hM hS i_s0 hrun (Nat.le_of_ble_eq_true rfl) (Nat.le_of_ble_eq_true rfl) dX6_about_223
  have j152 : ∀ (h : Hp) (x0 x1 x2 x3 : Int) (H : Heap) (locs : List Loc) (ls : Array Slot), inr x1 → inr x2 → inr x3 → SM D G base h H → va_S (Ab base) s.heap H locs → lvh ls 6 [(0, vr x0), (1, vi x1), (2, vi x2), (3, vi x3)] → f_X6_about_j152 h x0 x1 x2 x3 = some (rv, h') → W p l e (headSpec w_X6_about rm_X6_about).room s m args below meth c H locs 0 0 (QI D G base rv h' below args s 0 0) (F0 m 152 ls []) := by
    intro h x0 x1 x2 x3 H locs ls i_x1 i_x2 i_x3 hM hS hl hrun
    unfold f_X6_about_j152 at hrun
    refine s_aload_n hx hb dX6_about_152 rfl (la hl 0 rfl) ?_
    obtain ⟨v16, g16, hrun⟩ := bd hrun
    refine s_getfr hx hb hts kl_6 hown hE.1 hM (ci := 6) rfl (by decide) rfl (k := 21) (by decide) rfl (hts _ kw_689) g16 dX6_about_153 ?_
    refine lv_iconst (v := Int32.ofInt 3) hx hb dX6_about_156 rfl ?_
    refine lv_iload_n hx hb dX6_about_157 rfl (la hl 1 rfl) ?_
    refine s_imul hx hb dX6_about_158 ?_
    obtain ⟨v17, g17, hrun⟩ := bd hrun
    refine s_iald hx hb hE.1 hM (inr_wr _) g17 dX6_about_159 ?_
    have i_v17 : inr v17 := ald_i hM g17 (by decide) (by decide)
    refine s_aload_n hx hb dX6_about_160 rfl (la hl 0 rfl) ?_
    obtain ⟨v18, g18, hrun⟩ := bd hrun
    refine s_getfr hx hb hts kl_6 hown hE.1 hM (ci := 6) rfl (by decide) rfl (k := 21) (by decide) rfl (hts _ kw_689) g18 dX6_about_161 ?_
    refine lv_iconst (v := Int32.ofInt 3) hx hb dX6_about_164 rfl ?_
    refine lv_iload_n hx hb dX6_about_165 rfl (la hl 1 rfl) ?_
    refine s_imul hx hb dX6_about_166 ?_
    refine lv_iconst (v := Int32.ofInt 1) hx hb dX6_about_167 rfl ?_
    refine s_iadd hx hb dX6_about_168 ?_
    obtain ⟨v19, g19, hrun⟩ := bd hrun
    refine s_iald hx hb hE.1 hM (inr_wr _) g19 dX6_about_169 ?_
    have i_v19 : inr v19 := ald_i hM g19 (by decide) (by decide)
    refine s_iadd hx hb dX6_about_170 ?_
    refine s_aload_n hx hb dX6_about_171 rfl (la hl 0 rfl) ?_
    obtain ⟨v20, g20, hrun⟩ := bd hrun
    refine s_getfr hx hb hts kl_6 hown hE.1 hM (ci := 6) rfl (by decide) rfl (k := 21) (by decide) rfl (hts _ kw_689) g20 dX6_about_172 ?_
    refine lv_iconst (v := Int32.ofInt 3) hx hb dX6_about_175 rfl ?_
    refine lv_iload_n hx hb dX6_about_176 rfl (la hl 1 rfl) ?_
    refine s_imul hx hb dX6_about_177 ?_
    refine lv_iconst (v := Int32.ofInt 2) hx hb dX6_about_178 rfl ?_
    refine s_iadd hx hb dX6_about_179 ?_
    obtain ⟨v21, g21, hrun⟩ := bd hrun
    refine s_iald hx hb hE.1 hM (inr_wr _) g21 dX6_about_180 ?_
    have i_v21 : inr v21 := ald_i hM g21 (by decide) (by decide)
    refine s_iadd hx hb dX6_about_181 ?_
    refine t_istore (lv' := [(4, vi (wr ((wr (v17 + v19)) + v21))), (0, vr x0), (1, vi x1), (2, vi x2), (3, vi x3)]) hx hb dX6_about_182 hl (by decide) rfl (fun ls hl => ?_)
    refine lv_iload_n hx hb dX6_about_184 rfl (la hl 3 rfl) ?_
    refine lv_iconst (v := Int32.ofInt 4) hx hb dX6_about_185 rfl ?_
    refine s_icmp_ne (tgt := 194) hx hb dX6_about_186 (by decide) i_x2 (by decide) (fun cd => ?_) (fun cd => ?_)
    · replace hrun := it_pos cd hrun
      refine lv_iload_n hx hb dX6_about_194 rfl (la hl 3 rfl) ?_
      refine lv_iconst (v := Int32.ofInt 5) hx hb dX6_about_195 rfl ?_
      refine s_icmp_ne (tgt := 207) hx hb dX6_about_196 (by decide) i_x2 (by decide) (fun cd => ?_) (fun cd => ?_)
      · replace hrun := it_pos cd hrun
        refine lv_iload_n hx hb dX6_about_207 rfl (la hl 3 rfl) ?_
        refine lv_bipush (v := Int32.ofInt 6) hx hb dX6_about_208 (by decide) ?_
        refine s_icmp_ne (tgt := 217) hx hb dX6_about_210 (by decide) i_x2 (by decide) (fun cd => ?_) (fun cd => ?_)
        · replace hrun := it_pos cd hrun
          refine s_aload_n hx hb dX6_about_217 rfl (la hl 1 rfl) ?_
          obtain ⟨v22, g22, hrun⟩ := bd hrun
          refine s_getfr hx hb hts kl_6 hown hE.1 hM (ci := 6) rfl (by decide) rfl (k := 13) (by decide) rfl (hts _ kw_681) g22 dX6_about_218 ?_
          refine lv_iload_n hx hb dX6_about_221 rfl (la hl 2 rfl) ?_
          obtain ⟨v23, g23, hrun⟩ := bd hrun
          refine s_iald hx hb hE.1 hM i_x1 g23 dX6_about_222 ?_
          have i_v23 : inr v23 := ald_i hM g23 (by decide) (by decide)
          exact j223 h v23 H locs ls i_v23 hM hS (lsub hl [] rfl) hrun
        · replace hrun := it_neg cd hrun
          refine lv_iload_n hx hb dX6_about_213 rfl (la hl 4 rfl) ?_
          refine lv_goto (tgt := 223) hx hb dX6_about_214 (by decide) ?_
          exact j223 h x3 H locs ls i_x3 hM hS (lsub hl [] rfl) hrun
      · replace hrun := it_neg cd hrun
        refine s_aload_n hx hb dX6_about_199 rfl (la hl 1 rfl) ?_
        refine lv_iload_n hx hb dX6_about_200 rfl (la hl 2 rfl) ?_
        obtain ⟨u25, g25, hrun⟩ := bd hrun
        obtain ⟨r24, g24, hrun⟩ := bd hrun
        refine s_callV (n := 1) (rest := []) [vi x1] hx hb hml hown hts hE hM hS (c_X6_liveOf l D G base h r24.2 x0 x1 r24.1 i_x1 g24) kw_777 kw_774 kw_40 kw_776 kw_17 (by decide +kernel) ⟨Nat.le_of_ble_eq_true rfl, Nat.le_of_ble_eq_true rfl⟩ rfl rfl (by decide) g25 rfl hl.1.1 rfl (c8 c_0 (Nat.le_of_ble_eq_true rfl)) dX6_about_201 ⟨Nat.le_of_ble_eq_true rfl, Nat.le_of_ble_eq_true rfl⟩ (fun H locs i_r24 hM hS => ?_)
        refine W.eq (g2 := F0 m 204 ls [vi r24.1]) rfl ?_
        refine lv_goto (tgt := 223) hx hb dX6_about_204 (by decide) ?_
        exact j223 r24.2 r24.1 H locs ls i_r24 hM hS (lsub hl [] rfl) hrun
    · replace hrun := it_neg cd hrun
      refine lv_iload hx hb dX6_about_189 (la hl 0 rfl) ?_
      refine lv_goto (tgt := 223) hx hb dX6_about_191 (by decide) ?_
      exact j223 h (wr ((wr (v17 + v19)) + v21)) H locs ls (inr_wr _) hM hS (lsub hl [] rfl) hrun
  have lp109 : ∀ (n109 : Nat) (h : Hp) (x0 x1 x2 x3 x4 : Int) (H : Heap) (locs : List Loc) (ls : Array Slot), inr x1 → inr x2 → inr x3 → inr x4 → SM D G base h H → va_S (Ab base) s.heap H locs → lvh ls 6 [(0, vr x0), (1, vi x1), (2, vi x2), (3, vi x3), (4, vi x4)] → f_X6_about_b109 n109 h x0 x1 x2 x3 x4 = some (rv, h') → W p l e (headSpec w_X6_about rm_X6_about).room s m args below meth c H locs 0 0 (QI D G base rv h' below args s 0 0) (F0 m 109 ls []) := by
    intro n109
    induction n109 with
    | zero => intro h x0 x1 x2 x3 x4 H locs ls i_x1 i_x2 i_x3 i_x4 hM hS hl hrun; exact absurd hrun (fun q => nomatch (show (none : Option (Int × Hp)) = some (rv, h') from q))
    | succ n109 ih109 =>
      intro h x0 x1 x2 x3 x4 H locs ls i_x1 i_x2 i_x3 i_x4 hM hS hl hrun
      replace hrun : f_X6_about_s109 (f_X6_about_b109 n109) h x0 x1 x2 x3 x4 = some (rv, h') := hrun
      unfold f_X6_about_s109 at hrun
      refine lv_iload hx hb dX6_about_109 (la hl 4 rfl) ?_
      refine lv_iconst (v := Int32.ofInt 4) hx hb dX6_about_111 rfl ?_
      refine s_icmp_ge (tgt := 152) hx hb dX6_about_112 (by decide) i_x4 (by decide) (fun cd => ?_) (fun cd => ?_)
      · replace hrun := it_pos cd hrun
        exact j152 h x0 x1 x2 x3 H locs ls i_x1 i_x2 i_x3 hM hS (lsub hl [0, 1, 2, 3] rfl) hrun
      · replace hrun := it_neg cd hrun
        refine lv_iconst (v := Int32.ofInt 2) hx hb dX6_about_115 rfl ?_
        refine lv_bipush (v := Int32.ofInt 8) hx hb dX6_about_116 (by decide) ?_
        refine lv_iload hx hb dX6_about_118 (la hl 4 rfl) ?_
        refine s_imul hx hb dX6_about_120 ?_
        refine lv_iload_n hx hb dX6_about_121 rfl (la hl 1 rfl) ?_
        refine s_iadd hx hb dX6_about_122 ?_
        refine s_imul hx hb dX6_about_123 ?_
        refine t_istore (lv' := [(5, vi (wr (2 * (wr ((wr (8 * x4)) + x1))))), (0, vr x0), (1, vi x1), (2, vi x2), (3, vi x3), (4, vi x4)]) hx hb dX6_about_124 hl (by decide) rfl (fun ls hl => ?_)
        refine lv_iload_n hx hb dX6_about_126 rfl (la hl 4 rfl) ?_
        refine s_aload_n hx hb dX6_about_127 rfl (la hl 1 rfl) ?_
        obtain ⟨v26, g26, hrun⟩ := bd hrun
        refine s_getfr hx hb hts kl_6 hown hE.1 hM (ci := 6) rfl (by decide) rfl (k := 23) (by decide) rfl (hts _ kw_691) g26 dX6_about_128 ?_
        refine lv_iload hx hb dX6_about_131 (la hl 0 rfl) ?_
        obtain ⟨v27, g27, hrun⟩ := bd hrun
        refine s_iald hx hb hE.1 hM (inr_wr _) g27 dX6_about_133 ?_
        have i_v27 : inr v27 := ald_i hM g27 (by decide) (by decide)
        refine s_iadd hx hb dX6_about_134 ?_
        refine s_aload_n hx hb dX6_about_135 rfl (la hl 1 rfl) ?_
        obtain ⟨v28, g28, hrun⟩ := bd hrun
        refine s_getfr hx hb hts kl_6 hown hE.1 hM (ci := 6) rfl (by decide) rfl (k := 23) (by decide) rfl (hts _ kw_691) g28 dX6_about_136 ?_
        refine lv_iload hx hb dX6_about_139 (la hl 0 rfl) ?_
        refine lv_iconst (v := Int32.ofInt 1) hx hb dX6_about_141 rfl ?_
        refine s_iadd hx hb dX6_about_142 ?_
        obtain ⟨v29, g29, hrun⟩ := bd hrun
        refine s_iald hx hb hE.1 hM (inr_wr _) g29 dX6_about_143 ?_
        have i_v29 : inr v29 := ald_i hM g29 (by decide) (by decide)
        refine s_iadd hx hb dX6_about_144 ?_
        refine t_istore_n (lv' := [(3, vi (wr ((wr (x3 + v27)) + v29))), (5, vi (wr (2 * (wr ((wr (8 * x4)) + x1))))), (0, vr x0), (1, vi x1), (2, vi x2), (4, vi x4)]) hx hb dX6_about_145 rfl hl (by decide) rfl (fun ls hl => ?_)
        refine t_iinc (lv' := [(4, vi (wr (x4 + 1))), (3, vi (wr ((wr (x3 + v27)) + v29))), (5, vi (wr (2 * (wr ((wr (8 * x4)) + x1))))), (0, vr x0), (1, vi x1), (2, vi x2)]) hx hb dX6_about_146 hl (k := 5) rfl (by decide) rfl rfl (fun ls hl => ?_)
        refine lv_goto (tgt := 109) hx hb dX6_about_149 (by decide) ?_
        exact ih109 h x0 x1 x2 (wr ((wr (x3 + v27)) + v29)) (wr (x4 + 1)) H locs ls i_x1 i_x2 (inr_wr _) (inr_wr _) hM hS (lsub hl [3, 4, 5, 1, 0] rfl) hrun
  have j28 : ∀ (h : Hp) (x0 x1 x2 s0 s1 : Int) (H : Heap) (locs : List Loc) (ls : Array Slot), inr x1 → inr x2 → inr s1 → SM D G base h H → va_S (Ab base) s.heap H locs → lvh ls 6 [(0, vr x0), (1, vi x1), (2, vi x2)] → f_X6_about_j28 h x0 x1 x2 s0 s1 = some (rv, h') → W p l e (headSpec w_X6_about rm_X6_about).room s m args below meth c H locs 0 0 (QI D G base rv h' below args s 0 0) (F0 m 28 ls [vi s1, vr s0]) := by
    intro h x0 x1 x2 s0 s1 H locs ls i_x1 i_x2 i_s1 hM hS hl hrun
    unfold f_X6_about_j28 at hrun
    obtain ⟨u5, g5, hrun⟩ := bd hrun
    obtain ⟨r4, g4, hrun⟩ := bd hrun
    refine s_callV (n := 1) (rest := []) [vi s1] hx hb hml hown hts hE hM hS (c_X6_refused l D G base h r4.2 s0 s1 r4.1 i_s1 g4) kw_765 kw_762 kw_40 kw_764 kw_15 (by decide +kernel) ⟨Nat.le_of_ble_eq_true rfl, Nat.le_of_ble_eq_true rfl⟩ rfl rfl (by decide) g5 rfl hl.1.1 rfl (c8 c_0 (Nat.le_of_ble_eq_true rfl)) dX6_about_28 ⟨Nat.le_of_ble_eq_true rfl, Nat.le_of_ble_eq_true rfl⟩ (fun H locs i_r4 hM hS => ?_)
    refine W.eq (g2 := F0 m 31 ls [vi r4.1]) rfl ?_
    refine s_if_eq (tgt := 36) hx hb dX6_about_31 (by decide) i_r4 (fun cd => ?_) (fun cd => ?_)
    · replace hrun := it_pos cd hrun
      refine lv_iload_n hx hb dX6_about_36 rfl (la hl 2 rfl) ?_
      refine lv_iconst (v := Int32.ofInt 4) hx hb dX6_about_37 rfl ?_
      refine s_icmp_ge (tgt := 89) hx hb dX6_about_38 (by decide) i_x2 (by decide) (fun cd => ?_) (fun cd => ?_)
      · replace hrun := it_pos cd hrun
        refine lv_iconst (v := Int32.ofInt 0) hx hb dX6_about_89 rfl ?_
        refine t_istore_n (lv' := [(3, vi 0), (0, vr x0), (1, vi x1), (2, vi x2)]) hx hb dX6_about_90 rfl hl (by decide) rfl (fun ls hl => ?_)
        refine lv_iload_n hx hb dX6_about_91 rfl (la hl 3 rfl) ?_
        refine lv_bipush (v := Int32.ofInt 6) hx hb dX6_about_92 (by decide) ?_
        refine s_icmp_ne (tgt := 152) hx hb dX6_about_94 (by decide) i_x2 (by decide) (fun cd => ?_) (fun cd => ?_)
        · replace hrun := it_pos cd hrun
          exact j152 r4.2 x0 x1 x2 0 H locs ls i_x1 i_x2 (by decide) hM hS (lsub hl [1, 2, 3, 0] rfl) hrun
        · replace hrun := it_neg cd hrun
          refine lv_iconst (v := Int32.ofInt 4) hx hb dX6_about_97 rfl ?_
          refine s_aload_n hx hb dX6_about_98 rfl (la hl 1 rfl) ?_
          obtain ⟨v6, g6, hrun⟩ := bd hrun
          refine s_getfr hx hb hts kl_6 hown hE.1 hM (ci := 6) rfl (by decide) rfl (k := 25) (by decide) rfl (hts _ kw_693) g6 dX6_about_99 ?_
          refine lv_iload_n hx hb dX6_about_102 rfl (la hl 2 rfl) ?_
          obtain ⟨v7, g7, hrun⟩ := bd hrun
          refine s_iald hx hb hE.1 hM i_x1 g7 dX6_about_103 ?_
          have i_v7 : inr v7 := ald_i hM g7 (by decide) (by decide)
          refine s_imul hx hb dX6_about_104 ?_
          refine t_istore_n (lv' := [(3, vi (wr (4 * v7))), (0, vr x0), (1, vi x1), (2, vi x2)]) hx hb dX6_about_105 rfl hl (by decide) rfl (fun ls hl => ?_)
          refine lv_iconst (v := Int32.ofInt 0) hx hb dX6_about_106 rfl ?_
          refine t_istore (lv' := [(4, vi 0), (3, vi (wr (4 * v7))), (0, vr x0), (1, vi x1), (2, vi x2)]) hx hb dX6_about_107 hl (by decide) rfl (fun ls hl => ?_)
          exact lp109 fuel r4.2 x0 x1 x2 (wr (4 * v7)) 0 H locs ls i_x1 i_x2 (inr_wr _) (by decide) hM hS (lsub hl [2, 3, 4, 1, 0] rfl) hrun
      · replace hrun := it_neg cd hrun
        refine lv_iload_n hx hb dX6_about_41 rfl (la hl 2 rfl) ?_
        refine s_if_ne (tgt := 54) hx hb dX6_about_42 (by decide) i_x2 (fun cd => ?_) (fun cd => ?_)
        · replace hrun := it_pos cd hrun
          refine lv_iload_n hx hb dX6_about_54 rfl (la hl 2 rfl) ?_
          refine lv_iconst (v := Int32.ofInt 1) hx hb dX6_about_55 rfl ?_
          refine s_icmp_ne (tgt := 68) hx hb dX6_about_56 (by decide) i_x2 (by decide) (fun cd => ?_) (fun cd => ?_)
          · replace hrun := it_pos cd hrun
            refine lv_iload_n hx hb dX6_about_68 rfl (la hl 2 rfl) ?_
            refine lv_iconst (v := Int32.ofInt 2) hx hb dX6_about_69 rfl ?_
            refine s_icmp_ne (tgt := 82) hx hb dX6_about_70 (by decide) i_x2 (by decide) (fun cd => ?_) (fun cd => ?_)
            · replace hrun := it_pos cd hrun
              refine s_aload_n hx hb dX6_about_82 rfl (la hl 0 rfl) ?_
              obtain ⟨v8, g8, hrun⟩ := bd hrun
              refine s_getfr hx hb hts kl_6 hown hE.1 hM (ci := 6) rfl (by decide) rfl (k := 12) (by decide) rfl (hts _ kw_680) g8 dX6_about_83 ?_
              refine lv_iload_n hx hb dX6_about_86 rfl (la hl 1 rfl) ?_
              obtain ⟨v9, g9, hrun⟩ := bd hrun
              refine s_iald hx hb hE.1 hM i_x1 g9 dX6_about_87 ?_
              have i_v9 : inr v9 := ald_i hM g9 (by decide) (by decide)
              exact j88 r4.2 v9 H locs ls i_v9 hM hS (lsub hl [] rfl) hrun
            · replace hrun := it_neg cd hrun
              refine s_aload_n hx hb dX6_about_73 rfl (la hl 0 rfl) ?_
              obtain ⟨v10, g10, hrun⟩ := bd hrun
              refine s_getfr hx hb hts kl_6 hown hE.1 hM (ci := 6) rfl (by decide) rfl (k := 11) (by decide) rfl (hts _ kw_679) g10 dX6_about_74 ?_
              refine lv_iload_n hx hb dX6_about_77 rfl (la hl 1 rfl) ?_
              obtain ⟨v11, g11, hrun⟩ := bd hrun
              refine s_iald hx hb hE.1 hM i_x1 g11 dX6_about_78 ?_
              have i_v11 : inr v11 := ald_i hM g11 (by decide) (by decide)
              refine lv_goto (tgt := 88) hx hb dX6_about_79 (by decide) ?_
              exact j88 r4.2 v11 H locs ls i_v11 hM hS (lsub hl [] rfl) hrun
          · replace hrun := it_neg cd hrun
            refine s_aload_n hx hb dX6_about_59 rfl (la hl 0 rfl) ?_
            obtain ⟨v12, g12, hrun⟩ := bd hrun
            refine s_getfr hx hb hts kl_6 hown hE.1 hM (ci := 6) rfl (by decide) rfl (k := 10) (by decide) rfl (hts _ kw_678) g12 dX6_about_60 ?_
            refine lv_iload_n hx hb dX6_about_63 rfl (la hl 1 rfl) ?_
            obtain ⟨v13, g13, hrun⟩ := bd hrun
            refine s_iald hx hb hE.1 hM i_x1 g13 dX6_about_64 ?_
            have i_v13 : inr v13 := ald_i hM g13 (by decide) (by decide)
            refine lv_goto (tgt := 88) hx hb dX6_about_65 (by decide) ?_
            exact j88 r4.2 v13 H locs ls i_v13 hM hS (lsub hl [] rfl) hrun
        · replace hrun := it_neg cd hrun
          refine s_aload_n hx hb dX6_about_45 rfl (la hl 0 rfl) ?_
          obtain ⟨v14, g14, hrun⟩ := bd hrun
          refine s_getfr hx hb hts kl_6 hown hE.1 hM (ci := 6) rfl (by decide) rfl (k := 9) (by decide) rfl (hts _ kw_677) g14 dX6_about_46 ?_
          refine lv_iload_n hx hb dX6_about_49 rfl (la hl 1 rfl) ?_
          obtain ⟨v15, g15, hrun⟩ := bd hrun
          refine s_iald hx hb hE.1 hM i_x1 g15 dX6_about_50 ?_
          have i_v15 : inr v15 := ald_i hM g15 (by decide) (by decide)
          refine lv_goto (tgt := 88) hx hb dX6_about_51 (by decide) ?_
          exact j88 r4.2 v15 H locs ls i_v15 hM hS (lsub hl [] rfl) hrun
    · replace hrun := it_neg cd hrun
      refine lv_iconst (v := Int32.ofInt 0) hx hb dX6_about_34 rfl ?_
      exact s_iret hx hb hr hlocks hM hS (by decide) hrun (Nat.le_of_ble_eq_true rfl) (Nat.le_of_ble_eq_true rfl) dX6_about_35
  refine s_entry hargs hM (c_r (c_i (c_i c_0))) (Nat.le_of_ble_eq_true rfl) (fun H locs ls hM hS hl => ?_)
  replace hl : lvh ls 6 [(0, vr x0), (1, vi x1), (2, vi x2)] := hl
  unfold f_X6_about at hrun
  refine s_aload_n hx hb dX6_about_0 rfl (la hl 0 rfl) ?_
  refine s_aload_n hx hb dX6_about_1 rfl (la hl 0 rfl) ?_
  refine lv_iload_n hx hb dX6_about_2 rfl (la hl 1 rfl) ?_
  obtain ⟨u2, g2, hrun⟩ := bd hrun
  obtain ⟨r1, g1, hrun⟩ := bd hrun
  refine s_callV (n := 1) (rest := [vr x0]) [vi x1] hx hb hml hown hts hE hM hS (c_X6_isCache l D G base h r1.2 x0 x1 r1.1 i_x1 g1) kw_773 kw_770 kw_40 kw_772 kw_16 (by decide +kernel) ⟨Nat.le_of_ble_eq_true rfl, Nat.le_of_ble_eq_true rfl⟩ rfl rfl (by decide) g2 rfl hl.1.1 rfl (c8 (c_r c_0) (Nat.le_of_ble_eq_true rfl)) dX6_about_3 ⟨Nat.le_of_ble_eq_true rfl, Nat.le_of_ble_eq_true rfl⟩ (fun H locs i_r1 hM hS => ?_)
  refine W.eq (g2 := F0 m 6 ls [vi r1.1, vr x0]) rfl ?_
  refine s_if_ne (tgt := 13) hx hb dX6_about_6 (by decide) i_r1 (fun cd => ?_) (fun cd => ?_)
  · replace hrun := it_pos cd hrun
    refine lv_iload_n hx hb dX6_about_13 rfl (la hl 2 rfl) ?_
    refine lv_iconst (v := Int32.ofInt 0) hx hb dX6_about_14 rfl ?_
    refine lv_bipush (v := Int32.ofInt 7) hx hb dX6_about_15 (by decide) ?_
    obtain ⟨r3, g3, hrun⟩ := bd hrun
    refine s_callS (n := 3) (rest := [vr x0]) [vi x2, vi 0, vi 7] hx hb hml hown hts hE hM hS (c_X6_isIn l D G base r1.2 r3.2 x2 0 7 r3.1 i_x2 (by decide) (by decide) g3) kw_761 kw_759 kw_40 kw_760 (by decide +kernel) ⟨Nat.le_of_ble_eq_true rfl, Nat.le_of_ble_eq_true rfl⟩ rfl hl.1.1 rfl (c8 (c_r c_0) (Nat.le_of_ble_eq_true rfl)) dX6_about_17 ⟨Nat.le_of_ble_eq_true rfl, Nat.le_of_ble_eq_true rfl⟩ (fun H locs i_r3 hM hS => ?_)
    refine W.eq (g2 := F0 m 20 ls [vi r3.1, vr x0]) rfl ?_
    refine s_if_ne (tgt := 27) hx hb dX6_about_20 (by decide) i_r3 (fun cd => ?_) (fun cd => ?_)
    · replace hrun := it_pos cd hrun
      refine lv_iconst (v := Int32.ofInt 0) hx hb dX6_about_27 rfl ?_
      exact j28 r3.2 x0 x1 x2 x0 0 H locs ls i_x1 i_x2 (by decide) hM hS (lsub hl [0, 1, 2] rfl) hrun
    · replace hrun := it_neg cd hrun
      refine lv_iconst (v := Int32.ofInt 2) hx hb dX6_about_23 rfl ?_
      refine lv_goto (tgt := 28) hx hb dX6_about_24 (by decide) ?_
      exact j28 r3.2 x0 x1 x2 x0 2 H locs ls i_x1 i_x2 (by decide) hM hS (lsub hl [0, 1, 2] rfl) hrun
  · replace hrun := it_neg cd hrun
    refine lv_iconst (v := Int32.ofInt 1) hx hb dX6_about_9 rfl ?_
    refine lv_goto (tgt := 28) hx hb dX6_about_10 (by decide) ?_
    exact j28 r1.2 x0 x1 x2 x0 1 H locs ls i_x1 i_x2 (by decide) hM hS (lsub hl [0, 1, 2] rfl) hrun
def f_X6_list_j80 (h : Hp) (s0 : Int) : Option (Int × Hp) :=
  some (s0, h)
def f_X6_list_j27 (h : Hp) (x0 x1 x2 x3 s0 s1 : Int) : Option (Int × Hp) :=
  Option.bind (ckd h 6 s0) fun u5 =>
  Option.bind (f_X6_refused h s0 s1) fun r4 =>
  if r4.1 = 0 then (
    Option.bind (gtf r4.2 6 21 x0) fun v6 =>
    Option.bind (ald r4.2 8 v6 (wr ((wr (3 * x1)) + x2))) fun v7 =>
    Option.bind (f_X6_isIn r4.2 x3 0 (wr (v7 - 1))) fun r8 =>
    if r8.1 = 0 then (
      f_X6_list_j80 r8.2 (-1)
    ) else (
      Option.bind (gtf r8.2 6 22 x0) fun v9 =>
      Option.bind (ald r8.2 8 v9 (wr ((wr (256 * (wr ((wr (3 * x1)) + x2)))) + x3))) fun v10 =>
      f_X6_list_j80 r8.2 (wr (1024 * v10))
    )
  ) else (
    some (0, r4.2)
  )
def f_X6_list (h : Hp) (x0 x1 x2 x3 : Int) : Option (Int × Hp) :=
  Option.bind (ckd h 6 x0) fun u2 =>
  Option.bind (f_X6_isCache h x0 x1) fun r1 =>
  if r1.1 ≠ 0 then (
    Option.bind (f_X6_isIn r1.2 x2 0 2) fun r3 =>
    if r3.1 ≠ 0 then (
      f_X6_list_j27 r3.2 x0 x1 x2 x3 x0 0
    ) else (
      f_X6_list_j27 r3.2 x0 x1 x2 x3 x0 2
    )
  ) else (
    f_X6_list_j27 r1.2 x0 x1 x2 x3 x0 1
  )
abbrev w_X6_list : List Cond := Cond.code yX6_list cX6_list 5 (some .int) :: BW
abbrev rm_X6_list : Room := { frames := 2, cells := 0, slots := 0, locals := 43 }
set_option maxHeartbeats 4000000 in
set_option maxRecDepth 100000 in
theorem c_X6_list (l : Launch) (D : va_G) (G : Nat → ClassId) (base : Nat) (h h' : Hp) (x0 x1 x2 x3 : Int) (rv : Int) (i_x1 : inr x1) (i_x2 : inr x2) (i_x3 : inr x3) (hrun : f_X6_list h x0 x1 x2 x3 = some (rv, h')) : Met l yX6_list w_X6_list rm_X6_list (PC l D G base h [vr x0, vi x1, vi x2, vi x3]) (QR D G base (some (vi rv)) (inr rv) h') rm_X6_list.cells rm_X6_list.slots (Ab base) := by
  refine Met.ofW (cc := cX6_list) (maxL := 5) (ret := (some .int)) (by decide) rfl ?_
  intro p e s m args below meth c s₁ B hml hv
  obtain ⟨hargs, hE, hM⟩ := hv
  have hx := B.exec
  have hb := B.bytes
  have hr := B.returns
  have hts0 := atoms_spec (ws := w_X6_list) B.pre
  have hts : ∀ w ∈ BW, w.before args s = true := fun w hw => hts0 w (List.mem_cons_of_mem _ hw)
  have hown : s.vm.findClass RX6 = some m.cls := findClass_of_methodNamed B.named
  have hlocks := B.notSynchronized
  have j80 : ∀ (h : Hp) (s0 : Int) (H : Heap) (locs : List Loc) (ls : Array Slot), inr s0 → SM D G base h H → va_S (Ab base) s.heap H locs → lvh ls 5 [] → f_X6_list_j80 h s0 = some (rv, h') → W p l e (headSpec w_X6_list rm_X6_list).room s m args below meth c H locs 0 0 (QI D G base rv h' below args s 0 0) (F0 m 80 ls [vi s0]) := by
    intro h s0 H locs ls i_s0 hM hS hl hrun
    unfold f_X6_list_j80 at hrun
    exact s_iret hx hb hr hlocks hM hS i_s0 hrun (Nat.le_of_ble_eq_true rfl) (Nat.le_of_ble_eq_true rfl) dX6_list_80
  have j27 : ∀ (h : Hp) (x0 x1 x2 x3 s0 s1 : Int) (H : Heap) (locs : List Loc) (ls : Array Slot), inr x1 → inr x2 → inr x3 → inr s1 → SM D G base h H → va_S (Ab base) s.heap H locs → lvh ls 5 [(0, vr x0), (1, vi x1), (2, vi x2), (3, vi x3)] → f_X6_list_j27 h x0 x1 x2 x3 s0 s1 = some (rv, h') → W p l e (headSpec w_X6_list rm_X6_list).room s m args below meth c H locs 0 0 (QI D G base rv h' below args s 0 0) (F0 m 27 ls [vi s1, vr s0]) := by
    intro h x0 x1 x2 x3 s0 s1 H locs ls i_x1 i_x2 i_x3 i_s1 hM hS hl hrun
    unfold f_X6_list_j27 at hrun
    obtain ⟨u5, g5, hrun⟩ := bd hrun
    obtain ⟨r4, g4, hrun⟩ := bd hrun
    refine s_callV (n := 1) (rest := []) [vi s1] hx hb hml hown hts hE hM hS (c_X6_refused l D G base h r4.2 s0 s1 r4.1 i_s1 g4) kw_765 kw_762 kw_40 kw_764 kw_15 (by decide +kernel) ⟨Nat.le_of_ble_eq_true rfl, Nat.le_of_ble_eq_true rfl⟩ rfl rfl (by decide) g5 rfl hl.1.1 rfl (c8 c_0 (Nat.le_of_ble_eq_true rfl)) dX6_list_27 ⟨Nat.le_of_ble_eq_true rfl, Nat.le_of_ble_eq_true rfl⟩ (fun H locs i_r4 hM hS => ?_)
    refine W.eq (g2 := F0 m 30 ls [vi r4.1]) rfl ?_
    refine s_if_eq (tgt := 35) hx hb dX6_list_30 (by decide) i_r4 (fun cd => ?_) (fun cd => ?_)
    · replace hrun := it_pos cd hrun
      refine lv_iconst (v := Int32.ofInt 3) hx hb dX6_list_35 rfl ?_
      refine lv_iload_n hx hb dX6_list_36 rfl (la hl 1 rfl) ?_
      refine s_imul hx hb dX6_list_37 ?_
      refine lv_iload_n hx hb dX6_list_38 rfl (la hl 2 rfl) ?_
      refine s_iadd hx hb dX6_list_39 ?_
      refine t_istore (lv' := [(4, vi (wr ((wr (3 * x1)) + x2))), (0, vr x0), (1, vi x1), (2, vi x2), (3, vi x3)]) hx hb dX6_list_40 hl (by decide) rfl (fun ls hl => ?_)
      refine lv_iload_n hx hb dX6_list_42 rfl (la hl 4 rfl) ?_
      refine lv_iconst (v := Int32.ofInt 0) hx hb dX6_list_43 rfl ?_
      refine s_aload_n hx hb dX6_list_44 rfl (la hl 1 rfl) ?_
      obtain ⟨v6, g6, hrun⟩ := bd hrun
      refine s_getfr hx hb hts kl_6 hown hE.1 hM (ci := 6) rfl (by decide) rfl (k := 21) (by decide) rfl (hts _ kw_689) g6 dX6_list_45 ?_
      refine lv_iload hx hb dX6_list_48 (la hl 0 rfl) ?_
      obtain ⟨v7, g7, hrun⟩ := bd hrun
      refine s_iald hx hb hE.1 hM (inr_wr _) g7 dX6_list_50 ?_
      have i_v7 : inr v7 := ald_i hM g7 (by decide) (by decide)
      refine lv_iconst (v := Int32.ofInt 1) hx hb dX6_list_51 rfl ?_
      refine s_isub hx hb dX6_list_52 ?_
      obtain ⟨r8, g8, hrun⟩ := bd hrun
      refine s_callS (n := 3) (rest := []) [vi x3, vi 0, vi (wr (v7 - 1))] hx hb hml hown hts hE hM hS (c_X6_isIn l D G base r4.2 r8.2 x3 0 (wr (v7 - 1)) r8.1 i_x3 (by decide) (inr_wr _) g8) kw_761 kw_759 kw_40 kw_760 (by decide +kernel) ⟨Nat.le_of_ble_eq_true rfl, Nat.le_of_ble_eq_true rfl⟩ rfl hl.1.1 rfl (c8 c_0 (Nat.le_of_ble_eq_true rfl)) dX6_list_53 ⟨Nat.le_of_ble_eq_true rfl, Nat.le_of_ble_eq_true rfl⟩ (fun H locs i_r8 hM hS => ?_)
      refine W.eq (g2 := F0 m 56 ls [vi r8.1]) rfl ?_
      refine s_if_eq (tgt := 79) hx hb dX6_list_56 (by decide) i_r8 (fun cd => ?_) (fun cd => ?_)
      · replace hrun := it_pos cd hrun
        refine lv_iconst (v := Int32.ofInt (-1)) hx hb dX6_list_79 rfl ?_
        exact j80 r8.2 (-1) H locs ls (by decide) hM hS (lsub hl [] rfl) hrun
      · replace hrun := it_neg cd hrun
        refine lv_sipush (v := Int32.ofInt 1024) hx hb dX6_list_59 (by decide) ?_
        refine s_aload_n hx hb dX6_list_62 rfl (la hl 1 rfl) ?_
        obtain ⟨v9, g9, hrun⟩ := bd hrun
        refine s_getfr hx hb hts kl_6 hown hE.1 hM (ci := 6) rfl (by decide) rfl (k := 22) (by decide) rfl (hts _ kw_690) g9 dX6_list_63 ?_
        refine lv_sipush (v := Int32.ofInt 256) hx hb dX6_list_66 (by decide) ?_
        refine lv_iload hx hb dX6_list_69 (la hl 0 rfl) ?_
        refine s_imul hx hb dX6_list_71 ?_
        refine lv_iload_n hx hb dX6_list_72 rfl (la hl 4 rfl) ?_
        refine s_iadd hx hb dX6_list_73 ?_
        obtain ⟨v10, g10, hrun⟩ := bd hrun
        refine s_iald hx hb hE.1 hM (inr_wr _) g10 dX6_list_74 ?_
        have i_v10 : inr v10 := ald_i hM g10 (by decide) (by decide)
        refine s_imul hx hb dX6_list_75 ?_
        refine lv_goto (tgt := 80) hx hb dX6_list_76 (by decide) ?_
        exact j80 r8.2 (wr (1024 * v10)) H locs ls (inr_wr _) hM hS (lsub hl [] rfl) hrun
    · replace hrun := it_neg cd hrun
      refine lv_iconst (v := Int32.ofInt 0) hx hb dX6_list_33 rfl ?_
      exact s_iret hx hb hr hlocks hM hS (by decide) hrun (Nat.le_of_ble_eq_true rfl) (Nat.le_of_ble_eq_true rfl) dX6_list_34
  refine s_entry hargs hM (c_r (c_i (c_i (c_i c_0)))) (Nat.le_of_ble_eq_true rfl) (fun H locs ls hM hS hl => ?_)
  replace hl : lvh ls 5 [(0, vr x0), (1, vi x1), (2, vi x2), (3, vi x3)] := hl
  unfold f_X6_list at hrun
  refine s_aload_n hx hb dX6_list_0 rfl (la hl 0 rfl) ?_
  refine s_aload_n hx hb dX6_list_1 rfl (la hl 0 rfl) ?_
  refine lv_iload_n hx hb dX6_list_2 rfl (la hl 1 rfl) ?_
  obtain ⟨u2, g2, hrun⟩ := bd hrun
  obtain ⟨r1, g1, hrun⟩ := bd hrun
  refine s_callV (n := 1) (rest := [vr x0]) [vi x1] hx hb hml hown hts hE hM hS (c_X6_isCache l D G base h r1.2 x0 x1 r1.1 i_x1 g1) kw_773 kw_770 kw_40 kw_772 kw_16 (by decide +kernel) ⟨Nat.le_of_ble_eq_true rfl, Nat.le_of_ble_eq_true rfl⟩ rfl rfl (by decide) g2 rfl hl.1.1 rfl (c8 (c_r c_0) (Nat.le_of_ble_eq_true rfl)) dX6_list_3 ⟨Nat.le_of_ble_eq_true rfl, Nat.le_of_ble_eq_true rfl⟩ (fun H locs i_r1 hM hS => ?_)
  refine W.eq (g2 := F0 m 6 ls [vi r1.1, vr x0]) rfl ?_
  refine s_if_ne (tgt := 13) hx hb dX6_list_6 (by decide) i_r1 (fun cd => ?_) (fun cd => ?_)
  · replace hrun := it_pos cd hrun
    refine lv_iload_n hx hb dX6_list_13 rfl (la hl 2 rfl) ?_
    refine lv_iconst (v := Int32.ofInt 0) hx hb dX6_list_14 rfl ?_
    refine lv_iconst (v := Int32.ofInt 2) hx hb dX6_list_15 rfl ?_
    obtain ⟨r3, g3, hrun⟩ := bd hrun
    refine s_callS (n := 3) (rest := [vr x0]) [vi x2, vi 0, vi 2] hx hb hml hown hts hE hM hS (c_X6_isIn l D G base r1.2 r3.2 x2 0 2 r3.1 i_x2 (by decide) (by decide) g3) kw_761 kw_759 kw_40 kw_760 (by decide +kernel) ⟨Nat.le_of_ble_eq_true rfl, Nat.le_of_ble_eq_true rfl⟩ rfl hl.1.1 rfl (c8 (c_r c_0) (Nat.le_of_ble_eq_true rfl)) dX6_list_16 ⟨Nat.le_of_ble_eq_true rfl, Nat.le_of_ble_eq_true rfl⟩ (fun H locs i_r3 hM hS => ?_)
    refine W.eq (g2 := F0 m 19 ls [vi r3.1, vr x0]) rfl ?_
    refine s_if_ne (tgt := 26) hx hb dX6_list_19 (by decide) i_r3 (fun cd => ?_) (fun cd => ?_)
    · replace hrun := it_pos cd hrun
      refine lv_iconst (v := Int32.ofInt 0) hx hb dX6_list_26 rfl ?_
      exact j27 r3.2 x0 x1 x2 x3 x0 0 H locs ls i_x1 i_x2 i_x3 (by decide) hM hS (lsub hl [0, 1, 2, 3] rfl) hrun
    · replace hrun := it_neg cd hrun
      refine lv_iconst (v := Int32.ofInt 2) hx hb dX6_list_22 rfl ?_
      refine lv_goto (tgt := 27) hx hb dX6_list_23 (by decide) ?_
      exact j27 r3.2 x0 x1 x2 x3 x0 2 H locs ls i_x1 i_x2 i_x3 (by decide) hM hS (lsub hl [0, 1, 2, 3] rfl) hrun
  · replace hrun := it_neg cd hrun
    refine lv_iconst (v := Int32.ofInt 1) hx hb dX6_list_9 rfl ?_
    refine lv_goto (tgt := 27) hx hb dX6_list_10 (by decide) ?_
    exact j27 r1.2 x0 x1 x2 x3 x0 1 H locs ls i_x1 i_x2 i_x3 (by decide) hM hS (lsub hl [0, 1, 2, 3] rfl) hrun
def f_X6_slab_j74 (h : Hp) (s0 : Int) : Option (Int × Hp) :=
  some (s0, h)
def f_X6_slab_j138 (h : Hp) (s0 : Int) : Option (Int × Hp) :=
  some (s0, h)
def f_X6_slab_j116 (h : Hp) (x0 x3 x4 : Int) : Option (Int × Hp) :=
  Option.bind (gtf h 6 10 x0) fun v18 =>
  Option.bind (gtf h 6 14 x0) fun v19 =>
  Option.bind (ald h 8 v19 x3) fun v20 =>
  Option.bind (ald h 8 v18 v20) fun v21 =>
  if v21 ≤ x4 then (
    f_X6_slab_j138 h (-1)
  ) else (
    f_X6_slab_j138 h x4
  )
def f_X6_slab_s78 (k78 : Hp → Int → Int → Int → Option (Int × Hp)) (h : Hp) (x0 x3 x4 : Int) : Option (Int × Hp) :=
  Option.bind (gtf h 6 10 x0) fun v10 =>
  Option.bind (gtf h 6 14 x0) fun v11 =>
  Option.bind (ald h 8 v11 x3) fun v12 =>
  Option.bind (ald h 8 v10 v12) fun v13 =>
  if v13 ≤ x4 then (
    f_X6_slab_j116 h x0 x3 x4
  ) else (
    Option.bind (ckd h 6 x0) fun u15 =>
    Option.bind (f_X6_unitOf h x0 x3 x4) fun r14 =>
    Option.bind (gtf r14.2 6 17 x0) fun v16 =>
    Option.bind (ald r14.2 8 v16 x3) fun v17 =>
    if r14.1 = v17 then (
      f_X6_slab_j116 r14.2 x0 x3 x4
    ) else (
      k78 r14.2 x0 x3 (wr (x4 + 1))
    )
  )
def f_X6_slab_b78 : Nat → Hp → Int → Int → Int → Option (Int × Hp)
  | 0, _, _, _, _ => none
  | n + 1, h, x0, x3, x4 => f_X6_slab_s78 (f_X6_slab_b78 n) h x0 x3 x4
def f_X6_slab_j29 (h : Hp) (x0 x2 x3 s0 s1 : Int) : Option (Int × Hp) :=
  Option.bind (ckd h 6 s0) fun u5 =>
  Option.bind (f_X6_refused h s0 s1) fun r4 =>
  if r4.1 = 0 then (
    if 3 ≤ x2 then (
      f_X6_slab_b78 fuel r4.2 x0 x3 0
    ) else (
      if x2 ≠ 0 then (
        if x2 ≠ 1 then (
          Option.bind (gtf r4.2 6 16 x0) fun v6 =>
          Option.bind (ald r4.2 8 v6 x3) fun v7 =>
          f_X6_slab_j74 r4.2 v7
        ) else (
          Option.bind (gtf r4.2 6 15 x0) fun v8 =>
          Option.bind (ald r4.2 8 v8 x3) fun v9 =>
          f_X6_slab_j74 r4.2 v9
        )
      ) else (
        f_X6_slab_j74 r4.2 (wr (1024 * x3))
      )
    )
  ) else (
    some (0, r4.2)
  )
def f_X6_slab (h : Hp) (x0 x1 x2 : Int) : Option (Int × Hp) :=
  Option.bind (ckd h 6 x0) fun u2 =>
  Option.bind (f_X6_slabAt h x0 x1) fun r1 =>
  if 0 ≤ r1.1 then (
    Option.bind (f_X6_isIn r1.2 x2 0 3) fun r3 =>
    if r3.1 ≠ 0 then (
      f_X6_slab_j29 r3.2 x0 x2 r1.1 x0 0
    ) else (
      f_X6_slab_j29 r3.2 x0 x2 r1.1 x0 2
    )
  ) else (
    f_X6_slab_j29 r1.2 x0 x2 r1.1 x0 1
  )
abbrev w_X6_slab : List Cond := Cond.code yX6_slab cX6_slab 5 (some .int) :: BW
abbrev rm_X6_slab : Room := { frames := 2, cells := 0, slots := 0, locals := 43 }
set_option maxHeartbeats 4000000 in
set_option maxRecDepth 100000 in
theorem c_X6_slab (l : Launch) (D : va_G) (G : Nat → ClassId) (base : Nat) (h h' : Hp) (x0 x1 x2 : Int) (rv : Int) (i_x1 : inr x1) (i_x2 : inr x2) (hrun : f_X6_slab h x0 x1 x2 = some (rv, h')) : Met l yX6_slab w_X6_slab rm_X6_slab (PC l D G base h [vr x0, vi x1, vi x2]) (QR D G base (some (vi rv)) (inr rv) h') rm_X6_slab.cells rm_X6_slab.slots (Ab base) := by
  refine Met.ofW (cc := cX6_slab) (maxL := 5) (ret := (some .int)) (by decide) rfl ?_
  intro p e s m args below meth c s₁ B hml hv
  obtain ⟨hargs, hE, hM⟩ := hv
  have hx := B.exec
  have hb := B.bytes
  have hr := B.returns
  have hts0 := atoms_spec (ws := w_X6_slab) B.pre
  have hts : ∀ w ∈ BW, w.before args s = true := fun w hw => hts0 w (List.mem_cons_of_mem _ hw)
  have hown : s.vm.findClass RX6 = some m.cls := findClass_of_methodNamed B.named
  have hlocks := B.notSynchronized
  have j74 : ∀ (h : Hp) (s0 : Int) (H : Heap) (locs : List Loc) (ls : Array Slot), inr s0 → SM D G base h H → va_S (Ab base) s.heap H locs → lvh ls 5 [] → f_X6_slab_j74 h s0 = some (rv, h') → W p l e (headSpec w_X6_slab rm_X6_slab).room s m args below meth c H locs 0 0 (QI D G base rv h' below args s 0 0) (F0 m 74 ls [vi s0]) := by
    intro h s0 H locs ls i_s0 hM hS hl hrun
    unfold f_X6_slab_j74 at hrun
    exact s_iret hx hb hr hlocks hM hS i_s0 hrun (Nat.le_of_ble_eq_true rfl) (Nat.le_of_ble_eq_true rfl) dX6_slab_74
  have j138 : ∀ (h : Hp) (s0 : Int) (H : Heap) (locs : List Loc) (ls : Array Slot), inr s0 → SM D G base h H → va_S (Ab base) s.heap H locs → lvh ls 5 [] → f_X6_slab_j138 h s0 = some (rv, h') → W p l e (headSpec w_X6_slab rm_X6_slab).room s m args below meth c H locs 0 0 (QI D G base rv h' below args s 0 0) (F0 m 138 ls [vi s0]) := by
    intro h s0 H locs ls i_s0 hM hS hl hrun
    unfold f_X6_slab_j138 at hrun
    exact s_iret hx hb hr hlocks hM hS i_s0 hrun (Nat.le_of_ble_eq_true rfl) (Nat.le_of_ble_eq_true rfl) dX6_slab_138
  have j116 : ∀ (h : Hp) (x0 x3 x4 : Int) (H : Heap) (locs : List Loc) (ls : Array Slot), inr x3 → inr x4 → SM D G base h H → va_S (Ab base) s.heap H locs → lvh ls 5 [(0, vr x0), (3, vi x3), (4, vi x4)] → f_X6_slab_j116 h x0 x3 x4 = some (rv, h') → W p l e (headSpec w_X6_slab rm_X6_slab).room s m args below meth c H locs 0 0 (QI D G base rv h' below args s 0 0) (F0 m 116 ls []) := by
    intro h x0 x3 x4 H locs ls i_x3 i_x4 hM hS hl hrun
    unfold f_X6_slab_j116 at hrun
    refine lv_iload hx hb dX6_slab_116 (la hl 2 rfl) ?_
    refine s_aload_n hx hb dX6_slab_118 rfl (la hl 0 rfl) ?_
    obtain ⟨v18, g18, hrun⟩ := bd hrun
    refine s_getfr hx hb hts kl_6 hown hE.1 hM (ci := 6) rfl (by decide) rfl (k := 10) (by decide) rfl (hts _ kw_678) g18 dX6_slab_119 ?_
    refine s_aload_n hx hb dX6_slab_122 rfl (la hl 0 rfl) ?_
    obtain ⟨v19, g19, hrun⟩ := bd hrun
    refine s_getfr hx hb hts kl_6 hown hE.1 hM (ci := 6) rfl (by decide) rfl (k := 14) (by decide) rfl (hts _ kw_682) g19 dX6_slab_123 ?_
    refine lv_iload_n hx hb dX6_slab_126 rfl (la hl 1 rfl) ?_
    obtain ⟨v20, g20, hrun⟩ := bd hrun
    refine s_iald hx hb hE.1 hM i_x3 g20 dX6_slab_127 ?_
    have i_v20 : inr v20 := ald_i hM g20 (by decide) (by decide)
    obtain ⟨v21, g21, hrun⟩ := bd hrun
    refine s_iald hx hb hE.1 hM i_v20 g21 dX6_slab_128 ?_
    have i_v21 : inr v21 := ald_i hM g21 (by decide) (by decide)
    refine s_icmp_ge (tgt := 137) hx hb dX6_slab_129 (by decide) i_x4 i_v21 (fun cd => ?_) (fun cd => ?_)
    · replace hrun := it_pos cd hrun
      refine lv_iconst (v := Int32.ofInt (-1)) hx hb dX6_slab_137 rfl ?_
      exact j138 h (-1) H locs ls (by decide) hM hS (lsub hl [] rfl) hrun
    · replace hrun := it_neg cd hrun
      refine lv_iload hx hb dX6_slab_132 (la hl 2 rfl) ?_
      refine lv_goto (tgt := 138) hx hb dX6_slab_134 (by decide) ?_
      exact j138 h x4 H locs ls i_x4 hM hS (lsub hl [] rfl) hrun
  have lp78 : ∀ (n78 : Nat) (h : Hp) (x0 x3 x4 : Int) (H : Heap) (locs : List Loc) (ls : Array Slot), inr x3 → inr x4 → SM D G base h H → va_S (Ab base) s.heap H locs → lvh ls 5 [(0, vr x0), (3, vi x3), (4, vi x4)] → f_X6_slab_b78 n78 h x0 x3 x4 = some (rv, h') → W p l e (headSpec w_X6_slab rm_X6_slab).room s m args below meth c H locs 0 0 (QI D G base rv h' below args s 0 0) (F0 m 78 ls []) := by
    intro n78
    induction n78 with
    | zero => intro h x0 x3 x4 H locs ls i_x3 i_x4 hM hS hl hrun; exact absurd hrun (fun q => nomatch (show (none : Option (Int × Hp)) = some (rv, h') from q))
    | succ n78 ih78 =>
      intro h x0 x3 x4 H locs ls i_x3 i_x4 hM hS hl hrun
      replace hrun : f_X6_slab_s78 (f_X6_slab_b78 n78) h x0 x3 x4 = some (rv, h') := hrun
      unfold f_X6_slab_s78 at hrun
      refine lv_iload hx hb dX6_slab_78 (la hl 2 rfl) ?_
      refine s_aload_n hx hb dX6_slab_80 rfl (la hl 0 rfl) ?_
      obtain ⟨v10, g10, hrun⟩ := bd hrun
      refine s_getfr hx hb hts kl_6 hown hE.1 hM (ci := 6) rfl (by decide) rfl (k := 10) (by decide) rfl (hts _ kw_678) g10 dX6_slab_81 ?_
      refine s_aload_n hx hb dX6_slab_84 rfl (la hl 0 rfl) ?_
      obtain ⟨v11, g11, hrun⟩ := bd hrun
      refine s_getfr hx hb hts kl_6 hown hE.1 hM (ci := 6) rfl (by decide) rfl (k := 14) (by decide) rfl (hts _ kw_682) g11 dX6_slab_85 ?_
      refine lv_iload_n hx hb dX6_slab_88 rfl (la hl 1 rfl) ?_
      obtain ⟨v12, g12, hrun⟩ := bd hrun
      refine s_iald hx hb hE.1 hM i_x3 g12 dX6_slab_89 ?_
      have i_v12 : inr v12 := ald_i hM g12 (by decide) (by decide)
      obtain ⟨v13, g13, hrun⟩ := bd hrun
      refine s_iald hx hb hE.1 hM i_v12 g13 dX6_slab_90 ?_
      have i_v13 : inr v13 := ald_i hM g13 (by decide) (by decide)
      refine s_icmp_ge (tgt := 116) hx hb dX6_slab_91 (by decide) i_x4 i_v13 (fun cd => ?_) (fun cd => ?_)
      · replace hrun := it_pos cd hrun
        exact j116 h x0 x3 x4 H locs ls i_x3 i_x4 hM hS (lsub hl [0, 1, 2] rfl) hrun
      · replace hrun := it_neg cd hrun
        refine s_aload_n hx hb dX6_slab_94 rfl (la hl 0 rfl) ?_
        refine lv_iload_n hx hb dX6_slab_95 rfl (la hl 1 rfl) ?_
        refine lv_iload hx hb dX6_slab_96 (la hl 2 rfl) ?_
        obtain ⟨u15, g15, hrun⟩ := bd hrun
        obtain ⟨r14, g14, hrun⟩ := bd hrun
        refine s_callV (n := 2) (rest := []) [vi x3, vi x4] hx hb hml hown hts hE hM hS (c_X6_unitOf l D G base h r14.2 x0 x3 x4 r14.1 i_x3 i_x4 g14) kw_813 kw_810 kw_40 kw_812 kw_26 (by decide +kernel) ⟨Nat.le_of_ble_eq_true rfl, Nat.le_of_ble_eq_true rfl⟩ rfl rfl (by decide) g15 rfl hl.1.1 rfl (c8 c_0 (Nat.le_of_ble_eq_true rfl)) dX6_slab_98 ⟨Nat.le_of_ble_eq_true rfl, Nat.le_of_ble_eq_true rfl⟩ (fun H locs i_r14 hM hS => ?_)
        refine W.eq (g2 := F0 m 101 ls [vi r14.1]) rfl ?_
        refine s_aload_n hx hb dX6_slab_101 rfl (la hl 0 rfl) ?_
        obtain ⟨v16, g16, hrun⟩ := bd hrun
        refine s_getfr hx hb hts kl_6 hown hE.1 hM (ci := 6) rfl (by decide) rfl (k := 17) (by decide) rfl (hts _ kw_685) g16 dX6_slab_102 ?_
        refine lv_iload_n hx hb dX6_slab_105 rfl (la hl 1 rfl) ?_
        obtain ⟨v17, g17, hrun⟩ := bd hrun
        refine s_iald hx hb hE.1 hM i_x3 g17 dX6_slab_106 ?_
        have i_v17 : inr v17 := ald_i hM g17 (by decide) (by decide)
        refine s_icmp_eq (tgt := 116) hx hb dX6_slab_107 (by decide) i_r14 i_v17 (fun cd => ?_) (fun cd => ?_)
        · replace hrun := it_pos cd hrun
          exact j116 r14.2 x0 x3 x4 H locs ls i_x3 i_x4 hM hS (lsub hl [0, 1, 2] rfl) hrun
        · replace hrun := it_neg cd hrun
          refine t_iinc (lv' := [(4, vi (wr (x4 + 1))), (0, vr x0), (3, vi x3)]) hx hb dX6_slab_110 hl (k := 2) rfl (by decide) rfl rfl (fun ls hl => ?_)
          refine lv_goto (tgt := 78) hx hb dX6_slab_113 (by decide) ?_
          exact ih78 r14.2 x0 x3 (wr (x4 + 1)) H locs ls i_x3 (inr_wr _) hM hS (lsub hl [1, 2, 0] rfl) hrun
  have j29 : ∀ (h : Hp) (x0 x2 x3 s0 s1 : Int) (H : Heap) (locs : List Loc) (ls : Array Slot), inr x2 → inr x3 → inr s1 → SM D G base h H → va_S (Ab base) s.heap H locs → lvh ls 5 [(0, vr x0), (2, vi x2), (3, vi x3)] → f_X6_slab_j29 h x0 x2 x3 s0 s1 = some (rv, h') → W p l e (headSpec w_X6_slab rm_X6_slab).room s m args below meth c H locs 0 0 (QI D G base rv h' below args s 0 0) (F0 m 29 ls [vi s1, vr s0]) := by
    intro h x0 x2 x3 s0 s1 H locs ls i_x2 i_x3 i_s1 hM hS hl hrun
    unfold f_X6_slab_j29 at hrun
    obtain ⟨u5, g5, hrun⟩ := bd hrun
    obtain ⟨r4, g4, hrun⟩ := bd hrun
    refine s_callV (n := 1) (rest := []) [vi s1] hx hb hml hown hts hE hM hS (c_X6_refused l D G base h r4.2 s0 s1 r4.1 i_s1 g4) kw_765 kw_762 kw_40 kw_764 kw_15 (by decide +kernel) ⟨Nat.le_of_ble_eq_true rfl, Nat.le_of_ble_eq_true rfl⟩ rfl rfl (by decide) g5 rfl hl.1.1 rfl (c8 c_0 (Nat.le_of_ble_eq_true rfl)) dX6_slab_29 ⟨Nat.le_of_ble_eq_true rfl, Nat.le_of_ble_eq_true rfl⟩ (fun H locs i_r4 hM hS => ?_)
    refine W.eq (g2 := F0 m 32 ls [vi r4.1]) rfl ?_
    refine s_if_eq (tgt := 37) hx hb dX6_slab_32 (by decide) i_r4 (fun cd => ?_) (fun cd => ?_)
    · replace hrun := it_pos cd hrun
      refine lv_iload_n hx hb dX6_slab_37 rfl (la hl 1 rfl) ?_
      refine lv_iconst (v := Int32.ofInt 3) hx hb dX6_slab_38 rfl ?_
      refine s_icmp_ge (tgt := 75) hx hb dX6_slab_39 (by decide) i_x2 (by decide) (fun cd => ?_) (fun cd => ?_)
      · replace hrun := it_pos cd hrun
        refine lv_iconst (v := Int32.ofInt 0) hx hb dX6_slab_75 rfl ?_
        refine t_istore (lv' := [(4, vi 0), (0, vr x0), (2, vi x2), (3, vi x3)]) hx hb dX6_slab_76 hl (by decide) rfl (fun ls hl => ?_)
        exact lp78 fuel r4.2 x0 x3 0 H locs ls i_x3 (by decide) hM hS (lsub hl [1, 3, 0] rfl) hrun
      · replace hrun := it_neg cd hrun
        refine lv_iload_n hx hb dX6_slab_42 rfl (la hl 1 rfl) ?_
        refine s_if_ne (tgt := 54) hx hb dX6_slab_43 (by decide) i_x2 (fun cd => ?_) (fun cd => ?_)
        · replace hrun := it_pos cd hrun
          refine lv_iload_n hx hb dX6_slab_54 rfl (la hl 1 rfl) ?_
          refine lv_iconst (v := Int32.ofInt 1) hx hb dX6_slab_55 rfl ?_
          refine s_icmp_ne (tgt := 68) hx hb dX6_slab_56 (by decide) i_x2 (by decide) (fun cd => ?_) (fun cd => ?_)
          · replace hrun := it_pos cd hrun
            refine s_aload_n hx hb dX6_slab_68 rfl (la hl 0 rfl) ?_
            obtain ⟨v6, g6, hrun⟩ := bd hrun
            refine s_getfr hx hb hts kl_6 hown hE.1 hM (ci := 6) rfl (by decide) rfl (k := 16) (by decide) rfl (hts _ kw_684) g6 dX6_slab_69 ?_
            refine lv_iload_n hx hb dX6_slab_72 rfl (la hl 2 rfl) ?_
            obtain ⟨v7, g7, hrun⟩ := bd hrun
            refine s_iald hx hb hE.1 hM i_x3 g7 dX6_slab_73 ?_
            have i_v7 : inr v7 := ald_i hM g7 (by decide) (by decide)
            exact j74 r4.2 v7 H locs ls i_v7 hM hS (lsub hl [] rfl) hrun
          · replace hrun := it_neg cd hrun
            refine s_aload_n hx hb dX6_slab_59 rfl (la hl 0 rfl) ?_
            obtain ⟨v8, g8, hrun⟩ := bd hrun
            refine s_getfr hx hb hts kl_6 hown hE.1 hM (ci := 6) rfl (by decide) rfl (k := 15) (by decide) rfl (hts _ kw_683) g8 dX6_slab_60 ?_
            refine lv_iload_n hx hb dX6_slab_63 rfl (la hl 2 rfl) ?_
            obtain ⟨v9, g9, hrun⟩ := bd hrun
            refine s_iald hx hb hE.1 hM i_x3 g9 dX6_slab_64 ?_
            have i_v9 : inr v9 := ald_i hM g9 (by decide) (by decide)
            refine lv_goto (tgt := 74) hx hb dX6_slab_65 (by decide) ?_
            exact j74 r4.2 v9 H locs ls i_v9 hM hS (lsub hl [] rfl) hrun
        · replace hrun := it_neg cd hrun
          refine lv_sipush (v := Int32.ofInt 1024) hx hb dX6_slab_46 (by decide) ?_
          refine lv_iload_n hx hb dX6_slab_49 rfl (la hl 2 rfl) ?_
          refine s_imul hx hb dX6_slab_50 ?_
          refine lv_goto (tgt := 74) hx hb dX6_slab_51 (by decide) ?_
          exact j74 r4.2 (wr (1024 * x3)) H locs ls (inr_wr _) hM hS (lsub hl [] rfl) hrun
    · replace hrun := it_neg cd hrun
      refine lv_iconst (v := Int32.ofInt 0) hx hb dX6_slab_35 rfl ?_
      exact s_iret hx hb hr hlocks hM hS (by decide) hrun (Nat.le_of_ble_eq_true rfl) (Nat.le_of_ble_eq_true rfl) dX6_slab_36
  refine s_entry hargs hM (c_r (c_i (c_i c_0))) (Nat.le_of_ble_eq_true rfl) (fun H locs ls hM hS hl => ?_)
  replace hl : lvh ls 5 [(0, vr x0), (1, vi x1), (2, vi x2)] := hl
  unfold f_X6_slab at hrun
  refine s_aload_n hx hb dX6_slab_0 rfl (la hl 0 rfl) ?_
  refine lv_iload_n hx hb dX6_slab_1 rfl (la hl 1 rfl) ?_
  obtain ⟨u2, g2, hrun⟩ := bd hrun
  obtain ⟨r1, g1, hrun⟩ := bd hrun
  refine s_callV (n := 1) (rest := []) [vi x1] hx hb hml hown hts hE hM hS (c_X6_slabAt l D G base h r1.2 x0 x1 r1.1 i_x1 g1) kw_878 kw_875 kw_40 kw_877 kw_35 (by decide +kernel) ⟨Nat.le_of_ble_eq_true rfl, Nat.le_of_ble_eq_true rfl⟩ rfl rfl (by decide) g2 rfl hl.1.1 rfl (c8 c_0 (Nat.le_of_ble_eq_true rfl)) dX6_slab_2 ⟨Nat.le_of_ble_eq_true rfl, Nat.le_of_ble_eq_true rfl⟩ (fun H locs i_r1 hM hS => ?_)
  refine W.eq (g2 := F0 m 5 ls [vi r1.1]) rfl ?_
  refine t_istore_n (lv' := [(3, vi r1.1), (0, vr x0), (1, vi x1), (2, vi x2)]) hx hb dX6_slab_5 rfl hl (by decide) rfl (fun ls hl => ?_)
  refine s_aload_n hx hb dX6_slab_6 rfl (la hl 1 rfl) ?_
  refine lv_iload_n hx hb dX6_slab_7 rfl (la hl 0 rfl) ?_
  refine s_if_ge (tgt := 15) hx hb dX6_slab_8 (by decide) i_r1 (fun cd => ?_) (fun cd => ?_)
  · replace hrun := it_pos cd hrun
    refine lv_iload_n hx hb dX6_slab_15 rfl (la hl 3 rfl) ?_
    refine lv_iconst (v := Int32.ofInt 0) hx hb dX6_slab_16 rfl ?_
    refine lv_iconst (v := Int32.ofInt 3) hx hb dX6_slab_17 rfl ?_
    obtain ⟨r3, g3, hrun⟩ := bd hrun
    refine s_callS (n := 3) (rest := [vr x0]) [vi x2, vi 0, vi 3] hx hb hml hown hts hE hM hS (c_X6_isIn l D G base r1.2 r3.2 x2 0 3 r3.1 i_x2 (by decide) (by decide) g3) kw_761 kw_759 kw_40 kw_760 (by decide +kernel) ⟨Nat.le_of_ble_eq_true rfl, Nat.le_of_ble_eq_true rfl⟩ rfl hl.1.1 rfl (c8 (c_r c_0) (Nat.le_of_ble_eq_true rfl)) dX6_slab_18 ⟨Nat.le_of_ble_eq_true rfl, Nat.le_of_ble_eq_true rfl⟩ (fun H locs i_r3 hM hS => ?_)
    refine W.eq (g2 := F0 m 21 ls [vi r3.1, vr x0]) rfl ?_
    refine s_if_ne (tgt := 28) hx hb dX6_slab_21 (by decide) i_r3 (fun cd => ?_) (fun cd => ?_)
    · replace hrun := it_pos cd hrun
      refine lv_iconst (v := Int32.ofInt 0) hx hb dX6_slab_28 rfl ?_
      exact j29 r3.2 x0 x2 r1.1 x0 0 H locs ls i_x2 i_r1 (by decide) hM hS (lsub hl [1, 3, 0] rfl) hrun
    · replace hrun := it_neg cd hrun
      refine lv_iconst (v := Int32.ofInt 2) hx hb dX6_slab_24 rfl ?_
      refine lv_goto (tgt := 29) hx hb dX6_slab_25 (by decide) ?_
      exact j29 r3.2 x0 x2 r1.1 x0 2 H locs ls i_x2 i_r1 (by decide) hM hS (lsub hl [1, 3, 0] rfl) hrun
  · replace hrun := it_neg cd hrun
    refine lv_iconst (v := Int32.ofInt 1) hx hb dX6_slab_11 rfl ?_
    refine lv_goto (tgt := 29) hx hb dX6_slab_12 (by decide) ?_
    exact j29 r1.2 x0 x2 r1.1 x0 1 H locs ls i_x2 i_r1 (by decide) hM hS (lsub hl [1, 3, 0] rfl) hrun
def f_X6_magazine_j73 (h : Hp) (s0 : Int) : Option (Int × Hp) :=
  some (s0, h)
def f_X6_magazine_j36 (h : Hp) (x0 x1 x2 x3 s0 s1 : Int) : Option (Int × Hp) :=
  Option.bind (ckd h 6 s0) fun u6 =>
  Option.bind (f_X6_refused h s0 s1) fun r5 =>
  if r5.1 = 0 then (
    if x3 ≠ 2 then (
      Option.bind (gtf r5.2 6 23 x0) fun v7 =>
      Option.bind (ald r5.2 8 v7 (wr ((wr (2 * (wr ((wr (8 * x2)) + x1)))) + x3))) fun v8 =>
      f_X6_magazine_j73 r5.2 v8
    ) else (
      Option.bind (gtf r5.2 6 25 x0) fun v9 =>
      Option.bind (ald r5.2 8 v9 x1) fun v10 =>
      f_X6_magazine_j73 r5.2 v10
    )
  ) else (
    some (0, r5.2)
  )
def f_X6_magazine_j31 (h : Hp) (x0 x1 x2 x3 s0 : Int) : Option (Int × Hp) :=
  f_X6_magazine_j36 h x0 x1 x2 x3 s0 2
def f_X6_magazine (h : Hp) (x0 x1 x2 x3 : Int) : Option (Int × Hp) :=
  Option.bind (ckd h 6 x0) fun u2 =>
  Option.bind (f_X6_isCache h x0 x1) fun r1 =>
  if r1.1 ≠ 0 then (
    Option.bind (f_X6_isIn r1.2 x2 0 3) fun r3 =>
    if r3.1 = 0 then (
      f_X6_magazine_j31 r3.2 x0 x1 x2 x3 x0
    ) else (
      Option.bind (f_X6_isIn r3.2 x3 0 2) fun r4 =>
      if r4.1 ≠ 0 then (
        f_X6_magazine_j36 r4.2 x0 x1 x2 x3 x0 0
      ) else (
        f_X6_magazine_j31 r4.2 x0 x1 x2 x3 x0
      )
    )
  ) else (
    f_X6_magazine_j36 r1.2 x0 x1 x2 x3 x0 1
  )
abbrev w_X6_magazine : List Cond := Cond.code yX6_magazine cX6_magazine 4 (some .int) :: BW
abbrev rm_X6_magazine : Room := { frames := 2, cells := 0, slots := 0, locals := 43 }
set_option maxHeartbeats 4000000 in
set_option maxRecDepth 100000 in
theorem c_X6_magazine (l : Launch) (D : va_G) (G : Nat → ClassId) (base : Nat) (h h' : Hp) (x0 x1 x2 x3 : Int) (rv : Int) (i_x1 : inr x1) (i_x2 : inr x2) (i_x3 : inr x3) (hrun : f_X6_magazine h x0 x1 x2 x3 = some (rv, h')) : Met l yX6_magazine w_X6_magazine rm_X6_magazine (PC l D G base h [vr x0, vi x1, vi x2, vi x3]) (QR D G base (some (vi rv)) (inr rv) h') rm_X6_magazine.cells rm_X6_magazine.slots (Ab base) := by
  refine Met.ofW (cc := cX6_magazine) (maxL := 4) (ret := (some .int)) (by decide) rfl ?_
  intro p e s m args below meth c s₁ B hml hv
  obtain ⟨hargs, hE, hM⟩ := hv
  have hx := B.exec
  have hb := B.bytes
  have hr := B.returns
  have hts0 := atoms_spec (ws := w_X6_magazine) B.pre
  have hts : ∀ w ∈ BW, w.before args s = true := fun w hw => hts0 w (List.mem_cons_of_mem _ hw)
  have hown : s.vm.findClass RX6 = some m.cls := findClass_of_methodNamed B.named
  have hlocks := B.notSynchronized
  have j73 : ∀ (h : Hp) (s0 : Int) (H : Heap) (locs : List Loc) (ls : Array Slot), inr s0 → SM D G base h H → va_S (Ab base) s.heap H locs → lvh ls 4 [] → f_X6_magazine_j73 h s0 = some (rv, h') → W p l e (headSpec w_X6_magazine rm_X6_magazine).room s m args below meth c H locs 0 0 (QI D G base rv h' below args s 0 0) (F0 m 73 ls [vi s0]) := by
    intro h s0 H locs ls i_s0 hM hS hl hrun
    unfold f_X6_magazine_j73 at hrun
    exact s_iret hx hb hr hlocks hM hS i_s0 hrun (Nat.le_of_ble_eq_true rfl) (Nat.le_of_ble_eq_true rfl) dX6_magazine_73
  have j36 : ∀ (h : Hp) (x0 x1 x2 x3 s0 s1 : Int) (H : Heap) (locs : List Loc) (ls : Array Slot), inr x1 → inr x2 → inr x3 → inr s1 → SM D G base h H → va_S (Ab base) s.heap H locs → lvh ls 4 [(0, vr x0), (1, vi x1), (2, vi x2), (3, vi x3)] → f_X6_magazine_j36 h x0 x1 x2 x3 s0 s1 = some (rv, h') → W p l e (headSpec w_X6_magazine rm_X6_magazine).room s m args below meth c H locs 0 0 (QI D G base rv h' below args s 0 0) (F0 m 36 ls [vi s1, vr s0]) := by
    intro h x0 x1 x2 x3 s0 s1 H locs ls i_x1 i_x2 i_x3 i_s1 hM hS hl hrun
    unfold f_X6_magazine_j36 at hrun
    obtain ⟨u6, g6, hrun⟩ := bd hrun
    obtain ⟨r5, g5, hrun⟩ := bd hrun
    refine s_callV (n := 1) (rest := []) [vi s1] hx hb hml hown hts hE hM hS (c_X6_refused l D G base h r5.2 s0 s1 r5.1 i_s1 g5) kw_765 kw_762 kw_40 kw_764 kw_15 (by decide +kernel) ⟨Nat.le_of_ble_eq_true rfl, Nat.le_of_ble_eq_true rfl⟩ rfl rfl (by decide) g6 rfl hl.1.1 rfl (c8 c_0 (Nat.le_of_ble_eq_true rfl)) dX6_magazine_36 ⟨Nat.le_of_ble_eq_true rfl, Nat.le_of_ble_eq_true rfl⟩ (fun H locs i_r5 hM hS => ?_)
    refine W.eq (g2 := F0 m 39 ls [vi r5.1]) rfl ?_
    refine s_if_eq (tgt := 44) hx hb dX6_magazine_39 (by decide) i_r5 (fun cd => ?_) (fun cd => ?_)
    · replace hrun := it_pos cd hrun
      refine lv_iload_n hx hb dX6_magazine_44 rfl (la hl 3 rfl) ?_
      refine lv_iconst (v := Int32.ofInt 2) hx hb dX6_magazine_45 rfl ?_
      refine s_icmp_ne (tgt := 58) hx hb dX6_magazine_46 (by decide) i_x3 (by decide) (fun cd => ?_) (fun cd => ?_)
      · replace hrun := it_pos cd hrun
        refine s_aload_n hx hb dX6_magazine_58 rfl (la hl 0 rfl) ?_
        obtain ⟨v7, g7, hrun⟩ := bd hrun
        refine s_getfr hx hb hts kl_6 hown hE.1 hM (ci := 6) rfl (by decide) rfl (k := 23) (by decide) rfl (hts _ kw_691) g7 dX6_magazine_59 ?_
        refine lv_iconst (v := Int32.ofInt 2) hx hb dX6_magazine_62 rfl ?_
        refine lv_bipush (v := Int32.ofInt 8) hx hb dX6_magazine_63 (by decide) ?_
        refine lv_iload_n hx hb dX6_magazine_65 rfl (la hl 2 rfl) ?_
        refine s_imul hx hb dX6_magazine_66 ?_
        refine lv_iload_n hx hb dX6_magazine_67 rfl (la hl 1 rfl) ?_
        refine s_iadd hx hb dX6_magazine_68 ?_
        refine s_imul hx hb dX6_magazine_69 ?_
        refine lv_iload_n hx hb dX6_magazine_70 rfl (la hl 3 rfl) ?_
        refine s_iadd hx hb dX6_magazine_71 ?_
        obtain ⟨v8, g8, hrun⟩ := bd hrun
        refine s_iald hx hb hE.1 hM (inr_wr _) g8 dX6_magazine_72 ?_
        have i_v8 : inr v8 := ald_i hM g8 (by decide) (by decide)
        exact j73 r5.2 v8 H locs ls i_v8 hM hS (lsub hl [] rfl) hrun
      · replace hrun := it_neg cd hrun
        refine s_aload_n hx hb dX6_magazine_49 rfl (la hl 0 rfl) ?_
        obtain ⟨v9, g9, hrun⟩ := bd hrun
        refine s_getfr hx hb hts kl_6 hown hE.1 hM (ci := 6) rfl (by decide) rfl (k := 25) (by decide) rfl (hts _ kw_693) g9 dX6_magazine_50 ?_
        refine lv_iload_n hx hb dX6_magazine_53 rfl (la hl 1 rfl) ?_
        obtain ⟨v10, g10, hrun⟩ := bd hrun
        refine s_iald hx hb hE.1 hM i_x1 g10 dX6_magazine_54 ?_
        have i_v10 : inr v10 := ald_i hM g10 (by decide) (by decide)
        refine lv_goto (tgt := 73) hx hb dX6_magazine_55 (by decide) ?_
        exact j73 r5.2 v10 H locs ls i_v10 hM hS (lsub hl [] rfl) hrun
    · replace hrun := it_neg cd hrun
      refine lv_iconst (v := Int32.ofInt 0) hx hb dX6_magazine_42 rfl ?_
      exact s_iret hx hb hr hlocks hM hS (by decide) hrun (Nat.le_of_ble_eq_true rfl) (Nat.le_of_ble_eq_true rfl) dX6_magazine_43
  have j31 : ∀ (h : Hp) (x0 x1 x2 x3 s0 : Int) (H : Heap) (locs : List Loc) (ls : Array Slot), inr x1 → inr x2 → inr x3 → SM D G base h H → va_S (Ab base) s.heap H locs → lvh ls 4 [(0, vr x0), (1, vi x1), (2, vi x2), (3, vi x3)] → f_X6_magazine_j31 h x0 x1 x2 x3 s0 = some (rv, h') → W p l e (headSpec w_X6_magazine rm_X6_magazine).room s m args below meth c H locs 0 0 (QI D G base rv h' below args s 0 0) (F0 m 31 ls [vr s0]) := by
    intro h x0 x1 x2 x3 s0 H locs ls i_x1 i_x2 i_x3 hM hS hl hrun
    unfold f_X6_magazine_j31 at hrun
    refine lv_iconst (v := Int32.ofInt 2) hx hb dX6_magazine_31 rfl ?_
    refine lv_goto (tgt := 36) hx hb dX6_magazine_32 (by decide) ?_
    exact j36 h x0 x1 x2 x3 s0 2 H locs ls i_x1 i_x2 i_x3 (by decide) hM hS (lsub hl [0, 1, 2, 3] rfl) hrun
  refine s_entry hargs hM (c_r (c_i (c_i (c_i c_0)))) (Nat.le_of_ble_eq_true rfl) (fun H locs ls hM hS hl => ?_)
  replace hl : lvh ls 4 [(0, vr x0), (1, vi x1), (2, vi x2), (3, vi x3)] := hl
  unfold f_X6_magazine at hrun
  refine s_aload_n hx hb dX6_magazine_0 rfl (la hl 0 rfl) ?_
  refine s_aload_n hx hb dX6_magazine_1 rfl (la hl 0 rfl) ?_
  refine lv_iload_n hx hb dX6_magazine_2 rfl (la hl 1 rfl) ?_
  obtain ⟨u2, g2, hrun⟩ := bd hrun
  obtain ⟨r1, g1, hrun⟩ := bd hrun
  refine s_callV (n := 1) (rest := [vr x0]) [vi x1] hx hb hml hown hts hE hM hS (c_X6_isCache l D G base h r1.2 x0 x1 r1.1 i_x1 g1) kw_773 kw_770 kw_40 kw_772 kw_16 (by decide +kernel) ⟨Nat.le_of_ble_eq_true rfl, Nat.le_of_ble_eq_true rfl⟩ rfl rfl (by decide) g2 rfl hl.1.1 rfl (c8 (c_r c_0) (Nat.le_of_ble_eq_true rfl)) dX6_magazine_3 ⟨Nat.le_of_ble_eq_true rfl, Nat.le_of_ble_eq_true rfl⟩ (fun H locs i_r1 hM hS => ?_)
  refine W.eq (g2 := F0 m 6 ls [vi r1.1, vr x0]) rfl ?_
  refine s_if_ne (tgt := 13) hx hb dX6_magazine_6 (by decide) i_r1 (fun cd => ?_) (fun cd => ?_)
  · replace hrun := it_pos cd hrun
    refine lv_iload_n hx hb dX6_magazine_13 rfl (la hl 2 rfl) ?_
    refine lv_iconst (v := Int32.ofInt 0) hx hb dX6_magazine_14 rfl ?_
    refine lv_iconst (v := Int32.ofInt 3) hx hb dX6_magazine_15 rfl ?_
    obtain ⟨r3, g3, hrun⟩ := bd hrun
    refine s_callS (n := 3) (rest := [vr x0]) [vi x2, vi 0, vi 3] hx hb hml hown hts hE hM hS (c_X6_isIn l D G base r1.2 r3.2 x2 0 3 r3.1 i_x2 (by decide) (by decide) g3) kw_761 kw_759 kw_40 kw_760 (by decide +kernel) ⟨Nat.le_of_ble_eq_true rfl, Nat.le_of_ble_eq_true rfl⟩ rfl hl.1.1 rfl (c8 (c_r c_0) (Nat.le_of_ble_eq_true rfl)) dX6_magazine_16 ⟨Nat.le_of_ble_eq_true rfl, Nat.le_of_ble_eq_true rfl⟩ (fun H locs i_r3 hM hS => ?_)
    refine W.eq (g2 := F0 m 19 ls [vi r3.1, vr x0]) rfl ?_
    refine s_if_eq (tgt := 31) hx hb dX6_magazine_19 (by decide) i_r3 (fun cd => ?_) (fun cd => ?_)
    · replace hrun := it_pos cd hrun
      exact j31 r3.2 x0 x1 x2 x3 x0 H locs ls i_x1 i_x2 i_x3 hM hS (lsub hl [0, 1, 2, 3] rfl) hrun
    · replace hrun := it_neg cd hrun
      refine lv_iload_n hx hb dX6_magazine_22 rfl (la hl 3 rfl) ?_
      refine lv_iconst (v := Int32.ofInt 0) hx hb dX6_magazine_23 rfl ?_
      refine lv_iconst (v := Int32.ofInt 2) hx hb dX6_magazine_24 rfl ?_
      obtain ⟨r4, g4, hrun⟩ := bd hrun
      refine s_callS (n := 3) (rest := [vr x0]) [vi x3, vi 0, vi 2] hx hb hml hown hts hE hM hS (c_X6_isIn l D G base r3.2 r4.2 x3 0 2 r4.1 i_x3 (by decide) (by decide) g4) kw_761 kw_759 kw_40 kw_760 (by decide +kernel) ⟨Nat.le_of_ble_eq_true rfl, Nat.le_of_ble_eq_true rfl⟩ rfl hl.1.1 rfl (c8 (c_r c_0) (Nat.le_of_ble_eq_true rfl)) dX6_magazine_25 ⟨Nat.le_of_ble_eq_true rfl, Nat.le_of_ble_eq_true rfl⟩ (fun H locs i_r4 hM hS => ?_)
      refine W.eq (g2 := F0 m 28 ls [vi r4.1, vr x0]) rfl ?_
      refine s_if_ne (tgt := 35) hx hb dX6_magazine_28 (by decide) i_r4 (fun cd => ?_) (fun cd => ?_)
      · replace hrun := it_pos cd hrun
        refine lv_iconst (v := Int32.ofInt 0) hx hb dX6_magazine_35 rfl ?_
        exact j36 r4.2 x0 x1 x2 x3 x0 0 H locs ls i_x1 i_x2 i_x3 (by decide) hM hS (lsub hl [0, 1, 2, 3] rfl) hrun
      · replace hrun := it_neg cd hrun
        exact j31 r4.2 x0 x1 x2 x3 x0 H locs ls i_x1 i_x2 i_x3 hM hS (lsub hl [0, 1, 2, 3] rfl) hrun
  · replace hrun := it_neg cd hrun
    refine lv_iconst (v := Int32.ofInt 1) hx hb dX6_magazine_9 rfl ?_
    refine lv_goto (tgt := 36) hx hb dX6_magazine_10 (by decide) ?_
    exact j36 r1.2 x0 x1 x2 x3 x0 1 H locs ls i_x1 i_x2 i_x3 (by decide) hM hS (lsub hl [0, 1, 2, 3] rfl) hrun
def f_X6_block_j59 (k29 : Hp → Int → Int → Int → Int → Int → Option (Int × Hp)) (h : Hp) (x0 x1 x2 x3 x4 : Int) : Option (Int × Hp) :=
  k29 h x0 x1 x2 x3 (wr (x4 + 1))
def f_X6_block_s29 (k29 : Hp → Int → Int → Int → Int → Int → Option (Int × Hp)) (h : Hp) (x0 x1 x2 x3 x4 : Int) : Option (Int × Hp) :=
  if 256 ≤ x4 then (
    some ((-1), h)
  ) else (
    Option.bind (gtf h 6 1 x0) fun v4 =>
    Option.bind (ald h 8 v4 x4) fun v5 =>
    if v5 ≠ x1 then (
      f_X6_block_j59 k29 h x0 x1 x2 x3 x4
    ) else (
      if x3 ≠ x2 then (
        f_X6_block_j59 k29 h x0 x1 x2 (wr (x3 + 1)) x4
      ) else (
        some (x4, h)
      )
    )
  )
def f_X6_block_b29 : Nat → Hp → Int → Int → Int → Int → Int → Option (Int × Hp)
  | 0, _, _, _, _, _, _ => none
  | n + 1, h, x0, x1, x2, x3, x4 => f_X6_block_s29 (f_X6_block_b29 n) h x0 x1 x2 x3 x4
def f_X6_block_j16 (h : Hp) (x0 x1 x2 s0 s1 : Int) : Option (Int × Hp) :=
  Option.bind (ckd h 6 s0) fun u3 =>
  Option.bind (f_X6_refused h s0 s1) fun r2 =>
  if r2.1 = 0 then (
    f_X6_block_b29 fuel r2.2 x0 x1 x2 0 0
  ) else (
    some (0, r2.2)
  )
def f_X6_block (h : Hp) (x0 x1 x2 : Int) : Option (Int × Hp) :=
  Option.bind (f_X6_isIn h x1 0 6) fun r1 =>
  if r1.1 = 0 then (
    f_X6_block_j16 r1.2 x0 x1 x2 x0 1
  ) else (
    f_X6_block_j16 r1.2 x0 x1 x2 x0 0
  )
abbrev w_X6_block : List Cond := Cond.code yX6_block cX6_block 5 (some .int) :: BW
abbrev rm_X6_block : Room := { frames := 1, cells := 0, slots := 0, locals := 22 }
set_option maxHeartbeats 4000000 in
set_option maxRecDepth 100000 in
theorem c_X6_block (l : Launch) (D : va_G) (G : Nat → ClassId) (base : Nat) (h h' : Hp) (x0 x1 x2 : Int) (rv : Int) (i_x1 : inr x1) (i_x2 : inr x2) (hrun : f_X6_block h x0 x1 x2 = some (rv, h')) : Met l yX6_block w_X6_block rm_X6_block (PC l D G base h [vr x0, vi x1, vi x2]) (QR D G base (some (vi rv)) (inr rv) h') rm_X6_block.cells rm_X6_block.slots (Ab base) := by
  refine Met.ofW (cc := cX6_block) (maxL := 5) (ret := (some .int)) (by decide) rfl ?_
  intro p e s m args below meth c s₁ B hml hv
  obtain ⟨hargs, hE, hM⟩ := hv
  have hx := B.exec
  have hb := B.bytes
  have hr := B.returns
  have hts0 := atoms_spec (ws := w_X6_block) B.pre
  have hts : ∀ w ∈ BW, w.before args s = true := fun w hw => hts0 w (List.mem_cons_of_mem _ hw)
  have hown : s.vm.findClass RX6 = some m.cls := findClass_of_methodNamed B.named
  have hlocks := B.notSynchronized
  have lp29 : ∀ (n29 : Nat) (h : Hp) (x0 x1 x2 x3 x4 : Int) (H : Heap) (locs : List Loc) (ls : Array Slot), inr x1 → inr x2 → inr x3 → inr x4 → SM D G base h H → va_S (Ab base) s.heap H locs → lvh ls 5 [(0, vr x0), (1, vi x1), (2, vi x2), (3, vi x3), (4, vi x4)] → f_X6_block_b29 n29 h x0 x1 x2 x3 x4 = some (rv, h') → W p l e (headSpec w_X6_block rm_X6_block).room s m args below meth c H locs 0 0 (QI D G base rv h' below args s 0 0) (F0 m 29 ls []) := by
    intro n29
    induction n29 with
    | zero => intro h x0 x1 x2 x3 x4 H locs ls i_x1 i_x2 i_x3 i_x4 hM hS hl hrun; exact absurd hrun (fun q => nomatch (show (none : Option (Int × Hp)) = some (rv, h') from q))
    | succ n29 ih29 =>
      have j59 : ∀ (h : Hp) (x0 x1 x2 x3 x4 : Int) (H : Heap) (locs : List Loc) (ls : Array Slot), inr x1 → inr x2 → inr x3 → inr x4 → SM D G base h H → va_S (Ab base) s.heap H locs → lvh ls 5 [(0, vr x0), (1, vi x1), (2, vi x2), (3, vi x3), (4, vi x4)] → f_X6_block_j59 (f_X6_block_b29 n29) h x0 x1 x2 x3 x4 = some (rv, h') → W p l e (headSpec w_X6_block rm_X6_block).room s m args below meth c H locs 0 0 (QI D G base rv h' below args s 0 0) (F0 m 59 ls []) := by
        intro h x0 x1 x2 x3 x4 H locs ls i_x1 i_x2 i_x3 i_x4 hM hS hl hrun
        unfold f_X6_block_j59 at hrun
        refine t_iinc (lv' := [(4, vi (wr (x4 + 1))), (0, vr x0), (1, vi x1), (2, vi x2), (3, vi x3)]) hx hb dX6_block_59 hl (k := 4) rfl (by decide) rfl rfl (fun ls hl => ?_)
        refine lv_goto (tgt := 29) hx hb dX6_block_62 (by decide) ?_
        exact ih29 h x0 x1 x2 x3 (wr (x4 + 1)) H locs ls i_x1 i_x2 i_x3 (inr_wr _) hM hS (lsub hl [1, 2, 3, 4, 0] rfl) hrun
      intro h x0 x1 x2 x3 x4 H locs ls i_x1 i_x2 i_x3 i_x4 hM hS hl hrun
      replace hrun : f_X6_block_s29 (f_X6_block_b29 n29) h x0 x1 x2 x3 x4 = some (rv, h') := hrun
      unfold f_X6_block_s29 at hrun
      refine lv_iload hx hb dX6_block_29 (la hl 4 rfl) ?_
      refine lv_sipush (v := Int32.ofInt 256) hx hb dX6_block_31 (by decide) ?_
      refine s_icmp_ge (tgt := 65) hx hb dX6_block_34 (by decide) i_x4 (by decide) (fun cd => ?_) (fun cd => ?_)
      · replace hrun := it_pos cd hrun
        refine lv_iconst (v := Int32.ofInt (-1)) hx hb dX6_block_65 rfl ?_
        exact s_iret hx hb hr hlocks hM hS (by decide) hrun (Nat.le_of_ble_eq_true rfl) (Nat.le_of_ble_eq_true rfl) dX6_block_66
      · replace hrun := it_neg cd hrun
        refine s_aload_n hx hb dX6_block_37 rfl (la hl 0 rfl) ?_
        obtain ⟨v4, g4, hrun⟩ := bd hrun
        refine s_getfr hx hb hts kl_6 hown hE.1 hM (ci := 6) rfl (by decide) rfl (k := 1) (by decide) rfl (hts _ kw_669) g4 dX6_block_38 ?_
        refine lv_iload hx hb dX6_block_41 (la hl 4 rfl) ?_
        obtain ⟨v5, g5, hrun⟩ := bd hrun
        refine s_iald hx hb hE.1 hM i_x4 g5 dX6_block_43 ?_
        have i_v5 : inr v5 := ald_i hM g5 (by decide) (by decide)
        refine lv_iload_n hx hb dX6_block_44 rfl (la hl 1 rfl) ?_
        refine s_icmp_ne (tgt := 59) hx hb dX6_block_45 (by decide) i_v5 i_x1 (fun cd => ?_) (fun cd => ?_)
        · replace hrun := it_pos cd hrun
          exact j59 h x0 x1 x2 x3 x4 H locs ls i_x1 i_x2 i_x3 i_x4 hM hS (lsub hl [0, 1, 2, 3, 4] rfl) hrun
        · replace hrun := it_neg cd hrun
          refine lv_iload_n hx hb dX6_block_48 rfl (la hl 3 rfl) ?_
          refine lv_iload_n hx hb dX6_block_49 rfl (la hl 2 rfl) ?_
          refine s_icmp_ne (tgt := 56) hx hb dX6_block_50 (by decide) i_x3 i_x2 (fun cd => ?_) (fun cd => ?_)
          · replace hrun := it_pos cd hrun
            refine t_iinc (lv' := [(3, vi (wr (x3 + 1))), (0, vr x0), (1, vi x1), (2, vi x2), (4, vi x4)]) hx hb dX6_block_56 hl (k := 3) rfl (by decide) rfl rfl (fun ls hl => ?_)
            exact j59 h x0 x1 x2 (wr (x3 + 1)) x4 H locs ls i_x1 i_x2 (inr_wr _) i_x4 hM hS (lsub hl [1, 2, 3, 0, 4] rfl) hrun
          · replace hrun := it_neg cd hrun
            refine lv_iload hx hb dX6_block_53 (la hl 4 rfl) ?_
            exact s_iret hx hb hr hlocks hM hS i_x4 hrun (Nat.le_of_ble_eq_true rfl) (Nat.le_of_ble_eq_true rfl) dX6_block_55
  have j16 : ∀ (h : Hp) (x0 x1 x2 s0 s1 : Int) (H : Heap) (locs : List Loc) (ls : Array Slot), inr x1 → inr x2 → inr s1 → SM D G base h H → va_S (Ab base) s.heap H locs → lvh ls 5 [(0, vr x0), (1, vi x1), (2, vi x2)] → f_X6_block_j16 h x0 x1 x2 s0 s1 = some (rv, h') → W p l e (headSpec w_X6_block rm_X6_block).room s m args below meth c H locs 0 0 (QI D G base rv h' below args s 0 0) (F0 m 16 ls [vi s1, vr s0]) := by
    intro h x0 x1 x2 s0 s1 H locs ls i_x1 i_x2 i_s1 hM hS hl hrun
    unfold f_X6_block_j16 at hrun
    obtain ⟨u3, g3, hrun⟩ := bd hrun
    obtain ⟨r2, g2, hrun⟩ := bd hrun
    refine s_callV (n := 1) (rest := []) [vi s1] hx hb hml hown hts hE hM hS (c_X6_refused l D G base h r2.2 s0 s1 r2.1 i_s1 g2) kw_765 kw_762 kw_40 kw_764 kw_15 (by decide +kernel) ⟨Nat.le_of_ble_eq_true rfl, Nat.le_of_ble_eq_true rfl⟩ rfl rfl (by decide) g3 rfl hl.1.1 rfl (c8 c_0 (Nat.le_of_ble_eq_true rfl)) dX6_block_16 ⟨Nat.le_of_ble_eq_true rfl, Nat.le_of_ble_eq_true rfl⟩ (fun H locs i_r2 hM hS => ?_)
    refine W.eq (g2 := F0 m 19 ls [vi r2.1]) rfl ?_
    refine s_if_eq (tgt := 24) hx hb dX6_block_19 (by decide) i_r2 (fun cd => ?_) (fun cd => ?_)
    · replace hrun := it_pos cd hrun
      refine lv_iconst (v := Int32.ofInt 0) hx hb dX6_block_24 rfl ?_
      refine t_istore_n (lv' := [(3, vi 0), (0, vr x0), (1, vi x1), (2, vi x2)]) hx hb dX6_block_25 rfl hl (by decide) rfl (fun ls hl => ?_)
      refine lv_iconst (v := Int32.ofInt 0) hx hb dX6_block_26 rfl ?_
      refine t_istore (lv' := [(4, vi 0), (3, vi 0), (0, vr x0), (1, vi x1), (2, vi x2)]) hx hb dX6_block_27 hl (by decide) rfl (fun ls hl => ?_)
      exact lp29 fuel r2.2 x0 x1 x2 0 0 H locs ls i_x1 i_x2 (by decide) (by decide) hM hS (lsub hl [2, 3, 4, 1, 0] rfl) hrun
    · replace hrun := it_neg cd hrun
      refine lv_iconst (v := Int32.ofInt 0) hx hb dX6_block_22 rfl ?_
      exact s_iret hx hb hr hlocks hM hS (by decide) hrun (Nat.le_of_ble_eq_true rfl) (Nat.le_of_ble_eq_true rfl) dX6_block_23
  refine s_entry hargs hM (c_r (c_i (c_i c_0))) (Nat.le_of_ble_eq_true rfl) (fun H locs ls hM hS hl => ?_)
  replace hl : lvh ls 5 [(0, vr x0), (1, vi x1), (2, vi x2)] := hl
  unfold f_X6_block at hrun
  refine s_aload_n hx hb dX6_block_0 rfl (la hl 0 rfl) ?_
  refine lv_iload_n hx hb dX6_block_1 rfl (la hl 1 rfl) ?_
  refine lv_iconst (v := Int32.ofInt 0) hx hb dX6_block_2 rfl ?_
  refine lv_bipush (v := Int32.ofInt 6) hx hb dX6_block_3 (by decide) ?_
  obtain ⟨r1, g1, hrun⟩ := bd hrun
  refine s_callS (n := 3) (rest := [vr x0]) [vi x1, vi 0, vi 6] hx hb hml hown hts hE hM hS (c_X6_isIn l D G base h r1.2 x1 0 6 r1.1 i_x1 (by decide) (by decide) g1) kw_761 kw_759 kw_40 kw_760 (by decide +kernel) ⟨Nat.le_of_ble_eq_true rfl, Nat.le_of_ble_eq_true rfl⟩ rfl hl.1.1 rfl (c8 (c_r c_0) (Nat.le_of_ble_eq_true rfl)) dX6_block_5 ⟨Nat.le_of_ble_eq_true rfl, Nat.le_of_ble_eq_true rfl⟩ (fun H locs i_r1 hM hS => ?_)
  refine W.eq (g2 := F0 m 8 ls [vi r1.1, vr x0]) rfl ?_
  refine s_if_eq (tgt := 15) hx hb dX6_block_8 (by decide) i_r1 (fun cd => ?_) (fun cd => ?_)
  · replace hrun := it_pos cd hrun
    refine lv_iconst (v := Int32.ofInt 1) hx hb dX6_block_15 rfl ?_
    exact j16 r1.2 x0 x1 x2 x0 1 H locs ls i_x1 i_x2 (by decide) hM hS (lsub hl [0, 1, 2] rfl) hrun
  · replace hrun := it_neg cd hrun
    refine lv_iconst (v := Int32.ofInt 0) hx hb dX6_block_11 rfl ?_
    refine lv_goto (tgt := 16) hx hb dX6_block_12 (by decide) ?_
    exact j16 r1.2 x0 x1 x2 x0 0 H locs ls i_x1 i_x2 (by decide) hM hS (lsub hl [0, 1, 2] rfl) hrun
def f_X6_pages_j32 (k9 : Hp → Int → Int → Int → Int → Option (Int × Hp)) (h : Hp) (x0 x1 x3 s0 : Int) : Option (Int × Hp) :=
  k9 h x0 x1 s0 (wr (x3 + 1))
def f_X6_pages_j61 (h : Hp) (s0 : Int) : Option (Int × Hp) :=
  some (s0, h)
def f_X6_pages_s9 (k9 : Hp → Int → Int → Int → Int → Option (Int × Hp)) (h : Hp) (x0 x1 x2 x3 : Int) : Option (Int × Hp) :=
  if 256 ≤ x3 then (
    if x1 ≠ 0 then (
      if x1 ≠ 1 then (
        f_X6_pages_j61 h (-1)
      ) else (
        f_X6_pages_j61 h x2
      )
    ) else (
      f_X6_pages_j61 h (wr (256 - x2))
    )
  ) else (
    Option.bind (gtf h 6 2 x0) fun v2 =>
    Option.bind (ald h 8 v2 x3) fun v3 =>
    if v3 < 0 then (
      f_X6_pages_j32 k9 h x0 x1 x3 x2
    ) else (
      f_X6_pages_j32 k9 h x0 x1 x3 (wr (x2 + 1))
    )
  )
def f_X6_pages_b9 : Nat → Hp → Int → Int → Int → Int → Option (Int × Hp)
  | 0, _, _, _, _, _ => none
  | n + 1, h, x0, x1, x2, x3 => f_X6_pages_s9 (f_X6_pages_b9 n) h x0 x1 x2 x3
def f_X6_pages (h : Hp) (x0 x1 : Int) : Option (Int × Hp) :=
  Option.bind (ptf h 6 0 x0 0) fun h1 =>
  f_X6_pages_b9 fuel h1 x0 x1 0 0
abbrev w_X6_pages : List Cond := Cond.code yX6_pages cX6_pages 4 (some .int) :: BW
abbrev rm_X6_pages : Room := { frames := 0, cells := 0, slots := 0, locals := 0 }
set_option maxHeartbeats 4000000 in
set_option maxRecDepth 100000 in
theorem c_X6_pages (l : Launch) (D : va_G) (G : Nat → ClassId) (base : Nat) (h h' : Hp) (x0 x1 : Int) (rv : Int) (i_x1 : inr x1) (hrun : f_X6_pages h x0 x1 = some (rv, h')) : Met l yX6_pages w_X6_pages rm_X6_pages (PC l D G base h [vr x0, vi x1]) (QR D G base (some (vi rv)) (inr rv) h') rm_X6_pages.cells rm_X6_pages.slots (Ab base) := by
  refine Met.ofW (cc := cX6_pages) (maxL := 4) (ret := (some .int)) (by decide) rfl ?_
  intro p e s m args below meth c s₁ B hml hv
  obtain ⟨hargs, hE, hM⟩ := hv
  have hx := B.exec
  have hb := B.bytes
  have hr := B.returns
  have hts0 := atoms_spec (ws := w_X6_pages) B.pre
  have hts : ∀ w ∈ BW, w.before args s = true := fun w hw => hts0 w (List.mem_cons_of_mem _ hw)
  have hown : s.vm.findClass RX6 = some m.cls := findClass_of_methodNamed B.named
  have hlocks := B.notSynchronized
  have j61 : ∀ (h : Hp) (s0 : Int) (H : Heap) (locs : List Loc) (ls : Array Slot), inr s0 → SM D G base h H → va_S (Ab base) s.heap H locs → lvh ls 4 [] → f_X6_pages_j61 h s0 = some (rv, h') → W p l e (headSpec w_X6_pages rm_X6_pages).room s m args below meth c H locs 0 0 (QI D G base rv h' below args s 0 0) (F0 m 61 ls [vi s0]) := by
    intro h s0 H locs ls i_s0 hM hS hl hrun
    unfold f_X6_pages_j61 at hrun
    exact s_iret hx hb hr hlocks hM hS i_s0 hrun (Nat.le_of_ble_eq_true rfl) (Nat.le_of_ble_eq_true rfl) dX6_pages_61
  have lp9 : ∀ (n9 : Nat) (h : Hp) (x0 x1 x2 x3 : Int) (H : Heap) (locs : List Loc) (ls : Array Slot), inr x1 → inr x2 → inr x3 → SM D G base h H → va_S (Ab base) s.heap H locs → lvh ls 4 [(0, vr x0), (1, vi x1), (2, vi x2), (3, vi x3)] → f_X6_pages_b9 n9 h x0 x1 x2 x3 = some (rv, h') → W p l e (headSpec w_X6_pages rm_X6_pages).room s m args below meth c H locs 0 0 (QI D G base rv h' below args s 0 0) (F0 m 9 ls []) := by
    intro n9
    induction n9 with
    | zero => intro h x0 x1 x2 x3 H locs ls i_x1 i_x2 i_x3 hM hS hl hrun; exact absurd hrun (fun q => nomatch (show (none : Option (Int × Hp)) = some (rv, h') from q))
    | succ n9 ih9 =>
      have j32 : ∀ (h : Hp) (x0 x1 x3 s0 : Int) (H : Heap) (locs : List Loc) (ls : Array Slot), inr x1 → inr x3 → inr s0 → SM D G base h H → va_S (Ab base) s.heap H locs → lvh ls 4 [(0, vr x0), (1, vi x1), (3, vi x3)] → f_X6_pages_j32 (f_X6_pages_b9 n9) h x0 x1 x3 s0 = some (rv, h') → W p l e (headSpec w_X6_pages rm_X6_pages).room s m args below meth c H locs 0 0 (QI D G base rv h' below args s 0 0) (F0 m 32 ls [vi s0]) := by
        intro h x0 x1 x3 s0 H locs ls i_x1 i_x3 i_s0 hM hS hl hrun
        unfold f_X6_pages_j32 at hrun
        refine t_istore_n (lv' := [(2, vi s0), (0, vr x0), (1, vi x1), (3, vi x3)]) hx hb dX6_pages_32 rfl hl (by decide) rfl (fun ls hl => ?_)
        refine t_iinc (lv' := [(3, vi (wr (x3 + 1))), (2, vi s0), (0, vr x0), (1, vi x1)]) hx hb dX6_pages_33 hl (k := 3) rfl (by decide) rfl rfl (fun ls hl => ?_)
        refine lv_goto (tgt := 9) hx hb dX6_pages_36 (by decide) ?_
        exact ih9 h x0 x1 s0 (wr (x3 + 1)) H locs ls i_x1 i_s0 (inr_wr _) hM hS (lsub hl [2, 3, 1, 0] rfl) hrun
      intro h x0 x1 x2 x3 H locs ls i_x1 i_x2 i_x3 hM hS hl hrun
      replace hrun : f_X6_pages_s9 (f_X6_pages_b9 n9) h x0 x1 x2 x3 = some (rv, h') := hrun
      unfold f_X6_pages_s9 at hrun
      refine lv_iload_n hx hb dX6_pages_9 rfl (la hl 3 rfl) ?_
      refine lv_sipush (v := Int32.ofInt 256) hx hb dX6_pages_10 (by decide) ?_
      refine s_icmp_ge (tgt := 39) hx hb dX6_pages_13 (by decide) i_x3 (by decide) (fun cd => ?_) (fun cd => ?_)
      · replace hrun := it_pos cd hrun
        refine lv_iload_n hx hb dX6_pages_39 rfl (la hl 1 rfl) ?_
        refine s_if_ne (tgt := 51) hx hb dX6_pages_40 (by decide) i_x1 (fun cd => ?_) (fun cd => ?_)
        · replace hrun := it_pos cd hrun
          refine lv_iload_n hx hb dX6_pages_51 rfl (la hl 1 rfl) ?_
          refine lv_iconst (v := Int32.ofInt 1) hx hb dX6_pages_52 rfl ?_
          refine s_icmp_ne (tgt := 60) hx hb dX6_pages_53 (by decide) i_x1 (by decide) (fun cd => ?_) (fun cd => ?_)
          · replace hrun := it_pos cd hrun
            refine lv_iconst (v := Int32.ofInt (-1)) hx hb dX6_pages_60 rfl ?_
            exact j61 h (-1) H locs ls (by decide) hM hS (lsub hl [] rfl) hrun
          · replace hrun := it_neg cd hrun
            refine lv_iload_n hx hb dX6_pages_56 rfl (la hl 2 rfl) ?_
            refine lv_goto (tgt := 61) hx hb dX6_pages_57 (by decide) ?_
            exact j61 h x2 H locs ls i_x2 hM hS (lsub hl [] rfl) hrun
        · replace hrun := it_neg cd hrun
          refine lv_sipush (v := Int32.ofInt 256) hx hb dX6_pages_43 (by decide) ?_
          refine lv_iload_n hx hb dX6_pages_46 rfl (la hl 2 rfl) ?_
          refine s_isub hx hb dX6_pages_47 ?_
          refine lv_goto (tgt := 61) hx hb dX6_pages_48 (by decide) ?_
          exact j61 h (wr (256 - x2)) H locs ls (inr_wr _) hM hS (lsub hl [] rfl) hrun
      · replace hrun := it_neg cd hrun
        refine s_aload_n hx hb dX6_pages_16 rfl (la hl 0 rfl) ?_
        obtain ⟨v2, g2, hrun⟩ := bd hrun
        refine s_getfr hx hb hts kl_6 hown hE.1 hM (ci := 6) rfl (by decide) rfl (k := 2) (by decide) rfl (hts _ kw_670) g2 dX6_pages_17 ?_
        refine lv_iload_n hx hb dX6_pages_20 rfl (la hl 3 rfl) ?_
        obtain ⟨v3, g3, hrun⟩ := bd hrun
        refine s_iald hx hb hE.1 hM i_x3 g3 dX6_pages_21 ?_
        have i_v3 : inr v3 := ald_i hM g3 (by decide) (by decide)
        refine s_if_lt (tgt := 31) hx hb dX6_pages_22 (by decide) i_v3 (fun cd => ?_) (fun cd => ?_)
        · replace hrun := it_pos cd hrun
          refine lv_iload_n hx hb dX6_pages_31 rfl (la hl 2 rfl) ?_
          exact j32 h x0 x1 x3 x2 H locs ls i_x1 i_x3 i_x2 hM hS (lsub hl [0, 1, 3] rfl) hrun
        · replace hrun := it_neg cd hrun
          refine lv_iload_n hx hb dX6_pages_25 rfl (la hl 2 rfl) ?_
          refine lv_iconst (v := Int32.ofInt 1) hx hb dX6_pages_26 rfl ?_
          refine s_iadd hx hb dX6_pages_27 ?_
          refine lv_goto (tgt := 32) hx hb dX6_pages_28 (by decide) ?_
          exact j32 h x0 x1 x3 (wr (x2 + 1)) H locs ls i_x1 i_x3 (inr_wr _) hM hS (lsub hl [0, 1, 3] rfl) hrun
  refine s_entry hargs hM (c_r (c_i c_0)) (Nat.le_of_ble_eq_true rfl) (fun H locs ls hM hS hl => ?_)
  replace hl : lvh ls 4 [(0, vr x0), (1, vi x1)] := hl
  unfold f_X6_pages at hrun
  refine s_aload_n hx hb dX6_pages_0 rfl (la hl 0 rfl) ?_
  refine lv_iconst (v := Int32.ofInt 0) hx hb dX6_pages_1 rfl ?_
  obtain ⟨h1, g1, hrun⟩ := bd hrun
  refine s_put (b := false) hx hb hts kl_6 tyX6 tyX6_ok nmX6 hown hE.1 hM hS (ci := 6) rfl (by decide) rfl (k := 0) (by decide) rfl (hts _ kw_668) rfl (vp_nar_int _) rfl (fun _ => (by decide)) g1 dX6_pages_2 (fun H locs hM hS => ?_)
  refine lv_iconst (v := Int32.ofInt 0) hx hb dX6_pages_5 rfl ?_
  refine t_istore_n (lv' := [(2, vi 0), (0, vr x0), (1, vi x1)]) hx hb dX6_pages_6 rfl hl (by decide) rfl (fun ls hl => ?_)
  refine lv_iconst (v := Int32.ofInt 0) hx hb dX6_pages_7 rfl ?_
  refine t_istore_n (lv' := [(3, vi 0), (2, vi 0), (0, vr x0), (1, vi x1)]) hx hb dX6_pages_8 rfl hl (by decide) rfl (fun ls hl => ?_)
  exact lp9 fuel h1 x0 x1 0 0 H locs ls i_x1 (by decide) (by decide) hM hS (lsub hl [2, 3, 1, 0] rfl) hrun
