def f_X5_knownCache_j19 (h : Hp) : Option (Nat × Int × Hp) :=
  some (1, 0, h)
def f_X5_knownCache (h : Hp) (x0 x1 : Int) : Option (Nat × Int × Hp) :=
  if x1 < 0 then (
    f_X5_knownCache_j19 h
  ) else (
    if 8 ≤ x1 then (
      f_X5_knownCache_j19 h
    ) else (
      Option.bind (gtf h 5 2 x0) fun v1 =>
      Option.bind (ald h 11 v1 x1) fun v2 =>
      if 0 ≤ v2 then (
        Option.bind (gtf h 5 2 x0) fun v3 =>
        Option.bind (ald h 11 v3 x1) fun v4 =>
        some (0, v4, h)
      ) else (
        f_X5_knownCache_j19 h
      )
    )
  )
abbrev w_X5_knownCache : List Cond := Cond.code yX5_knownCache cX5_knownCache 2 (some (.object "SlabHouse$Cache")) :: BW
abbrev rm_X5_knownCache : Room := { frames := 6, cells := 1, slots := 6, locals := 82 }
set_option maxHeartbeats 4000000 in
set_option maxRecDepth 100000 in
theorem c_X5_knownCache (l : Launch) (D : va_G) (G : Nat → ClassId) (base : Nat) (h h' : Hp) (x0 x1 : Int) (code : Nat) (rv : Int) (i_x1 : inr x1) (hrun : f_X5_knownCache h x0 x1 = some (code, rv, h')) : vx_Met l yX5_knownCache w_X5_knownCache rm_X5_knownCache (PC l D G base h [vr x0, vi x1]) (QRx D G base code (some (vr rv)) True h') (XR D G base code h') rm_X5_knownCache.cells rm_X5_knownCache.slots (Ab base) := by
  refine vx_ofW (cc := cX5_knownCache) (maxL := 2) (ret := (some (.object "SlabHouse$Cache"))) (by decide) rfl ?_
  intro p e s m args below meth c s₁ B hml hout hv
  obtain ⟨hargs, hE, hM⟩ := hv
  have hx := B.exec
  have hb := B.bytes
  have hr := B.returns
  have hts0 := atoms_spec (ws := w_X5_knownCache) B.pre
  have hts : ∀ w ∈ BW, w.before args s = true := fun w hw => hts0 w (List.mem_cons_of_mem _ hw)
  have hown : s.vm.findClass RX5 = some m.cls := findClass_of_methodNamed B.named
  have hlocks := B.notSynchronized
  have j19 : ∀ (h : Hp) (H : Heap) (locs : List Loc) (ls : Array Slot), SM D G base h H → va_S (Ab base) s.heap H locs → lvh ls 2 [] → f_X5_knownCache_j19 h = some (code, rv, h') → W p l e (headSpec w_X5_knownCache rm_X5_knownCache).room s m args below meth c H locs 0 0 (QFx D G base code rv h' below args s 1 6) (F0 m 19 ls []) := by
    intro h H locs ls hM hS hl hrun
    unfold f_X5_knownCache_j19 at hrun
    exact s_throwE hx hb hml hl.1.1 hown hts hE hM hS hout hlocks (is := 225) (text := "no such cache") (by decide)  dX5_knownCache_19 dX5_knownCache_22 dX5_knownCache_23 dX5_knownCache_25 dX5_knownCache_28 (Nat.le_of_ble_eq_true rfl) (cN c_0 (Nat.le_of_ble_eq_true rfl)) (Nat.le_of_ble_eq_true rfl) (Nat.le_of_ble_eq_true rfl) (Nat.le_of_ble_eq_true rfl) (Nat.le_of_ble_eq_true rfl) hrun
  refine s_entry hargs hM (c_r (c_i c_0)) (Nat.le_of_ble_eq_true rfl) (fun H locs ls hM hS hl => ?_)
  replace hl : lvh ls 2 [(0, vr x0), (1, vi x1)] := hl
  unfold f_X5_knownCache at hrun
  refine lv_iload_n hx hb dX5_knownCache_0 rfl (la hl 1 rfl) ?_
  refine s_if_lt (tgt := 19) hx hb dX5_knownCache_1 (by decide) i_x1 (fun cd => ?_) (fun cd => ?_)
  · replace hrun := it_pos cd hrun
    exact j19 h H locs ls hM hS (lsub hl [] rfl) hrun
  · replace hrun := it_neg cd hrun
    refine lv_iload_n hx hb dX5_knownCache_4 rfl (la hl 1 rfl) ?_
    refine lv_bipush (v := Int32.ofInt 8) hx hb dX5_knownCache_5 (by decide) ?_
    refine s_icmp_ge (tgt := 19) hx hb dX5_knownCache_7 (by decide) i_x1 (by decide) (fun cd => ?_) (fun cd => ?_)
    · replace hrun := it_pos cd hrun
      exact j19 h H locs ls hM hS (lsub hl [] rfl) hrun
    · replace hrun := it_neg cd hrun
      refine s_aload_n hx hb dX5_knownCache_10 rfl (la hl 0 rfl) ?_
      obtain ⟨v1, g1, hrun⟩ := bd hrun
      refine s_getfr hx hb hts kl_5 hown hE.1 hM (ci := 5) rfl (by decide) rfl (k := 2) (by decide) rfl (hts _ kw_85) g1 dX5_knownCache_11 ?_
      refine lv_iload_n hx hb dX5_knownCache_14 rfl (la hl 1 rfl) ?_
      obtain ⟨v2, g2, hrun⟩ := bd hrun
      refine s_aald hx hb hE.1 hM (kd := 11) (by decide) rfl i_x1 g2 dX5_knownCache_15 ?_
      refine s_ifnonnull (tgt := 29) hx hb dX5_knownCache_16 (by decide) (fun cd => ?_) (fun cd => ?_)
      · replace hrun := it_pos cd hrun
        refine s_aload_n hx hb dX5_knownCache_29 rfl (la hl 0 rfl) ?_
        obtain ⟨v3, g3, hrun⟩ := bd hrun
        refine s_getfr hx hb hts kl_5 hown hE.1 hM (ci := 5) rfl (by decide) rfl (k := 2) (by decide) rfl (hts _ kw_85) g3 dX5_knownCache_30 ?_
        refine lv_iload_n hx hb dX5_knownCache_33 rfl (la hl 1 rfl) ?_
        obtain ⟨v4, g4, hrun⟩ := bd hrun
        refine s_aald hx hb hE.1 hM (kd := 11) (by decide) rfl i_x1 g4 dX5_knownCache_34 ?_
        exact s_xaret hx hb hr (Or.inl ⟨_, rfl⟩) hlocks hM hS hrun (Nat.le_of_ble_eq_true rfl) (Nat.le_of_ble_eq_true rfl) dX5_knownCache_35
      · replace hrun := it_neg cd hrun
        exact j19 h H locs ls hM hS (lsub hl [] rfl) hrun
def f_X5_requireProcessor_j9 (h : Hp) : Option (Nat × Int × Hp) :=
  some (2, 0, h)
def f_X5_requireProcessor (h : Hp) (x0 : Int) : Option (Nat × Int × Hp) :=
  if x0 < 0 then (
    f_X5_requireProcessor_j9 h
  ) else (
    if x0 < 4 then (
      some (0, 0, h)
    ) else (
      f_X5_requireProcessor_j9 h
    )
  )
abbrev w_X5_requireProcessor : List Cond := Cond.code yX5_requireProcessor cX5_requireProcessor 1 none :: BW
abbrev rm_X5_requireProcessor : Room := { frames := 6, cells := 1, slots := 6, locals := 82 }
set_option maxHeartbeats 4000000 in
set_option maxRecDepth 100000 in
theorem c_X5_requireProcessor (l : Launch) (D : va_G) (G : Nat → ClassId) (base : Nat) (h h' : Hp) (x0 : Int) (code : Nat) (rv : Int) (i_x0 : inr x0) (hrun : f_X5_requireProcessor h x0 = some (code, rv, h')) : vx_Met l yX5_requireProcessor w_X5_requireProcessor rm_X5_requireProcessor (PC l D G base h [vi x0]) (QRx D G base code none True h') (XR D G base code h') rm_X5_requireProcessor.cells rm_X5_requireProcessor.slots (Ab base) := by
  refine vx_ofW (cc := cX5_requireProcessor) (maxL := 1) (ret := none) (by decide) rfl ?_
  intro p e s m args below meth c s₁ B hml hout hv
  obtain ⟨hargs, hE, hM⟩ := hv
  have hx := B.exec
  have hb := B.bytes
  have hr := B.returns
  have hts0 := atoms_spec (ws := w_X5_requireProcessor) B.pre
  have hts : ∀ w ∈ BW, w.before args s = true := fun w hw => hts0 w (List.mem_cons_of_mem _ hw)
  have hown : s.vm.findClass RX5 = some m.cls := findClass_of_methodNamed B.named
  have hlocks := B.notSynchronized
  have j9 : ∀ (h : Hp) (H : Heap) (locs : List Loc) (ls : Array Slot), SM D G base h H → va_S (Ab base) s.heap H locs → lvh ls 1 [] → f_X5_requireProcessor_j9 h = some (code, rv, h') → W p l e (headSpec w_X5_requireProcessor rm_X5_requireProcessor).room s m args below meth c H locs 0 0 (QVx D G base code rv h' below args s 1 6) (F0 m 9 ls []) := by
    intro h H locs ls hM hS hl hrun
    unfold f_X5_requireProcessor_j9 at hrun
    exact s_throw 2 (by decide) rfl hx hb hml hl.1.1 hown hts hE hM hS hout hlocks (by decide +kernel) kw_178 kw_44 (is := 227) (text := "no such processor") (by decide) xg_32 xr_32 xo_32 dX5_requireProcessor_9 dX5_requireProcessor_12 dX5_requireProcessor_13 dX5_requireProcessor_15 dX5_requireProcessor_18 (Nat.le_of_ble_eq_true rfl) (cN c_0 (Nat.le_of_ble_eq_true rfl)) (Nat.le_of_ble_eq_true rfl) (Nat.le_of_ble_eq_true rfl) (Nat.le_of_ble_eq_true rfl) (Nat.le_of_ble_eq_true rfl) hrun
  refine s_entry hargs hM (c_i c_0) (Nat.le_of_ble_eq_true rfl) (fun H locs ls hM hS hl => ?_)
  replace hl : lvh ls 1 [(0, vi x0)] := hl
  unfold f_X5_requireProcessor at hrun
  refine lv_iload_n hx hb dX5_requireProcessor_0 rfl (la hl 0 rfl) ?_
  refine s_if_lt (tgt := 9) hx hb dX5_requireProcessor_1 (by decide) i_x0 (fun cd => ?_) (fun cd => ?_)
  · replace hrun := it_pos cd hrun
    exact j9 h H locs ls hM hS (lsub hl [] rfl) hrun
  · replace hrun := it_neg cd hrun
    refine lv_iload_n hx hb dX5_requireProcessor_4 rfl (la hl 0 rfl) ?_
    refine lv_iconst (v := Int32.ofInt 4) hx hb dX5_requireProcessor_5 rfl ?_
    refine s_icmp_lt (tgt := 19) hx hb dX5_requireProcessor_6 (by decide) i_x0 (by decide) (fun cd => ?_) (fun cd => ?_)
    · replace hrun := it_pos cd hrun
      exact s_xvret hx hb hr hlocks hM hS hrun (Nat.le_of_ble_eq_true rfl) (Nat.le_of_ble_eq_true rfl) dX5_requireProcessor_19
    · replace hrun := it_neg cd hrun
      exact j9 h H locs ls hM hS (lsub hl [] rfl) hrun
def f_X5_cache_j20 (h : Hp) : Option (Nat × Int × Hp) :=
  some (2, 0, h)
def f_X5_cache_j73 (h : Hp) : Option (Nat × Int × Hp) :=
  some (2, 0, h)
def f_X5_cache_j64 (h : Hp) (x0 x1 x2 x3 x4 : Int) : Option (Nat × Int × Hp) :=
  if x3 < 0 then (
    f_X5_cache_j73 h
  ) else (
    if x3 ≤ 3 then (
      Option.bind (f_X5_roundedUp h x1 x2) fun r2 =>
      if r2.1 ≤ (ish 1024 x3) then (
        Option.bind (gtf r2.2 5 3 x0) fun v3 =>
        if v3 < 8 then (
          Option.bind (gtf r2.2 5 3 x0) fun v4 =>
          Option.bind (gtf r2.2 5 2 x0) fun v5 =>
          Option.bind (nwo r2.2 1) fun h6 =>
          Option.bind (ckd h6 1 (hN r2.2 : Int)) fun u8 =>
          Option.bind (f_X1_init h6 (hN r2.2 : Int) v4 x1 x2 x3 x4) fun r7 =>
          Option.bind (asr r7.2 11 v5 v4 (hN r2.2 : Int)) fun h9 =>
          Option.bind (gtf h9 5 3 x0) fun v10 =>
          Option.bind (ptf h9 5 3 x0 (wr (v10 + 1))) fun h11 =>
          some (0, v4, h11)
        ) else (
          some (0, (-1), r2.2)
        )
      ) else (
        some (2, 0, r2.2)
      )
    ) else (
      f_X5_cache_j73 h
    )
  )
def f_X5_cache (h : Hp) (x0 x1 x2 x3 x4 : Int) : Option (Nat × Int × Hp) :=
  if x1 < 8 then (
    f_X5_cache_j20 h
  ) else (
    if 4096 < x1 then (
      f_X5_cache_j20 h
    ) else (
      Option.bind (irm x1 8) fun v1 =>
      if v1 = 0 then (
        if x2 = 8 then (
          f_X5_cache_j64 h x0 x1 x2 x3 x4
        ) else (
          if x2 = 16 then (
            f_X5_cache_j64 h x0 x1 x2 x3 x4
          ) else (
            if x2 = 32 then (
              f_X5_cache_j64 h x0 x1 x2 x3 x4
            ) else (
              if x2 = 64 then (
                f_X5_cache_j64 h x0 x1 x2 x3 x4
              ) else (
                some (2, 0, h)
              )
            )
          )
        )
      ) else (
        f_X5_cache_j20 h
      )
    )
  )
abbrev w_X5_cache : List Cond := Cond.code yX5_cache cX5_cache 6 (some .int) :: BW
abbrev rm_X5_cache : Room := { frames := 6, cells := 24, slots := 82, locals := 82 }
set_option maxHeartbeats 4000000 in
set_option maxRecDepth 100000 in
theorem c_X5_cache (l : Launch) (D : va_G) (G : Nat → ClassId) (base : Nat) (h h' : Hp) (x0 x1 x2 x3 x4 : Int) (code : Nat) (rv : Int) (i_x1 : inr x1) (i_x2 : inr x2) (i_x3 : inr x3) (i_x4 : inr x4) (hrun : f_X5_cache h x0 x1 x2 x3 x4 = some (code, rv, h')) : vx_Met l yX5_cache w_X5_cache rm_X5_cache (PC l D G base h [vr x0, vi x1, vi x2, vi x3, vi x4]) (QRx D G base code (some (vi rv)) (inr rv) h') (XR D G base code h') rm_X5_cache.cells rm_X5_cache.slots (Ab base) := by
  refine vx_ofW (cc := cX5_cache) (maxL := 6) (ret := (some .int)) (by decide) rfl ?_
  intro p e s m args below meth c s₁ B hml hout hv
  obtain ⟨hargs, hE, hM⟩ := hv
  have hx := B.exec
  have hb := B.bytes
  have hr := B.returns
  have hts0 := atoms_spec (ws := w_X5_cache) B.pre
  have hts : ∀ w ∈ BW, w.before args s = true := fun w hw => hts0 w (List.mem_cons_of_mem _ hw)
  have hown : s.vm.findClass RX5 = some m.cls := findClass_of_methodNamed B.named
  have hlocks := B.notSynchronized
  have j20 : ∀ (h : Hp) (H : Heap) (locs : List Loc) (ls : Array Slot), SM D G base h H → va_S (Ab base) s.heap H locs → lvh ls 6 [] → f_X5_cache_j20 h = some (code, rv, h') → W p l e (headSpec w_X5_cache rm_X5_cache).room s m args below meth c H locs 0 0 (QIx D G base code rv h' below args s 24 82) (F0 m 20 ls []) := by
    intro h H locs ls hM hS hl hrun
    unfold f_X5_cache_j20 at hrun
    exact s_throw 2 (by decide) rfl hx hb hml hl.1.1 hown hts hE hM hS hout hlocks (by decide +kernel) kw_178 kw_44 (is := 30) (text := "no such size") (by decide) xg_32 xr_32 xo_32 dX5_cache_20 dX5_cache_23 dX5_cache_24 dX5_cache_26 dX5_cache_29 (Nat.le_of_ble_eq_true rfl) (cN c_0 (Nat.le_of_ble_eq_true rfl)) (Nat.le_of_ble_eq_true rfl) (Nat.le_of_ble_eq_true rfl) (Nat.le_of_ble_eq_true rfl) (Nat.le_of_ble_eq_true rfl) hrun
  have j73 : ∀ (h : Hp) (H : Heap) (locs : List Loc) (ls : Array Slot), SM D G base h H → va_S (Ab base) s.heap H locs → lvh ls 6 [] → f_X5_cache_j73 h = some (code, rv, h') → W p l e (headSpec w_X5_cache rm_X5_cache).room s m args below meth c H locs 0 0 (QIx D G base code rv h' below args s 24 82) (F0 m 73 ls []) := by
    intro h H locs ls hM hS hl hrun
    unfold f_X5_cache_j73 at hrun
    exact s_throw 2 (by decide) rfl hx hb hml hl.1.1 hown hts hE hM hS hout hlocks (by decide +kernel) kw_178 kw_44 (is := 37) (text := "no such order of a slab") (by decide) xg_32 xr_32 xo_32 dX5_cache_73 dX5_cache_76 dX5_cache_77 dX5_cache_79 dX5_cache_82 (Nat.le_of_ble_eq_true rfl) (cN c_0 (Nat.le_of_ble_eq_true rfl)) (Nat.le_of_ble_eq_true rfl) (Nat.le_of_ble_eq_true rfl) (Nat.le_of_ble_eq_true rfl) (Nat.le_of_ble_eq_true rfl) hrun
  have j64 : ∀ (h : Hp) (x0 x1 x2 x3 x4 : Int) (H : Heap) (locs : List Loc) (ls : Array Slot), inr x1 → inr x2 → inr x3 → inr x4 → SM D G base h H → va_S (Ab base) s.heap H locs → lvh ls 6 [(0, vr x0), (1, vi x1), (2, vi x2), (3, vi x3), (4, vi x4)] → f_X5_cache_j64 h x0 x1 x2 x3 x4 = some (code, rv, h') → W p l e (headSpec w_X5_cache rm_X5_cache).room s m args below meth c H locs 0 0 (QIx D G base code rv h' below args s 24 82) (F0 m 64 ls []) := by
    intro h x0 x1 x2 x3 x4 H locs ls i_x1 i_x2 i_x3 i_x4 hM hS hl hrun
    unfold f_X5_cache_j64 at hrun
    refine lv_iload_n hx hb dX5_cache_64 rfl (la hl 3 rfl) ?_
    refine s_if_lt (tgt := 73) hx hb dX5_cache_65 (by decide) i_x3 (fun cd => ?_) (fun cd => ?_)
    · replace hrun := it_pos cd hrun
      exact j73 h H locs ls hM hS (lsub hl [] rfl) hrun
    · replace hrun := it_neg cd hrun
      refine lv_iload_n hx hb dX5_cache_68 rfl (la hl 3 rfl) ?_
      refine lv_iconst (v := Int32.ofInt 3) hx hb dX5_cache_69 rfl ?_
      refine s_icmp_le (tgt := 83) hx hb dX5_cache_70 (by decide) i_x3 (by decide) (fun cd => ?_) (fun cd => ?_)
      · replace hrun := it_pos cd hrun
        refine lv_iload_n hx hb dX5_cache_83 rfl (la hl 1 rfl) ?_
        refine lv_iload_n hx hb dX5_cache_84 rfl (la hl 2 rfl) ?_
        obtain ⟨r2, g2, hrun⟩ := bd hrun
        refine s_callS (n := 2) (rest := []) [vi x1, vi x2] hx hb hml hown hts hE hM hS (c_X5_roundedUp l D G base h r2.2 x1 x2 r2.1 i_x1 i_x2 g2) kw_250 kw_248 kw_37 kw_249 (by decide +kernel) ⟨Nat.le_of_ble_eq_true rfl, Nat.le_of_ble_eq_true rfl⟩ rfl hl.1.1 rfl (c8 c_0 (Nat.le_of_ble_eq_true rfl)) dX5_cache_85 ⟨Nat.le_of_ble_eq_true rfl, Nat.le_of_ble_eq_true rfl⟩ (fun H locs i_r2 hM hS => ?_)
        refine W.eq (g2 := F0 m 88 ls [vi r2.1]) rfl ?_
        refine lv_sipush (v := Int32.ofInt 1024) hx hb dX5_cache_88 (by decide) ?_
        refine lv_iload_n hx hb dX5_cache_91 rfl (la hl 3 rfl) ?_
        refine s_ishl hx hb dX5_cache_92 ?_
        refine s_icmp_le (tgt := 106) hx hb dX5_cache_93 (by decide) i_r2 (inr_sh _ _) (fun cd => ?_) (fun cd => ?_)
        · replace hrun := it_pos cd hrun
          refine s_aload_n hx hb dX5_cache_106 rfl (la hl 0 rfl) ?_
          obtain ⟨v3, g3, hrun⟩ := bd hrun
          refine s_getfi hx hb hts kl_5 hown hE.1 hM (ci := 5) rfl (by decide) rfl (k := 3) (by decide) rfl (hts _ kw_86) g3 dX5_cache_107 ?_
          have i_v3 : inr v3 := gtf_i hM g3 (by decide) rfl
          refine lv_bipush (v := Int32.ofInt 8) hx hb dX5_cache_110 (by decide) ?_
          refine s_icmp_lt (tgt := 117) hx hb dX5_cache_112 (by decide) i_v3 (by decide) (fun cd => ?_) (fun cd => ?_)
          · replace hrun := it_pos cd hrun
            refine s_aload_n hx hb dX5_cache_117 rfl (la hl 0 rfl) ?_
            obtain ⟨v4, g4, hrun⟩ := bd hrun
            refine s_getfi hx hb hts kl_5 hown hE.1 hM (ci := 5) rfl (by decide) rfl (k := 3) (by decide) rfl (hts _ kw_86) g4 dX5_cache_118 ?_
            have i_v4 : inr v4 := gtf_i hM g4 (by decide) rfl
            refine t_istore (lv' := [(5, vi v4), (0, vr x0), (1, vi x1), (2, vi x2), (3, vi x3), (4, vi x4)]) hx hb dX5_cache_121 hl (by decide) rfl (fun ls hl => ?_)
            refine s_aload_n hx hb dX5_cache_123 rfl (la hl 1 rfl) ?_
            obtain ⟨v5, g5, hrun⟩ := bd hrun
            refine s_getfr hx hb hts kl_5 hown hE.1 hM (ci := 5) rfl (by decide) rfl (k := 2) (by decide) rfl (hts _ kw_85) g5 dX5_cache_124 ?_
            refine lv_iload hx hb dX5_cache_127 (la hl 0 rfl) ?_
            obtain ⟨h6, g6, hrun⟩ := bd hrun
            refine s_new hx hb hts kl_1 tyX1 tyX1_ok hown (hts _ kw_81) (hts _ kw_252) (hts _ kw_45) hE.1 hM hS hE.2.1 (ci := 1) rfl (by decide) rfl (by decide) g6 (Nat.le_of_ble_eq_true rfl) (Nat.le_of_ble_eq_true rfl) dX5_cache_129 (fun H hM hS => ?_)
            refine lv_dup hx hb dX5_cache_132 (vr_cat _) ?_
            refine lv_iload hx hb dX5_cache_133 (la hl 0 rfl) ?_
            refine lv_iload_n hx hb dX5_cache_135 rfl (la hl 2 rfl) ?_
            refine lv_iload_n hx hb dX5_cache_136 rfl (la hl 3 rfl) ?_
            refine lv_iload_n hx hb dX5_cache_137 rfl (la hl 4 rfl) ?_
            refine lv_iload hx hb dX5_cache_138 (la hl 5 rfl) ?_
            obtain ⟨u8, g8, hrun⟩ := bd hrun
            obtain ⟨r7, g7, hrun⟩ := bd hrun
            refine s_callI (n := 5) (rest := [vr (hN r2.2 : Int), vi v4, vr v5]) [vi v4, vi x1, vi x2, vi x3, vi x4] hx hb hml hown hts hE hM hS (c_X1_init l D G base h6 r7.2 (hN r2.2 : Int) v4 x1 x2 x3 x4 r7.1 i_v4 i_x1 i_x2 i_x3 i_x4 g7) kw_255 kw_253 kw_45 kw_254 rfl (by decide +kernel) ⟨Nat.le_of_ble_eq_true rfl, Nat.le_of_ble_eq_true rfl⟩ g8 rfl hl.1.1 rfl (c8 (c_r (c_i (c_r c_0))) (Nat.le_of_ble_eq_true rfl)) dX5_cache_140 ⟨Nat.le_of_ble_eq_true rfl, Nat.le_of_ble_eq_true rfl⟩ (fun H locs i_r7 hM hS => ?_)
            refine W.eq (g2 := F0 m 143 ls [vr (hN r2.2 : Int), vi v4, vr v5]) rfl ?_
            obtain ⟨h9, g9, hrun⟩ := bd hrun
            refine s_aast hx hb hE.1 hM hS (kd := 11) (ci := 1) (by decide) (by decide) rfl rfl rfl i_v4 g9 dX5_cache_143 (fun H locs hM hS => ?_)
            refine s_aload_n hx hb dX5_cache_144 rfl (la hl 1 rfl) ?_
            refine lv_dup hx hb dX5_cache_145 (vr_cat _) ?_
            obtain ⟨v10, g10, hrun⟩ := bd hrun
            refine s_getfi hx hb hts kl_5 hown hE.1 hM (ci := 5) rfl (by decide) rfl (k := 3) (by decide) rfl (hts _ kw_86) g10 dX5_cache_146 ?_
            have i_v10 : inr v10 := gtf_i hM g10 (by decide) rfl
            refine lv_iconst (v := Int32.ofInt 1) hx hb dX5_cache_149 rfl ?_
            refine s_iadd hx hb dX5_cache_150 ?_
            obtain ⟨h11, g11, hrun⟩ := bd hrun
            refine s_put (b := false) hx hb hts kl_5 tyX5 tyX5_ok nmX5 hown hE.1 hM hS (ci := 5) rfl (by decide) rfl (k := 3) (by decide) rfl (hts _ kw_86) rfl (vp_nar_int _) rfl (fun _ => (inr_wr _)) g11 dX5_cache_151 (fun H locs hM hS => ?_)
            refine lv_iload hx hb dX5_cache_154 (la hl 0 rfl) ?_
            exact s_xret hx hb hr hlocks hM hS i_v4 hrun (Nat.le_of_ble_eq_true rfl) (Nat.le_of_ble_eq_true rfl) dX5_cache_156
          · replace hrun := it_neg cd hrun
            refine lv_iconst (v := Int32.ofInt (-1)) hx hb dX5_cache_115 rfl ?_
            exact s_xret hx hb hr hlocks hM hS (by decide) hrun (Nat.le_of_ble_eq_true rfl) (Nat.le_of_ble_eq_true rfl) dX5_cache_116
        · replace hrun := it_neg cd hrun
          exact s_throw 2 (by decide) rfl hx hb hml hl.1.1 hown hts hE hM hS hout hlocks (by decide +kernel) kw_178 kw_44 (is := 43) (text := "a slab would have no object") (by decide) xg_32 xr_32 xo_32 dX5_cache_96 dX5_cache_99 dX5_cache_100 dX5_cache_102 dX5_cache_105 (Nat.le_of_ble_eq_true rfl) (cN c_0 (Nat.le_of_ble_eq_true rfl)) (Nat.le_of_ble_eq_true rfl) (Nat.le_of_ble_eq_true rfl) (Nat.le_of_ble_eq_true rfl) (Nat.le_of_ble_eq_true rfl) hrun
      · replace hrun := it_neg cd hrun
        exact j73 h H locs ls hM hS (lsub hl [] rfl) hrun
  refine s_entry hargs hM (c_r (c_i (c_i (c_i (c_i c_0))))) (Nat.le_of_ble_eq_true rfl) (fun H locs ls hM hS hl => ?_)
  replace hl : lvh ls 6 [(0, vr x0), (1, vi x1), (2, vi x2), (3, vi x3), (4, vi x4)] := hl
  unfold f_X5_cache at hrun
  refine lv_iload_n hx hb dX5_cache_0 rfl (la hl 1 rfl) ?_
  refine lv_bipush (v := Int32.ofInt 8) hx hb dX5_cache_1 (by decide) ?_
  refine s_icmp_lt (tgt := 20) hx hb dX5_cache_3 (by decide) i_x1 (by decide) (fun cd => ?_) (fun cd => ?_)
  · replace hrun := it_pos cd hrun
    exact j20 h H locs ls hM hS (lsub hl [] rfl) hrun
  · replace hrun := it_neg cd hrun
    refine lv_iload_n hx hb dX5_cache_6 rfl (la hl 1 rfl) ?_
    refine lv_sipush (v := Int32.ofInt 4096) hx hb dX5_cache_7 (by decide) ?_
    refine s_icmp_gt (tgt := 20) hx hb dX5_cache_10 (by decide) i_x1 (by decide) (fun cd => ?_) (fun cd => ?_)
    · replace hrun := it_pos cd hrun
      exact j20 h H locs ls hM hS (lsub hl [] rfl) hrun
    · replace hrun := it_neg cd hrun
      refine lv_iload_n hx hb dX5_cache_13 rfl (la hl 1 rfl) ?_
      refine lv_bipush (v := Int32.ofInt 8) hx hb dX5_cache_14 (by decide) ?_
      obtain ⟨v1, g1, hrun⟩ := bd hrun
      refine s_irem hx hb i_x1 (by decide) g1 dX5_cache_16 ?_
      have i_v1 : inr v1 := inr_rm i_x1 g1
      refine s_if_eq (tgt := 30) hx hb dX5_cache_17 (by decide) i_v1 (fun cd => ?_) (fun cd => ?_)
      · replace hrun := it_pos cd hrun
        refine lv_iload_n hx hb dX5_cache_30 rfl (la hl 2 rfl) ?_
        refine lv_bipush (v := Int32.ofInt 8) hx hb dX5_cache_31 (by decide) ?_
        refine s_icmp_eq (tgt := 64) hx hb dX5_cache_33 (by decide) i_x2 (by decide) (fun cd => ?_) (fun cd => ?_)
        · replace hrun := it_pos cd hrun
          exact j64 h x0 x1 x2 x3 x4 H locs ls i_x1 i_x2 i_x3 i_x4 hM hS (lsub hl [0, 1, 2, 3, 4] rfl) hrun
        · replace hrun := it_neg cd hrun
          refine lv_iload_n hx hb dX5_cache_36 rfl (la hl 2 rfl) ?_
          refine lv_bipush (v := Int32.ofInt 16) hx hb dX5_cache_37 (by decide) ?_
          refine s_icmp_eq (tgt := 64) hx hb dX5_cache_39 (by decide) i_x2 (by decide) (fun cd => ?_) (fun cd => ?_)
          · replace hrun := it_pos cd hrun
            exact j64 h x0 x1 x2 x3 x4 H locs ls i_x1 i_x2 i_x3 i_x4 hM hS (lsub hl [0, 1, 2, 3, 4] rfl) hrun
          · replace hrun := it_neg cd hrun
            refine lv_iload_n hx hb dX5_cache_42 rfl (la hl 2 rfl) ?_
            refine lv_bipush (v := Int32.ofInt 32) hx hb dX5_cache_43 (by decide) ?_
            refine s_icmp_eq (tgt := 64) hx hb dX5_cache_45 (by decide) i_x2 (by decide) (fun cd => ?_) (fun cd => ?_)
            · replace hrun := it_pos cd hrun
              exact j64 h x0 x1 x2 x3 x4 H locs ls i_x1 i_x2 i_x3 i_x4 hM hS (lsub hl [0, 1, 2, 3, 4] rfl) hrun
            · replace hrun := it_neg cd hrun
              refine lv_iload_n hx hb dX5_cache_48 rfl (la hl 2 rfl) ?_
              refine lv_bipush (v := Int32.ofInt 64) hx hb dX5_cache_49 (by decide) ?_
              refine s_icmp_eq (tgt := 64) hx hb dX5_cache_51 (by decide) i_x2 (by decide) (fun cd => ?_) (fun cd => ?_)
              · replace hrun := it_pos cd hrun
                exact j64 h x0 x1 x2 x3 x4 H locs ls i_x1 i_x2 i_x3 i_x4 hM hS (lsub hl [0, 1, 2, 3, 4] rfl) hrun
              · replace hrun := it_neg cd hrun
                exact s_throw 2 (by decide) rfl hx hb hml hl.1.1 hown hts hE hM hS hout hlocks (by decide +kernel) kw_178 kw_44 (is := 35) (text := "no such align") (by decide) xg_32 xr_32 xo_32 dX5_cache_54 dX5_cache_57 dX5_cache_58 dX5_cache_60 dX5_cache_63 (Nat.le_of_ble_eq_true rfl) (cN c_0 (Nat.le_of_ble_eq_true rfl)) (Nat.le_of_ble_eq_true rfl) (Nat.le_of_ble_eq_true rfl) (Nat.le_of_ble_eq_true rfl) (Nat.le_of_ble_eq_true rfl) hrun
      · replace hrun := it_neg cd hrun
        exact j20 h H locs ls hM hS (lsub hl [] rfl) hrun
def f_X5_drop_j68 (k28 : Hp → Int → Int → Int → Int → Option (Nat × Int × Hp)) (h : Hp) (x0 x2 x3 x4 : Int) : Option (Nat × Int × Hp) :=
  k28 h x0 x2 x3 (wr (x4 + 1))
def f_X5_drop_s28 (k28 : Hp → Int → Int → Int → Int → Option (Nat × Int × Hp)) (h : Hp) (x0 x2 x3 x4 : Int) : Option (Nat × Int × Hp) :=
  if 256 ≤ x4 then (
    Option.bind (gtf h 5 2 x0) fun v4 =>
    Option.bind (gtf h 1 0 x2) fun v5 =>
    Option.bind (asr h 11 v4 v5 (-1)) fun h6 =>
    some (0, x3, h6)
  ) else (
    Option.bind (gtf h 5 1 x0) fun v7 =>
    Option.bind (ald h 13 v7 x4) fun v8 =>
    if v8 < 0 then (
      f_X5_drop_j68 k28 h x0 x2 x3 x4
    ) else (
      Option.bind (gtf h 3 0 v8) fun v9 =>
      if ¬ rO v9 = rO x2 then (
        f_X5_drop_j68 k28 h x0 x2 x3 x4
      ) else (
        Option.bind (ckd h 5 x0) fun u11 =>
        Option.bind (f_X5_giveBack h x0 v8) fun r10 =>
        f_X5_drop_j68 k28 r10.2 x0 x2 (wr (x3 + r10.1)) x4
      )
    )
  )
def f_X5_drop_b28 : Nat → Hp → Int → Int → Int → Int → Option (Nat × Int × Hp)
  | 0, _, _, _, _, _ => none
  | n + 1, h, x0, x2, x3, x4 => f_X5_drop_s28 (f_X5_drop_b28 n) h x0 x2 x3 x4
def f_X5_drop (h : Hp) (x0 x1 : Int) : Option (Nat × Int × Hp) :=
  Option.bind (ckd h 5 x0) fun u2 =>
  Option.bind (f_X5_knownCache h x0 x1) fun r1 =>
  if r1.1 = 0 then (
  Option.bind (gtf r1.2.2 1 10 r1.2.1) fun v3 =>
  if v3 ≤ 0 then (
    f_X5_drop_b28 fuel r1.2.2 x0 r1.2.1 0 0
  ) else (
    some (3, 0, r1.2.2)
  )
  ) else (some (r1.1, 0, r1.2.2))
abbrev w_X5_drop : List Cond := Cond.code yX5_drop cX5_drop 6 (some .int) :: BW
abbrev rm_X5_drop : Room := { frames := 7, cells := 2, slots := 12, locals := 103 }
set_option maxHeartbeats 4000000 in
set_option maxRecDepth 100000 in
theorem c_X5_drop (l : Launch) (D : va_G) (G : Nat → ClassId) (base : Nat) (h h' : Hp) (x0 x1 : Int) (code : Nat) (rv : Int) (i_x1 : inr x1) (hrun : f_X5_drop h x0 x1 = some (code, rv, h')) : vx_Met l yX5_drop w_X5_drop rm_X5_drop (PC l D G base h [vr x0, vi x1]) (QRx D G base code (some (vi rv)) (inr rv) h') (XR D G base code h') rm_X5_drop.cells rm_X5_drop.slots (Ab base) := by
  refine vx_ofW (cc := cX5_drop) (maxL := 6) (ret := (some .int)) (by decide) rfl ?_
  intro p e s m args below meth c s₁ B hml hout hv
  obtain ⟨hargs, hE, hM⟩ := hv
  have hx := B.exec
  have hb := B.bytes
  have hr := B.returns
  have hts0 := atoms_spec (ws := w_X5_drop) B.pre
  have hts : ∀ w ∈ BW, w.before args s = true := fun w hw => hts0 w (List.mem_cons_of_mem _ hw)
  have hown : s.vm.findClass RX5 = some m.cls := findClass_of_methodNamed B.named
  have hlocks := B.notSynchronized
  have lp28 : ∀ (n28 : Nat) (h : Hp) (x0 x2 x3 x4 : Int) (H : Heap) (locs : List Loc) (ls : Array Slot), inr x3 → inr x4 → SM D G base h H → va_S (Ab base) s.heap H locs → lvh ls 6 [(0, vr x0), (2, vr x2), (3, vi x3), (4, vi x4)] → f_X5_drop_b28 n28 h x0 x2 x3 x4 = some (code, rv, h') → W p l e (headSpec w_X5_drop rm_X5_drop).room s m args below meth c H locs 1 6 (QIx D G base code rv h' below args s 2 12) (F0 m 28 ls []) := by
    intro n28
    induction n28 with
    | zero => intro h x0 x2 x3 x4 H locs ls i_x3 i_x4 hM hS hl hrun; exact absurd hrun (fun q => nomatch (show (none : Option (Nat × Int × Hp)) = some (code, rv, h') from q))
    | succ n28 ih28 =>
      have j68 : ∀ (h : Hp) (x0 x2 x3 x4 : Int) (H : Heap) (locs : List Loc) (ls : Array Slot), inr x3 → inr x4 → SM D G base h H → va_S (Ab base) s.heap H locs → lvh ls 6 [(0, vr x0), (2, vr x2), (3, vi x3), (4, vi x4)] → f_X5_drop_j68 (f_X5_drop_b28 n28) h x0 x2 x3 x4 = some (code, rv, h') → W p l e (headSpec w_X5_drop rm_X5_drop).room s m args below meth c H locs 1 6 (QIx D G base code rv h' below args s 2 12) (F0 m 68 ls []) := by
        intro h x0 x2 x3 x4 H locs ls i_x3 i_x4 hM hS hl hrun
        unfold f_X5_drop_j68 at hrun
        refine t_iinc (lv' := [(4, vi (wr (x4 + 1))), (0, vr x0), (2, vr x2), (3, vi x3)]) hx hb dX5_drop_68 hl (k := 3) rfl (by decide) rfl rfl (fun ls hl => ?_)
        refine lv_goto (tgt := 28) hx hb dX5_drop_71 (by decide) ?_
        exact ih28 h x0 x2 x3 (wr (x4 + 1)) H locs ls i_x3 (inr_wr _) hM hS (lsub hl [1, 2, 3, 0] rfl) hrun
      intro h x0 x2 x3 x4 H locs ls i_x3 i_x4 hM hS hl hrun
      replace hrun : f_X5_drop_s28 (f_X5_drop_b28 n28) h x0 x2 x3 x4 = some (code, rv, h') := hrun
      unfold f_X5_drop_s28 at hrun
      refine lv_iload hx hb dX5_drop_28 (la hl 3 rfl) ?_
      refine lv_sipush (v := Int32.ofInt 256) hx hb dX5_drop_30 (by decide) ?_
      refine s_icmp_ge (tgt := 74) hx hb dX5_drop_33 (by decide) i_x4 (by decide) (fun cd => ?_) (fun cd => ?_)
      · replace hrun := it_pos cd hrun
        refine s_aload_n hx hb dX5_drop_74 rfl (la hl 0 rfl) ?_
        obtain ⟨v4, g4, hrun⟩ := bd hrun
        refine s_getfr hx hb hts kl_5 hown hE.1 hM (ci := 5) rfl (by decide) rfl (k := 2) (by decide) rfl (hts _ kw_85) g4 dX5_drop_75 ?_
        refine s_aload_n hx hb dX5_drop_78 rfl (la hl 1 rfl) ?_
        obtain ⟨v5, g5, hrun⟩ := bd hrun
        refine s_getfi hx hb hts kl_1 hown hE.1 hM (ci := 1) rfl (by decide) rfl (k := 0) (by decide) rfl (hts _ kw_287) g5 dX5_drop_79 ?_
        have i_v5 : inr v5 := gtf_i hM g5 (by decide) rfl
        refine s_null hx hb dX5_drop_82 ?_
        obtain ⟨h6, g6, hrun⟩ := bd hrun
        refine s_aast hx hb hE.1 hM hS (kd := 11) (ci := 1) (by decide) (by decide) rfl rfl rfl i_v5 g6 dX5_drop_83 (fun H locs hM hS => ?_)
        refine lv_iload_n hx hb dX5_drop_84 rfl (la hl 2 rfl) ?_
        exact s_xret hx hb hr hlocks hM hS i_x3 hrun (Nat.le_of_ble_eq_true rfl) (Nat.le_of_ble_eq_true rfl) dX5_drop_85
      · replace hrun := it_neg cd hrun
        refine s_aload_n hx hb dX5_drop_36 rfl (la hl 0 rfl) ?_
        obtain ⟨v7, g7, hrun⟩ := bd hrun
        refine s_getfr hx hb hts kl_5 hown hE.1 hM (ci := 5) rfl (by decide) rfl (k := 1) (by decide) rfl (hts _ kw_84) g7 dX5_drop_37 ?_
        refine lv_iload hx hb dX5_drop_40 (la hl 3 rfl) ?_
        obtain ⟨v8, g8, hrun⟩ := bd hrun
        refine s_aald hx hb hE.1 hM (kd := 13) (by decide) rfl i_x4 g8 dX5_drop_42 ?_
        refine t_astore (lv' := [(5, vr v8), (0, vr x0), (2, vr x2), (3, vi x3), (4, vi x4)]) hx hb dX5_drop_43 hl (by decide) rfl (fun ls hl => ?_)
        refine s_aload hx hb dX5_drop_45 (la hl 0 rfl) ?_
        refine s_ifnull (tgt := 68) hx hb dX5_drop_47 (by decide) (fun cd => ?_) (fun cd => ?_)
        · replace hrun := it_pos cd hrun
          exact j68 h x0 x2 x3 x4 H locs ls i_x3 i_x4 hM hS (lsub hl [1, 2, 3, 4] rfl) hrun
        · replace hrun := it_neg cd hrun
          refine s_aload hx hb dX5_drop_50 (la hl 0 rfl) ?_
          obtain ⟨v9, g9, hrun⟩ := bd hrun
          refine s_getfr hx hb hts kl_3 hown hE.1 hM (ci := 3) rfl (by decide) rfl (k := 0) (by decide) rfl (hts _ kw_455) g9 dX5_drop_52 ?_
          refine s_aload_n hx hb dX5_drop_55 rfl (la hl 2 rfl) ?_
          refine s_acmp_ne (tgt := 68) hx hb dX5_drop_56 (by decide) (fun cd => ?_) (fun cd => ?_)
          · replace hrun := it_pos cd hrun
            exact j68 h x0 x2 x3 x4 H locs ls i_x3 i_x4 hM hS (lsub hl [1, 2, 3, 4] rfl) hrun
          · replace hrun := it_neg cd hrun
            refine lv_iload_n hx hb dX5_drop_59 rfl (la hl 3 rfl) ?_
            refine s_aload_n hx hb dX5_drop_60 rfl (la hl 1 rfl) ?_
            refine s_aload hx hb dX5_drop_61 (la hl 0 rfl) ?_
            obtain ⟨u11, g11, hrun⟩ := bd hrun
            obtain ⟨r10, g10, hrun⟩ := bd hrun
            refine s_callV (n := 1) (rest := [vi x3]) [vr v8] hx hb hml hown hts hE hM hS (c_X5_giveBack l D G base h r10.2 x0 v8 r10.1 g10) kw_103 kw_100 kw_37 kw_102 kw_0 (by decide +kernel) ⟨Nat.le_of_ble_eq_true rfl, Nat.le_of_ble_eq_true rfl⟩ rfl rfl (by decide) g11 rfl hl.1.1 rfl (c8 (c_i c_0) (Nat.le_of_ble_eq_true rfl)) dX5_drop_63 ⟨Nat.le_of_ble_eq_true rfl, Nat.le_of_ble_eq_true rfl⟩ (fun H locs i_r10 hM hS => ?_)
            refine W.eq (g2 := F0 m 66 ls [vi r10.1, vi x3]) rfl ?_
            refine s_iadd hx hb dX5_drop_66 ?_
            refine t_istore_n (lv' := [(3, vi (wr (x3 + r10.1))), (5, vr v8), (0, vr x0), (2, vr x2), (4, vi x4)]) hx hb dX5_drop_67 rfl hl (by decide) rfl (fun ls hl => ?_)
            exact j68 r10.2 x0 x2 (wr (x3 + r10.1)) x4 H locs ls (inr_wr _) i_x4 hM hS (lsub hl [2, 3, 0, 4] rfl) hrun
  refine s_entry hargs hM (c_r (c_i c_0)) (Nat.le_of_ble_eq_true rfl) (fun H locs ls hM hS hl => ?_)
  replace hl : lvh ls 6 [(0, vr x0), (1, vi x1)] := hl
  unfold f_X5_drop at hrun
  refine s_aload_n hx hb dX5_drop_0 rfl (la hl 0 rfl) ?_
  refine lv_iload_n hx hb dX5_drop_1 rfl (la hl 1 rfl) ?_
  obtain ⟨u2, g2, hrun⟩ := bd hrun
  obtain ⟨r1, g1, hrun⟩ := bd hrun
  refine s_callVX (n := 1) (rest := []) [vi x1] hx hb hml hown hts hE hM hS (c_X5_knownCache l D G base h r1.2.2 x0 x1 r1.1 r1.2.1 i_x1 g1) kw_365 kw_362 kw_37 kw_364 kw_7 (by decide +kernel) ⟨Nat.le_of_ble_eq_true rfl, Nat.le_of_ble_eq_true rfl⟩ rfl rfl (by decide) g2 rfl hl.1.1 rfl (c8 c_0 (Nat.le_of_ble_eq_true rfl)) dX5_drop_2 ⟨Nat.le_of_ble_eq_true rfl, Nat.le_of_ble_eq_true rfl⟩ (fun cd ce q9 H locs k9 hk9 hM hS hce hcv hcl => s_prop hout hlocks cd (it_neg cd hrun) hk9 hM hS hce hcv hcl (Nat.le_of_ble_eq_true rfl) (Nat.le_of_ble_eq_true rfl)) (fun cd H locs i_r1 hM hS => ?_)
  replace hrun := it_pos cd hrun
  refine W.eq (g2 := F0 m 5 ls [vr r1.2.1]) rfl ?_
  refine t_astore_n (lv' := [(2, vr r1.2.1), (0, vr x0), (1, vi x1)]) hx hb dX5_drop_5 rfl hl (by decide) rfl (fun ls hl => ?_)
  refine s_aload_n hx hb dX5_drop_6 rfl (la hl 0 rfl) ?_
  obtain ⟨v3, g3, hrun⟩ := bd hrun
  refine s_getfi hx hb hts kl_1 hown hE.1 hM (ci := 1) rfl (by decide) rfl (k := 10) (by decide) rfl (hts _ kw_307) g3 dX5_drop_7 ?_
  have i_v3 : inr v3 := gtf_i hM g3 (by decide) rfl
  refine s_if_le (tgt := 23) hx hb dX5_drop_10 (by decide) i_v3 (fun cd => ?_) (fun cd => ?_)
  · replace hrun := it_pos cd hrun
    refine lv_iconst (v := Int32.ofInt 0) hx hb dX5_drop_23 rfl ?_
    refine t_istore_n (lv' := [(3, vi 0), (2, vr r1.2.1), (0, vr x0), (1, vi x1)]) hx hb dX5_drop_24 rfl hl (by decide) rfl (fun ls hl => ?_)
    refine lv_iconst (v := Int32.ofInt 0) hx hb dX5_drop_25 rfl ?_
    refine t_istore (lv' := [(4, vi 0), (3, vi 0), (2, vr r1.2.1), (0, vr x0), (1, vi x1)]) hx hb dX5_drop_26 hl (by decide) rfl (fun ls hl => ?_)
    exact lp28 fuel r1.2.2 x0 r1.2.1 0 0 H locs ls (by decide) (by decide) hM hS (lsub hl [3, 2, 1, 0] rfl) hrun
  · replace hrun := it_neg cd hrun
    exact s_throw 3 (by decide) rfl hx hb hml hl.1.1 hown hts hE hM hS hout hlocks (by decide +kernel) kw_382 kw_49 (is := 61) (text := "an object of it is live") (by decide) xg_63 xr_63 xo_63 dX5_drop_13 dX5_drop_16 dX5_drop_17 dX5_drop_19 dX5_drop_22 (Nat.le_of_ble_eq_true rfl) (cN c_0 (Nat.le_of_ble_eq_true rfl)) (Nat.le_of_ble_eq_true rfl) (Nat.le_of_ble_eq_true rfl) (Nat.le_of_ble_eq_true rfl) (Nat.le_of_ble_eq_true rfl) hrun
def f_X5_allocate_j30 (h : Hp) (x0 x3 x4 : Int) : Option (Nat × Int × Hp) :=
  Option.bind (ckd h 5 x0) fun u9 =>
  Option.bind (f_X5_slabAt h x0 x4) fun r8 =>
  if 0 ≤ r8.1 then (
    Option.bind (ckd r8.2 3 r8.1) fun u11 =>
    Option.bind (f_X3_numberOver r8.2 r8.1 x4) fun r10 =>
    Option.bind (ckd r10.2 3 r8.1) fun u13 =>
    Option.bind (f_X3_become r10.2 r8.1 r10.1 (-2)) fun r12 =>
    Option.bind (gtf r12.2 1 10 x3) fun v14 =>
    Option.bind (ptf r12.2 1 10 x3 (wr (v14 + 1))) fun h15 =>
    some (0, x4, h15)
  ) else (
    Option.bind (gtf r8.2 1 11 x3) fun v16 =>
    Option.bind (ptf r8.2 1 11 x3 (wr (v16 + 1))) fun h17 =>
    some (0, (-1), h17)
  )
def f_X5_allocate (h : Hp) (x0 x1 x2 : Int) : Option (Nat × Int × Hp) :=
  Option.bind (ckd h 5 x0) fun u2 =>
  Option.bind (f_X5_knownCache h x0 x1) fun r1 =>
  if r1.1 = 0 then (
  Option.bind (f_X5_requireProcessor r1.2.2 x2) fun r3 =>
  if r3.1 = 0 then (
  Option.bind (ckd r3.2.2 1 r1.2.1) fun u5 =>
  Option.bind (f_X1_takeFromMagazines r3.2.2 r1.2.1 x2) fun r4 =>
  if r4.1 ≠ (-1) then (
    f_X5_allocate_j30 r4.2 x0 r1.2.1 r4.1
  ) else (
    Option.bind (ckd r4.2 5 x0) fun u7 =>
    Option.bind (f_X5_takeFromSlabs r4.2 x0 r1.2.1) fun r6 =>
    f_X5_allocate_j30 r6.2 x0 r1.2.1 r6.1
  )
  ) else (some (r3.1, 0, r3.2.2))
  ) else (some (r1.1, 0, r1.2.2))
abbrev w_X5_allocate : List Cond := Cond.code yX5_allocate cX5_allocate 6 (some .int) :: BW
abbrev rm_X5_allocate : Room := { frames := 7, cells := 7, slots := 2079, locals := 147 }
set_option maxHeartbeats 4000000 in
set_option maxRecDepth 100000 in
theorem c_X5_allocate (l : Launch) (D : va_G) (G : Nat → ClassId) (base : Nat) (h h' : Hp) (x0 x1 x2 : Int) (code : Nat) (rv : Int) (i_x1 : inr x1) (i_x2 : inr x2) (hrun : f_X5_allocate h x0 x1 x2 = some (code, rv, h')) : vx_Met l yX5_allocate w_X5_allocate rm_X5_allocate (PC l D G base h [vr x0, vi x1, vi x2]) (QRx D G base code (some (vi rv)) (inr rv) h') (XR D G base code h') rm_X5_allocate.cells rm_X5_allocate.slots (Ab base) := by
  refine vx_ofW (cc := cX5_allocate) (maxL := 6) (ret := (some .int)) (by decide) rfl ?_
  intro p e s m args below meth c s₁ B hml hout hv
  obtain ⟨hargs, hE, hM⟩ := hv
  have hx := B.exec
  have hb := B.bytes
  have hr := B.returns
  have hts0 := atoms_spec (ws := w_X5_allocate) B.pre
  have hts : ∀ w ∈ BW, w.before args s = true := fun w hw => hts0 w (List.mem_cons_of_mem _ hw)
  have hown : s.vm.findClass RX5 = some m.cls := findClass_of_methodNamed B.named
  have hlocks := B.notSynchronized
  have j30 : ∀ (h : Hp) (x0 x3 x4 : Int) (H : Heap) (locs : List Loc) (ls : Array Slot), inr x4 → SM D G base h H → va_S (Ab base) s.heap H locs → lvh ls 6 [(0, vr x0), (3, vr x3), (4, vi x4)] → f_X5_allocate_j30 h x0 x3 x4 = some (code, rv, h') → W p l e (headSpec w_X5_allocate rm_X5_allocate).room s m args below meth c H locs 7 2079 (QIx D G base code rv h' below args s 7 2079) (F0 m 30 ls []) := by
    intro h x0 x3 x4 H locs ls i_x4 hM hS hl hrun
    unfold f_X5_allocate_j30 at hrun
    refine s_aload_n hx hb dX5_allocate_30 rfl (la hl 0 rfl) ?_
    refine lv_iload hx hb dX5_allocate_31 (la hl 2 rfl) ?_
    obtain ⟨u9, g9, hrun⟩ := bd hrun
    obtain ⟨r8, g8, hrun⟩ := bd hrun
    refine s_callV (n := 1) (rest := []) [vi x4] hx hb hml hown hts hE hM hS (c_X5_slabAt l D G base h r8.2 x0 x4 r8.1 i_x4 g8) kw_138 kw_135 kw_37 kw_137 kw_4 (by decide +kernel) ⟨Nat.le_of_ble_eq_true rfl, Nat.le_of_ble_eq_true rfl⟩ rfl rfl (by decide) g9 rfl hl.1.1 rfl (c8 c_0 (Nat.le_of_ble_eq_true rfl)) dX5_allocate_33 ⟨Nat.le_of_ble_eq_true rfl, Nat.le_of_ble_eq_true rfl⟩ (fun H locs i_r8 hM hS => ?_)
    refine W.eq (g2 := F0 m 36 ls [vr r8.1]) rfl ?_
    refine t_astore (lv' := [(5, vr r8.1), (0, vr x0), (3, vr x3), (4, vi x4)]) hx hb dX5_allocate_36 hl (by decide) rfl (fun ls hl => ?_)
    refine s_aload hx hb dX5_allocate_38 (la hl 0 rfl) ?_
    refine s_ifnonnull (tgt := 55) hx hb dX5_allocate_40 (by decide) (fun cd => ?_) (fun cd => ?_)
    · replace hrun := it_pos cd hrun
      refine s_aload hx hb dX5_allocate_55 (la hl 0 rfl) ?_
      refine s_aload hx hb dX5_allocate_57 (la hl 0 rfl) ?_
      refine lv_iload hx hb dX5_allocate_59 (la hl 3 rfl) ?_
      obtain ⟨u11, g11, hrun⟩ := bd hrun
      obtain ⟨r10, g10, hrun⟩ := bd hrun
      refine s_callV (n := 1) (rest := [vr r8.1]) [vi x4] hx hb hml hown hts hE hM hS (c_X3_numberOver l D G base r8.2 r10.2 r8.1 x4 r10.1 i_x4 g10) kw_147 kw_144 kw_51 kw_145 kw_146 (by decide +kernel) ⟨Nat.le_of_ble_eq_true rfl, Nat.le_of_ble_eq_true rfl⟩ rfl rfl (by decide) g11 rfl hl.1.1 rfl (c8 (c_r c_0) (Nat.le_of_ble_eq_true rfl)) dX5_allocate_61 ⟨Nat.le_of_ble_eq_true rfl, Nat.le_of_ble_eq_true rfl⟩ (fun H locs i_r10 hM hS => ?_)
      refine W.eq (g2 := F0 m 64 ls [vi r10.1, vr r8.1]) rfl ?_
      refine lv_bipush (v := Int32.ofInt (-2)) hx hb dX5_allocate_64 (by decide) ?_
      obtain ⟨u13, g13, hrun⟩ := bd hrun
      obtain ⟨r12, g12, hrun⟩ := bd hrun
      refine s_callV (n := 2) (rest := []) [vi r10.1, vi (-2)] hx hb hml hown hts hE hM hS (c_X3_become l D G base r10.2 r12.2 r8.1 r10.1 (-2) r12.1 i_r10 (by decide) g12) kw_536 kw_533 kw_51 kw_534 kw_535 (by decide +kernel) ⟨Nat.le_of_ble_eq_true rfl, Nat.le_of_ble_eq_true rfl⟩ rfl rfl (by decide) g13 rfl hl.1.1 rfl (c8 c_0 (Nat.le_of_ble_eq_true rfl)) dX5_allocate_66 ⟨Nat.le_of_ble_eq_true rfl, Nat.le_of_ble_eq_true rfl⟩ (fun H locs i_r12 hM hS => ?_)
      refine W.eq (g2 := F0 m 69 ls []) rfl ?_
      refine s_aload_n hx hb dX5_allocate_69 rfl (la hl 2 rfl) ?_
      refine lv_dup hx hb dX5_allocate_70 (vr_cat _) ?_
      obtain ⟨v14, g14, hrun⟩ := bd hrun
      refine s_getfi hx hb hts kl_1 hown hE.1 hM (ci := 1) rfl (by decide) rfl (k := 10) (by decide) rfl (hts _ kw_307) g14 dX5_allocate_71 ?_
      have i_v14 : inr v14 := gtf_i hM g14 (by decide) rfl
      refine lv_iconst (v := Int32.ofInt 1) hx hb dX5_allocate_74 rfl ?_
      refine s_iadd hx hb dX5_allocate_75 ?_
      obtain ⟨h15, g15, hrun⟩ := bd hrun
      refine s_put (b := false) hx hb hts kl_1 tyX1 tyX1_ok nmX1 hown hE.1 hM hS (ci := 1) rfl (by decide) rfl (k := 10) (by decide) rfl (hts _ kw_307) rfl (vp_nar_int _) rfl (fun _ => (inr_wr _)) g15 dX5_allocate_76 (fun H locs hM hS => ?_)
      refine lv_iload hx hb dX5_allocate_79 (la hl 3 rfl) ?_
      exact s_xret hx hb hr hlocks hM hS i_x4 hrun (Nat.le_of_ble_eq_true rfl) (Nat.le_of_ble_eq_true rfl) dX5_allocate_81
    · replace hrun := it_neg cd hrun
      refine s_aload_n hx hb dX5_allocate_43 rfl (la hl 2 rfl) ?_
      refine lv_dup hx hb dX5_allocate_44 (vr_cat _) ?_
      obtain ⟨v16, g16, hrun⟩ := bd hrun
      refine s_getfi hx hb hts kl_1 hown hE.1 hM (ci := 1) rfl (by decide) rfl (k := 11) (by decide) rfl (hts _ kw_308) g16 dX5_allocate_45 ?_
      have i_v16 : inr v16 := gtf_i hM g16 (by decide) rfl
      refine lv_iconst (v := Int32.ofInt 1) hx hb dX5_allocate_48 rfl ?_
      refine s_iadd hx hb dX5_allocate_49 ?_
      obtain ⟨h17, g17, hrun⟩ := bd hrun
      refine s_put (b := false) hx hb hts kl_1 tyX1 tyX1_ok nmX1 hown hE.1 hM hS (ci := 1) rfl (by decide) rfl (k := 11) (by decide) rfl (hts _ kw_308) rfl (vp_nar_int _) rfl (fun _ => (inr_wr _)) g17 dX5_allocate_50 (fun H locs hM hS => ?_)
      refine lv_iconst (v := Int32.ofInt (-1)) hx hb dX5_allocate_53 rfl ?_
      exact s_xret hx hb hr hlocks hM hS (by decide) hrun (Nat.le_of_ble_eq_true rfl) (Nat.le_of_ble_eq_true rfl) dX5_allocate_54
  refine s_entry hargs hM (c_r (c_i (c_i c_0))) (Nat.le_of_ble_eq_true rfl) (fun H locs ls hM hS hl => ?_)
  replace hl : lvh ls 6 [(0, vr x0), (1, vi x1), (2, vi x2)] := hl
  unfold f_X5_allocate at hrun
  refine s_aload_n hx hb dX5_allocate_0 rfl (la hl 0 rfl) ?_
  refine lv_iload_n hx hb dX5_allocate_1 rfl (la hl 1 rfl) ?_
  obtain ⟨u2, g2, hrun⟩ := bd hrun
  obtain ⟨r1, g1, hrun⟩ := bd hrun
  refine s_callVX (n := 1) (rest := []) [vi x1] hx hb hml hown hts hE hM hS (c_X5_knownCache l D G base h r1.2.2 x0 x1 r1.1 r1.2.1 i_x1 g1) kw_365 kw_362 kw_37 kw_364 kw_7 (by decide +kernel) ⟨Nat.le_of_ble_eq_true rfl, Nat.le_of_ble_eq_true rfl⟩ rfl rfl (by decide) g2 rfl hl.1.1 rfl (c8 c_0 (Nat.le_of_ble_eq_true rfl)) dX5_allocate_2 ⟨Nat.le_of_ble_eq_true rfl, Nat.le_of_ble_eq_true rfl⟩ (fun cd ce q9 H locs k9 hk9 hM hS hce hcv hcl => s_prop hout hlocks cd (it_neg cd hrun) hk9 hM hS hce hcv hcl (Nat.le_of_ble_eq_true rfl) (Nat.le_of_ble_eq_true rfl)) (fun cd H locs i_r1 hM hS => ?_)
  replace hrun := it_pos cd hrun
  refine W.eq (g2 := F0 m 5 ls [vr r1.2.1]) rfl ?_
  refine t_astore_n (lv' := [(3, vr r1.2.1), (0, vr x0), (1, vi x1), (2, vi x2)]) hx hb dX5_allocate_5 rfl hl (by decide) rfl (fun ls hl => ?_)
  refine lv_iload_n hx hb dX5_allocate_6 rfl (la hl 3 rfl) ?_
  obtain ⟨r3, g3, hrun⟩ := bd hrun
  refine s_callSX (n := 1) (rest := []) [vi x2] hx hb hml hown hts hE hM hS (c_X5_requireProcessor l D G base r1.2.2 r3.2.2 x2 r3.1 r3.2.1 i_x2 g3) kw_407 kw_405 kw_37 kw_406 (by decide +kernel) ⟨Nat.le_of_ble_eq_true rfl, Nat.le_of_ble_eq_true rfl⟩ rfl hl.1.1 rfl (c8 c_0 (Nat.le_of_ble_eq_true rfl)) dX5_allocate_7 ⟨Nat.le_of_ble_eq_true rfl, Nat.le_of_ble_eq_true rfl⟩ (fun cd ce q9 H locs k9 hk9 hM hS hce hcv hcl => s_prop hout hlocks cd (it_neg cd hrun) hk9 hM hS hce hcv hcl (Nat.le_of_ble_eq_true rfl) (Nat.le_of_ble_eq_true rfl)) (fun cd H locs i_r3 hM hS => ?_)
  replace hrun := it_pos cd hrun
  refine W.eq (g2 := F0 m 10 ls []) rfl ?_
  refine s_aload_n hx hb dX5_allocate_10 rfl (la hl 0 rfl) ?_
  refine lv_iload_n hx hb dX5_allocate_11 rfl (la hl 3 rfl) ?_
  obtain ⟨u5, g5, hrun⟩ := bd hrun
  obtain ⟨r4, g4, hrun⟩ := bd hrun
  refine s_callV (n := 1) (rest := []) [vi x2] hx hb hml hown hts hE hM hS (c_X1_takeFromMagazines l D G base r3.2.2 r4.2 r1.2.1 x2 r4.1 i_x2 g4) kw_412 kw_409 kw_45 kw_410 kw_411 (by decide +kernel) ⟨Nat.le_of_ble_eq_true rfl, Nat.le_of_ble_eq_true rfl⟩ rfl rfl (by decide) g5 rfl hl.1.1 rfl (c8 c_0 (Nat.le_of_ble_eq_true rfl)) dX5_allocate_12 ⟨Nat.le_of_ble_eq_true rfl, Nat.le_of_ble_eq_true rfl⟩ (fun H locs i_r4 hM hS => ?_)
  refine W.eq (g2 := F0 m 15 ls [vi r4.1]) rfl ?_
  refine t_istore (lv' := [(4, vi r4.1), (3, vr r1.2.1), (0, vr x0), (1, vi x1), (2, vi x2)]) hx hb dX5_allocate_15 hl (by decide) rfl (fun ls hl => ?_)
  refine lv_iload hx hb dX5_allocate_17 (la hl 0 rfl) ?_
  refine lv_iconst (v := Int32.ofInt (-1)) hx hb dX5_allocate_19 rfl ?_
  refine s_icmp_ne (tgt := 30) hx hb dX5_allocate_20 (by decide) i_r4 (by decide) (fun cd => ?_) (fun cd => ?_)
  · replace hrun := it_pos cd hrun
    refine W.widen (k := 7) (n := 2079) (Nat.le_of_ble_eq_true rfl) (Nat.le_of_ble_eq_true rfl) ?_
    exact j30 r4.2 x0 r1.2.1 r4.1 H locs ls i_r4 hM hS (lsub hl [2, 1, 0] rfl) hrun
  · replace hrun := it_neg cd hrun
    refine s_aload_n hx hb dX5_allocate_23 rfl (la hl 2 rfl) ?_
    refine s_aload_n hx hb dX5_allocate_24 rfl (la hl 1 rfl) ?_
    obtain ⟨u7, g7, hrun⟩ := bd hrun
    obtain ⟨r6, g6, hrun⟩ := bd hrun
    refine s_callV (n := 1) (rest := []) [vr r1.2.1] hx hb hml hown hts hE hM hS (c_X5_takeFromSlabs l D G base r4.2 r6.2 x0 r1.2.1 r6.1 g6) kw_428 kw_425 kw_37 kw_427 kw_9 (by decide +kernel) ⟨Nat.le_of_ble_eq_true rfl, Nat.le_of_ble_eq_true rfl⟩ rfl rfl (by decide) g7 rfl hl.1.1 rfl (c8 c_0 (Nat.le_of_ble_eq_true rfl)) dX5_allocate_25 ⟨Nat.le_of_ble_eq_true rfl, Nat.le_of_ble_eq_true rfl⟩ (fun H locs i_r6 hM hS => ?_)
    refine W.eq (g2 := F0 m 28 ls [vi r6.1]) rfl ?_
    refine t_istore (lv' := [(4, vi r6.1), (3, vr r1.2.1), (0, vr x0), (1, vi x1), (2, vi x2)]) hx hb dX5_allocate_28 hl (by decide) rfl (fun ls hl => ?_)
    exact j30 r6.2 x0 r1.2.1 r6.1 H locs ls i_r6 hM hS (lsub hl [2, 1, 0] rfl) hrun
def f_X5_free_j18 (h : Hp) : Option (Nat × Int × Hp) :=
  some (1, 0, h)
def f_X5_free_j106 (h : Hp) (x4 : Int) : Option (Nat × Int × Hp) :=
  Option.bind (gtf h 1 0 x4) fun v20 =>
  some (0, v20, h)
def f_X5_free (h : Hp) (x0 x1 x2 : Int) : Option (Nat × Int × Hp) :=
  Option.bind (ckd h 5 x0) fun u2 =>
  Option.bind (f_X5_slabAt h x0 x1) fun r1 =>
  if r1.1 < 0 then (
    f_X5_free_j18 r1.2
  ) else (
    Option.bind (ckd r1.2 3 r1.1) fun u4 =>
    Option.bind (f_X3_liveBeginsAt r1.2 r1.1 x1) fun r3 =>
    if r3.1 ≠ 0 then (
      Option.bind (f_X5_requireProcessor r3.2 x2) fun r5 =>
      if r5.1 = 0 then (
      Option.bind (gtf r5.2.2 3 0 r1.1) fun v6 =>
      Option.bind (ckd r5.2.2 3 r1.1) fun u8 =>
      Option.bind (f_X3_numberOver r5.2.2 r1.1 x1) fun r7 =>
      Option.bind (ckd r7.2 3 r1.1) fun u10 =>
      Option.bind (f_X3_markOf r7.2 r1.1 r7.1) fun r9 =>
      Option.bind (gtf r9.2 1 4 v6) fun v11 =>
      if r9.1 = v11 then (
        Option.bind (gtf r9.2 1 10 v6) fun v12 =>
        Option.bind (ptf r9.2 1 10 v6 (wr (v12 - 1))) fun h13 =>
        Option.bind (ckd h13 1 v6) fun u15 =>
        Option.bind (f_X1_putIntoMagazines h13 v6 x2 x1) fun r14 =>
        if r14.1 = 0 then (
          Option.bind (ckd r14.2 5 x0) fun u17 =>
          Option.bind (f_X5_comeBack r14.2 x0 x1) fun r16 =>
          f_X5_free_j106 r16.2 v6
        ) else (
          Option.bind (ckd r14.2 3 r1.1) fun u19 =>
          Option.bind (f_X3_become r14.2 r1.1 r7.1 (-3)) fun r18 =>
          f_X5_free_j106 r18.2 v6
        )
      ) else (
        some (3, 0, r9.2)
      )
      ) else (some (r5.1, 0, r5.2.2))
    ) else (
      f_X5_free_j18 r3.2
    )
  )
abbrev w_X5_free : List Cond := Cond.code yX5_free cX5_free 6 (some .int) :: BW
abbrev rm_X5_free : Room := { frames := 7, cells := 3, slots := 12, locals := 102 }
set_option maxHeartbeats 4000000 in
set_option maxRecDepth 100000 in
theorem c_X5_free (l : Launch) (D : va_G) (G : Nat → ClassId) (base : Nat) (h h' : Hp) (x0 x1 x2 : Int) (code : Nat) (rv : Int) (i_x1 : inr x1) (i_x2 : inr x2) (hrun : f_X5_free h x0 x1 x2 = some (code, rv, h')) : vx_Met l yX5_free w_X5_free rm_X5_free (PC l D G base h [vr x0, vi x1, vi x2]) (QRx D G base code (some (vi rv)) (inr rv) h') (XR D G base code h') rm_X5_free.cells rm_X5_free.slots (Ab base) := by
  refine vx_ofW (cc := cX5_free) (maxL := 6) (ret := (some .int)) (by decide) rfl ?_
  intro p e s m args below meth c s₁ B hml hout hv
  obtain ⟨hargs, hE, hM⟩ := hv
  have hx := B.exec
  have hb := B.bytes
  have hr := B.returns
  have hts0 := atoms_spec (ws := w_X5_free) B.pre
  have hts : ∀ w ∈ BW, w.before args s = true := fun w hw => hts0 w (List.mem_cons_of_mem _ hw)
  have hown : s.vm.findClass RX5 = some m.cls := findClass_of_methodNamed B.named
  have hlocks := B.notSynchronized
  have j18 : ∀ (h : Hp) (H : Heap) (locs : List Loc) (ls : Array Slot), SM D G base h H → va_S (Ab base) s.heap H locs → lvh ls 6 [] → f_X5_free_j18 h = some (code, rv, h') → W p l e (headSpec w_X5_free rm_X5_free).room s m args below meth c H locs 0 0 (QIx D G base code rv h' below args s 3 12) (F0 m 18 ls []) := by
    intro h H locs ls hM hS hl hrun
    unfold f_X5_free_j18 at hrun
    exact s_throwE hx hb hml hl.1.1 hown hts hE hM hS hout hlocks (is := 107) (text := "no live object begins there") (by decide)  dX5_free_18 dX5_free_21 dX5_free_22 dX5_free_24 dX5_free_27 (Nat.le_of_ble_eq_true rfl) (cN c_0 (Nat.le_of_ble_eq_true rfl)) (Nat.le_of_ble_eq_true rfl) (Nat.le_of_ble_eq_true rfl) (Nat.le_of_ble_eq_true rfl) (Nat.le_of_ble_eq_true rfl) hrun
  have j106 : ∀ (h : Hp) (x4 : Int) (H : Heap) (locs : List Loc) (ls : Array Slot), SM D G base h H → va_S (Ab base) s.heap H locs → lvh ls 6 [(4, vr x4)] → f_X5_free_j106 h x4 = some (code, rv, h') → W p l e (headSpec w_X5_free rm_X5_free).room s m args below meth c H locs 3 12 (QIx D G base code rv h' below args s 3 12) (F0 m 106 ls []) := by
    intro h x4 H locs ls hM hS hl hrun
    unfold f_X5_free_j106 at hrun
    refine s_aload hx hb dX5_free_106 (la hl 0 rfl) ?_
    obtain ⟨v20, g20, hrun⟩ := bd hrun
    refine s_getfi hx hb hts kl_1 hown hE.1 hM (ci := 1) rfl (by decide) rfl (k := 0) (by decide) rfl (hts _ kw_287) g20 dX5_free_108 ?_
    have i_v20 : inr v20 := gtf_i hM g20 (by decide) rfl
    exact s_xret hx hb hr hlocks hM hS i_v20 hrun (Nat.le_of_ble_eq_true rfl) (Nat.le_of_ble_eq_true rfl) dX5_free_111
  refine s_entry hargs hM (c_r (c_i (c_i c_0))) (Nat.le_of_ble_eq_true rfl) (fun H locs ls hM hS hl => ?_)
  replace hl : lvh ls 6 [(0, vr x0), (1, vi x1), (2, vi x2)] := hl
  unfold f_X5_free at hrun
  refine s_aload_n hx hb dX5_free_0 rfl (la hl 0 rfl) ?_
  refine lv_iload_n hx hb dX5_free_1 rfl (la hl 1 rfl) ?_
  obtain ⟨u2, g2, hrun⟩ := bd hrun
  obtain ⟨r1, g1, hrun⟩ := bd hrun
  refine s_callV (n := 1) (rest := []) [vi x1] hx hb hml hown hts hE hM hS (c_X5_slabAt l D G base h r1.2 x0 x1 r1.1 i_x1 g1) kw_138 kw_135 kw_37 kw_137 kw_4 (by decide +kernel) ⟨Nat.le_of_ble_eq_true rfl, Nat.le_of_ble_eq_true rfl⟩ rfl rfl (by decide) g2 rfl hl.1.1 rfl (c8 c_0 (Nat.le_of_ble_eq_true rfl)) dX5_free_2 ⟨Nat.le_of_ble_eq_true rfl, Nat.le_of_ble_eq_true rfl⟩ (fun H locs i_r1 hM hS => ?_)
  refine W.eq (g2 := F0 m 5 ls [vr r1.1]) rfl ?_
  refine t_astore_n (lv' := [(3, vr r1.1), (0, vr x0), (1, vi x1), (2, vi x2)]) hx hb dX5_free_5 rfl hl (by decide) rfl (fun ls hl => ?_)
  refine s_aload_n hx hb dX5_free_6 rfl (la hl 0 rfl) ?_
  refine s_ifnull (tgt := 18) hx hb dX5_free_7 (by decide) (fun cd => ?_) (fun cd => ?_)
  · replace hrun := it_pos cd hrun
    exact j18 r1.2 H locs ls hM hS (lsub hl [] rfl) hrun
  · replace hrun := it_neg cd hrun
    refine s_aload_n hx hb dX5_free_10 rfl (la hl 0 rfl) ?_
    refine lv_iload_n hx hb dX5_free_11 rfl (la hl 2 rfl) ?_
    obtain ⟨u4, g4, hrun⟩ := bd hrun
    obtain ⟨r3, g3, hrun⟩ := bd hrun
    refine s_callV (n := 1) (rest := []) [vi x1] hx hb hml hown hts hE hM hS (c_X3_liveBeginsAt l D G base r1.2 r3.2 r1.1 x1 r3.1 i_x1 g3) kw_547 kw_544 kw_51 kw_545 kw_546 (by decide +kernel) ⟨Nat.le_of_ble_eq_true rfl, Nat.le_of_ble_eq_true rfl⟩ rfl rfl (by decide) g4 rfl hl.1.1 rfl (c8 c_0 (Nat.le_of_ble_eq_true rfl)) dX5_free_12 ⟨Nat.le_of_ble_eq_true rfl, Nat.le_of_ble_eq_true rfl⟩ (fun H locs i_r3 hM hS => ?_)
    refine W.eq (g2 := F0 m 15 ls [vi r3.1]) rfl ?_
    refine s_if_ne (tgt := 28) hx hb dX5_free_15 (by decide) i_r3 (fun cd => ?_) (fun cd => ?_)
    · replace hrun := it_pos cd hrun
      refine lv_iload_n hx hb dX5_free_28 rfl (la hl 3 rfl) ?_
      obtain ⟨r5, g5, hrun⟩ := bd hrun
      refine s_callSX (n := 1) (rest := []) [vi x2] hx hb hml hown hts hE hM hS (c_X5_requireProcessor l D G base r3.2 r5.2.2 x2 r5.1 r5.2.1 i_x2 g5) kw_407 kw_405 kw_37 kw_406 (by decide +kernel) ⟨Nat.le_of_ble_eq_true rfl, Nat.le_of_ble_eq_true rfl⟩ rfl hl.1.1 rfl (c8 c_0 (Nat.le_of_ble_eq_true rfl)) dX5_free_29 ⟨Nat.le_of_ble_eq_true rfl, Nat.le_of_ble_eq_true rfl⟩ (fun cd ce q9 H locs k9 hk9 hM hS hce hcv hcl => s_prop hout hlocks cd (it_neg cd hrun) hk9 hM hS hce hcv hcl (Nat.le_of_ble_eq_true rfl) (Nat.le_of_ble_eq_true rfl)) (fun cd H locs i_r5 hM hS => ?_)
      replace hrun := it_pos cd hrun
      refine W.eq (g2 := F0 m 32 ls []) rfl ?_
      refine s_aload_n hx hb dX5_free_32 rfl (la hl 0 rfl) ?_
      obtain ⟨v6, g6, hrun⟩ := bd hrun
      refine s_getfr hx hb hts kl_3 hown hE.1 hM (ci := 3) rfl (by decide) rfl (k := 0) (by decide) rfl (hts _ kw_455) g6 dX5_free_33 ?_
      refine t_astore (lv' := [(4, vr v6), (3, vr r1.1), (0, vr x0), (1, vi x1), (2, vi x2)]) hx hb dX5_free_36 hl (by decide) rfl (fun ls hl => ?_)
      refine s_aload_n hx hb dX5_free_38 rfl (la hl 1 rfl) ?_
      refine lv_iload_n hx hb dX5_free_39 rfl (la hl 3 rfl) ?_
      obtain ⟨u8, g8, hrun⟩ := bd hrun
      obtain ⟨r7, g7, hrun⟩ := bd hrun
      refine s_callV (n := 1) (rest := []) [vi x1] hx hb hml hown hts hE hM hS (c_X3_numberOver l D G base r5.2.2 r7.2 r1.1 x1 r7.1 i_x1 g7) kw_147 kw_144 kw_51 kw_145 kw_146 (by decide +kernel) ⟨Nat.le_of_ble_eq_true rfl, Nat.le_of_ble_eq_true rfl⟩ rfl rfl (by decide) g8 rfl hl.1.1 rfl (c8 c_0 (Nat.le_of_ble_eq_true rfl)) dX5_free_40 ⟨Nat.le_of_ble_eq_true rfl, Nat.le_of_ble_eq_true rfl⟩ (fun H locs i_r7 hM hS => ?_)
      refine W.eq (g2 := F0 m 43 ls [vi r7.1]) rfl ?_
      refine t_istore (lv' := [(5, vi r7.1), (4, vr v6), (3, vr r1.1), (0, vr x0), (1, vi x1), (2, vi x2)]) hx hb dX5_free_43 hl (by decide) rfl (fun ls hl => ?_)
      refine s_aload_n hx hb dX5_free_45 rfl (la hl 2 rfl) ?_
      refine lv_iload hx hb dX5_free_46 (la hl 0 rfl) ?_
      obtain ⟨u10, g10, hrun⟩ := bd hrun
      obtain ⟨r9, g9, hrun⟩ := bd hrun
      refine s_callV (n := 1) (rest := []) [vi r7.1] hx hb hml hown hts hE hM hS (c_X3_markOf l D G base r7.2 r9.2 r1.1 r7.1 r9.1 i_r7 g9) kw_554 kw_551 kw_51 kw_552 kw_553 (by decide +kernel) ⟨Nat.le_of_ble_eq_true rfl, Nat.le_of_ble_eq_true rfl⟩ rfl rfl (by decide) g10 rfl hl.1.1 rfl (c8 c_0 (Nat.le_of_ble_eq_true rfl)) dX5_free_48 ⟨Nat.le_of_ble_eq_true rfl, Nat.le_of_ble_eq_true rfl⟩ (fun H locs i_r9 hM hS => ?_)
      refine W.eq (g2 := F0 m 51 ls [vi r9.1]) rfl ?_
      refine s_aload hx hb dX5_free_51 (la hl 1 rfl) ?_
      obtain ⟨v11, g11, hrun⟩ := bd hrun
      refine s_getfi hx hb hts kl_1 hown hE.1 hM (ci := 1) rfl (by decide) rfl (k := 4) (by decide) rfl (hts _ kw_295) g11 dX5_free_53 ?_
      have i_v11 : inr v11 := gtf_i hM g11 (by decide) rfl
      refine s_icmp_eq (tgt := 69) hx hb dX5_free_56 (by decide) i_r9 i_v11 (fun cd => ?_) (fun cd => ?_)
      · replace hrun := it_pos cd hrun
        refine s_aload hx hb dX5_free_69 (la hl 1 rfl) ?_
        refine lv_dup hx hb dX5_free_71 (vr_cat _) ?_
        obtain ⟨v12, g12, hrun⟩ := bd hrun
        refine s_getfi hx hb hts kl_1 hown hE.1 hM (ci := 1) rfl (by decide) rfl (k := 10) (by decide) rfl (hts _ kw_307) g12 dX5_free_72 ?_
        have i_v12 : inr v12 := gtf_i hM g12 (by decide) rfl
        refine lv_iconst (v := Int32.ofInt 1) hx hb dX5_free_75 rfl ?_
        refine s_isub hx hb dX5_free_76 ?_
        obtain ⟨h13, g13, hrun⟩ := bd hrun
        refine s_put (b := false) hx hb hts kl_1 tyX1 tyX1_ok nmX1 hown hE.1 hM hS (ci := 1) rfl (by decide) rfl (k := 10) (by decide) rfl (hts _ kw_307) rfl (vp_nar_int _) rfl (fun _ => (inr_wr _)) g13 dX5_free_77 (fun H locs hM hS => ?_)
        refine s_aload hx hb dX5_free_80 (la hl 1 rfl) ?_
        refine lv_iload_n hx hb dX5_free_82 rfl (la hl 5 rfl) ?_
        refine lv_iload_n hx hb dX5_free_83 rfl (la hl 4 rfl) ?_
        obtain ⟨u15, g15, hrun⟩ := bd hrun
        obtain ⟨r14, g14, hrun⟩ := bd hrun
        refine s_callV (n := 2) (rest := []) [vi x2, vi x1] hx hb hml hown hts hE hM hS (c_X1_putIntoMagazines l D G base h13 r14.2 v6 x2 x1 r14.1 i_x2 i_x1 g14) kw_559 kw_556 kw_45 kw_557 kw_558 (by decide +kernel) ⟨Nat.le_of_ble_eq_true rfl, Nat.le_of_ble_eq_true rfl⟩ rfl rfl (by decide) g15 rfl hl.1.1 rfl (c8 c_0 (Nat.le_of_ble_eq_true rfl)) dX5_free_84 ⟨Nat.le_of_ble_eq_true rfl, Nat.le_of_ble_eq_true rfl⟩ (fun H locs i_r14 hM hS => ?_)
        refine W.eq (g2 := F0 m 87 ls [vi r14.1]) rfl ?_
        refine s_if_eq (tgt := 101) hx hb dX5_free_87 (by decide) i_r14 (fun cd => ?_) (fun cd => ?_)
        · replace hrun := it_pos cd hrun
          refine s_aload_n hx hb dX5_free_101 rfl (la hl 3 rfl) ?_
          refine lv_iload_n hx hb dX5_free_102 rfl (la hl 4 rfl) ?_
          obtain ⟨u17, g17, hrun⟩ := bd hrun
          obtain ⟨r16, g16, hrun⟩ := bd hrun
          refine s_callV (n := 1) (rest := []) [vi x1] hx hb hml hown hts hE hM hS (c_X5_comeBack l D G base r14.2 r16.2 x0 x1 r16.1 i_x1 g16) kw_572 kw_569 kw_37 kw_571 kw_13 (by decide +kernel) ⟨Nat.le_of_ble_eq_true rfl, Nat.le_of_ble_eq_true rfl⟩ rfl rfl (by decide) g17 rfl hl.1.1 rfl (c8 c_0 (Nat.le_of_ble_eq_true rfl)) dX5_free_103 ⟨Nat.le_of_ble_eq_true rfl, Nat.le_of_ble_eq_true rfl⟩ (fun H locs i_r16 hM hS => ?_)
          refine W.eq (g2 := F0 m 106 ls []) rfl ?_
          exact j106 r16.2 v6 H locs ls hM hS (lsub hl [1] rfl) hrun
        · replace hrun := it_neg cd hrun
          refine s_aload_n hx hb dX5_free_90 rfl (la hl 2 rfl) ?_
          refine lv_iload hx hb dX5_free_91 (la hl 0 rfl) ?_
          refine lv_bipush (v := Int32.ofInt (-3)) hx hb dX5_free_93 (by decide) ?_
          obtain ⟨u19, g19, hrun⟩ := bd hrun
          obtain ⟨r18, g18, hrun⟩ := bd hrun
          refine s_callV (n := 2) (rest := []) [vi r7.1, vi (-3)] hx hb hml hown hts hE hM hS (c_X3_become l D G base r14.2 r18.2 r1.1 r7.1 (-3) r18.1 i_r7 (by decide) g18) kw_536 kw_533 kw_51 kw_534 kw_535 (by decide +kernel) ⟨Nat.le_of_ble_eq_true rfl, Nat.le_of_ble_eq_true rfl⟩ rfl rfl (by decide) g19 rfl hl.1.1 rfl (c8 c_0 (Nat.le_of_ble_eq_true rfl)) dX5_free_95 ⟨Nat.le_of_ble_eq_true rfl, Nat.le_of_ble_eq_true rfl⟩ (fun H locs i_r18 hM hS => ?_)
          refine W.eq (g2 := F0 m 98 ls []) rfl ?_
          refine lv_goto (tgt := 106) hx hb dX5_free_98 (by decide) ?_
          exact j106 r18.2 v6 H locs ls hM hS (lsub hl [1] rfl) hrun
      · replace hrun := it_neg cd hrun
        exact s_throw 3 (by decide) rfl hx hb hml hl.1.1 hown hts hE hM hS hout hlocks (by decide +kernel) kw_382 kw_49 (is := 116) (text := "its mark is not the tag") (by decide) xg_63 xr_63 xo_63 dX5_free_59 dX5_free_62 dX5_free_63 dX5_free_65 dX5_free_68 (Nat.le_of_ble_eq_true rfl) (cN c_0 (Nat.le_of_ble_eq_true rfl)) (Nat.le_of_ble_eq_true rfl) (Nat.le_of_ble_eq_true rfl) (Nat.le_of_ble_eq_true rfl) (Nat.le_of_ble_eq_true rfl) hrun
    · replace hrun := it_neg cd hrun
      exact j18 r3.2 H locs ls hM hS (lsub hl [] rfl) hrun
def f_X5_mark_j18 (h : Hp) : Option (Nat × Int × Hp) :=
  some (1, 0, h)
def f_X5_mark (h : Hp) (x0 x1 x2 : Int) : Option (Nat × Int × Hp) :=
  Option.bind (ckd h 5 x0) fun u2 =>
  Option.bind (f_X5_slabAt h x0 x1) fun r1 =>
  if r1.1 < 0 then (
    f_X5_mark_j18 r1.2
  ) else (
    Option.bind (ckd r1.2 3 r1.1) fun u4 =>
    Option.bind (f_X3_liveBeginsAt r1.2 r1.1 x1) fun r3 =>
    if r3.1 ≠ 0 then (
      Option.bind (ckd r3.2 3 r1.1) fun u6 =>
      Option.bind (f_X3_numberOver r3.2 r1.1 x1) fun r5 =>
      Option.bind (ckd r5.2 3 r1.1) fun u8 =>
      Option.bind (f_X3_changeMark r5.2 r1.1 r5.1 x2) fun r7 =>
      some (0, r7.1, r7.2)
    ) else (
      f_X5_mark_j18 r3.2
    )
  )
abbrev w_X5_mark : List Cond := Cond.code yX5_mark cX5_mark 4 (some .int) :: BW
abbrev rm_X5_mark : Room := { frames := 6, cells := 1, slots := 6, locals := 86 }
set_option maxHeartbeats 4000000 in
set_option maxRecDepth 100000 in
theorem c_X5_mark (l : Launch) (D : va_G) (G : Nat → ClassId) (base : Nat) (h h' : Hp) (x0 x1 x2 : Int) (code : Nat) (rv : Int) (i_x1 : inr x1) (i_x2 : inr x2) (hrun : f_X5_mark h x0 x1 x2 = some (code, rv, h')) : vx_Met l yX5_mark w_X5_mark rm_X5_mark (PC l D G base h [vr x0, vi x1, vi x2]) (QRx D G base code (some (vi rv)) (inr rv) h') (XR D G base code h') rm_X5_mark.cells rm_X5_mark.slots (Ab base) := by
  refine vx_ofW (cc := cX5_mark) (maxL := 4) (ret := (some .int)) (by decide) rfl ?_
  intro p e s m args below meth c s₁ B hml hout hv
  obtain ⟨hargs, hE, hM⟩ := hv
  have hx := B.exec
  have hb := B.bytes
  have hr := B.returns
  have hts0 := atoms_spec (ws := w_X5_mark) B.pre
  have hts : ∀ w ∈ BW, w.before args s = true := fun w hw => hts0 w (List.mem_cons_of_mem _ hw)
  have hown : s.vm.findClass RX5 = some m.cls := findClass_of_methodNamed B.named
  have hlocks := B.notSynchronized
  have j18 : ∀ (h : Hp) (H : Heap) (locs : List Loc) (ls : Array Slot), SM D G base h H → va_S (Ab base) s.heap H locs → lvh ls 4 [] → f_X5_mark_j18 h = some (code, rv, h') → W p l e (headSpec w_X5_mark rm_X5_mark).room s m args below meth c H locs 0 0 (QIx D G base code rv h' below args s 1 6) (F0 m 18 ls []) := by
    intro h H locs ls hM hS hl hrun
    unfold f_X5_mark_j18 at hrun
    exact s_throwE hx hb hml hl.1.1 hown hts hE hM hS hout hlocks (is := 107) (text := "no live object begins there") (by decide)  dX5_mark_18 dX5_mark_21 dX5_mark_22 dX5_mark_24 dX5_mark_27 (Nat.le_of_ble_eq_true rfl) (cN c_0 (Nat.le_of_ble_eq_true rfl)) (Nat.le_of_ble_eq_true rfl) (Nat.le_of_ble_eq_true rfl) (Nat.le_of_ble_eq_true rfl) (Nat.le_of_ble_eq_true rfl) hrun
  refine s_entry hargs hM (c_r (c_i (c_i c_0))) (Nat.le_of_ble_eq_true rfl) (fun H locs ls hM hS hl => ?_)
  replace hl : lvh ls 4 [(0, vr x0), (1, vi x1), (2, vi x2)] := hl
  unfold f_X5_mark at hrun
  refine s_aload_n hx hb dX5_mark_0 rfl (la hl 0 rfl) ?_
  refine lv_iload_n hx hb dX5_mark_1 rfl (la hl 1 rfl) ?_
  obtain ⟨u2, g2, hrun⟩ := bd hrun
  obtain ⟨r1, g1, hrun⟩ := bd hrun
  refine s_callV (n := 1) (rest := []) [vi x1] hx hb hml hown hts hE hM hS (c_X5_slabAt l D G base h r1.2 x0 x1 r1.1 i_x1 g1) kw_138 kw_135 kw_37 kw_137 kw_4 (by decide +kernel) ⟨Nat.le_of_ble_eq_true rfl, Nat.le_of_ble_eq_true rfl⟩ rfl rfl (by decide) g2 rfl hl.1.1 rfl (c8 c_0 (Nat.le_of_ble_eq_true rfl)) dX5_mark_2 ⟨Nat.le_of_ble_eq_true rfl, Nat.le_of_ble_eq_true rfl⟩ (fun H locs i_r1 hM hS => ?_)
  refine W.eq (g2 := F0 m 5 ls [vr r1.1]) rfl ?_
  refine t_astore_n (lv' := [(3, vr r1.1), (0, vr x0), (1, vi x1), (2, vi x2)]) hx hb dX5_mark_5 rfl hl (by decide) rfl (fun ls hl => ?_)
  refine s_aload_n hx hb dX5_mark_6 rfl (la hl 0 rfl) ?_
  refine s_ifnull (tgt := 18) hx hb dX5_mark_7 (by decide) (fun cd => ?_) (fun cd => ?_)
  · replace hrun := it_pos cd hrun
    exact j18 r1.2 H locs ls hM hS (lsub hl [] rfl) hrun
  · replace hrun := it_neg cd hrun
    refine s_aload_n hx hb dX5_mark_10 rfl (la hl 0 rfl) ?_
    refine lv_iload_n hx hb dX5_mark_11 rfl (la hl 2 rfl) ?_
    obtain ⟨u4, g4, hrun⟩ := bd hrun
    obtain ⟨r3, g3, hrun⟩ := bd hrun
    refine s_callV (n := 1) (rest := []) [vi x1] hx hb hml hown hts hE hM hS (c_X3_liveBeginsAt l D G base r1.2 r3.2 r1.1 x1 r3.1 i_x1 g3) kw_547 kw_544 kw_51 kw_545 kw_546 (by decide +kernel) ⟨Nat.le_of_ble_eq_true rfl, Nat.le_of_ble_eq_true rfl⟩ rfl rfl (by decide) g4 rfl hl.1.1 rfl (c8 c_0 (Nat.le_of_ble_eq_true rfl)) dX5_mark_12 ⟨Nat.le_of_ble_eq_true rfl, Nat.le_of_ble_eq_true rfl⟩ (fun H locs i_r3 hM hS => ?_)
    refine W.eq (g2 := F0 m 15 ls [vi r3.1]) rfl ?_
    refine s_if_ne (tgt := 28) hx hb dX5_mark_15 (by decide) i_r3 (fun cd => ?_) (fun cd => ?_)
    · replace hrun := it_pos cd hrun
      refine s_aload_n hx hb dX5_mark_28 rfl (la hl 0 rfl) ?_
      refine s_aload_n hx hb dX5_mark_29 rfl (la hl 0 rfl) ?_
      refine lv_iload_n hx hb dX5_mark_30 rfl (la hl 2 rfl) ?_
      obtain ⟨u6, g6, hrun⟩ := bd hrun
      obtain ⟨r5, g5, hrun⟩ := bd hrun
      refine s_callV (n := 1) (rest := [vr r1.1]) [vi x1] hx hb hml hown hts hE hM hS (c_X3_numberOver l D G base r3.2 r5.2 r1.1 x1 r5.1 i_x1 g5) kw_147 kw_144 kw_51 kw_145 kw_146 (by decide +kernel) ⟨Nat.le_of_ble_eq_true rfl, Nat.le_of_ble_eq_true rfl⟩ rfl rfl (by decide) g6 rfl hl.1.1 rfl (c8 (c_r c_0) (Nat.le_of_ble_eq_true rfl)) dX5_mark_31 ⟨Nat.le_of_ble_eq_true rfl, Nat.le_of_ble_eq_true rfl⟩ (fun H locs i_r5 hM hS => ?_)
      refine W.eq (g2 := F0 m 34 ls [vi r5.1, vr r1.1]) rfl ?_
      refine lv_iload_n hx hb dX5_mark_34 rfl (la hl 3 rfl) ?_
      obtain ⟨u8, g8, hrun⟩ := bd hrun
      obtain ⟨r7, g7, hrun⟩ := bd hrun
      refine s_callV (n := 2) (rest := []) [vi r5.1, vi x2] hx hb hml hown hts hE hM hS (c_X3_changeMark l D G base r5.2 r7.2 r1.1 r5.1 x2 r7.1 i_r5 i_x2 g7) kw_587 kw_584 kw_51 kw_585 kw_586 (by decide +kernel) ⟨Nat.le_of_ble_eq_true rfl, Nat.le_of_ble_eq_true rfl⟩ rfl rfl (by decide) g8 rfl hl.1.1 rfl (c8 c_0 (Nat.le_of_ble_eq_true rfl)) dX5_mark_35 ⟨Nat.le_of_ble_eq_true rfl, Nat.le_of_ble_eq_true rfl⟩ (fun H locs i_r7 hM hS => ?_)
      refine W.eq (g2 := F0 m 38 ls [vi r7.1]) rfl ?_
      exact s_xret hx hb hr hlocks hM hS i_r7 hrun (Nat.le_of_ble_eq_true rfl) (Nat.le_of_ble_eq_true rfl) dX5_mark_38
    · replace hrun := it_neg cd hrun
      exact j18 r3.2 H locs ls hM hS (lsub hl [] rfl) hrun
def f_X5_flush_j55 (k8 : Hp → Int → Int → Int → Int → Option (Nat × Int × Hp)) (h : Hp) (x0 x1 x2 x3 : Int) : Option (Nat × Int × Hp) :=
  k8 h x0 x1 x2 (wr (x3 + 1))
def f_X5_flush_s8 (k8 : Hp → Int → Int → Int → Int → Option (Nat × Int × Hp)) (h : Hp) (x0 x1 x2 x3 : Int) : Option (Nat × Int × Hp) :=
  if 8 ≤ x3 then (
    some (0, x2, h)
  ) else (
    Option.bind (gtf h 5 2 x0) fun v2 =>
    Option.bind (ald h 11 v2 x3) fun v3 =>
    if v3 < 0 then (
      f_X5_flush_j55 k8 h x0 x1 x2 x3
    ) else (
      Option.bind (gtf h 1 13 v3) fun v4 =>
      Option.bind (ald h 12 v4 x1) fun v5 =>
      Option.bind (ckd h 5 x0) fun u7 =>
      Option.bind (f_X5_unload h x0 v5) fun r6 =>
      Option.bind (gtf r6.2 1 14 v3) fun v8 =>
      Option.bind (ald r6.2 12 v8 x1) fun v9 =>
      Option.bind (ckd r6.2 5 x0) fun u11 =>
      Option.bind (f_X5_unload r6.2 x0 v9) fun r10 =>
      f_X5_flush_j55 k8 r10.2 x0 x1 (wr ((wr (x2 + r6.1)) + r10.1)) x3
    )
  )
def f_X5_flush_b8 : Nat → Hp → Int → Int → Int → Int → Option (Nat × Int × Hp)
  | 0, _, _, _, _, _ => none
  | n + 1, h, x0, x1, x2, x3 => f_X5_flush_s8 (f_X5_flush_b8 n) h x0 x1 x2 x3
def f_X5_flush (h : Hp) (x0 x1 : Int) : Option (Nat × Int × Hp) :=
  Option.bind (f_X5_requireProcessor h x1) fun r1 =>
  if r1.1 = 0 then (
  f_X5_flush_b8 fuel r1.2.2 x0 x1 0 0
  ) else (some (r1.1, 0, r1.2.2))
abbrev w_X5_flush : List Cond := Cond.code yX5_flush cX5_flush 5 (some .int) :: BW
abbrev rm_X5_flush : Room := { frames := 7, cells := 1, slots := 6, locals := 109 }
set_option maxHeartbeats 4000000 in
set_option maxRecDepth 100000 in
theorem c_X5_flush (l : Launch) (D : va_G) (G : Nat → ClassId) (base : Nat) (h h' : Hp) (x0 x1 : Int) (code : Nat) (rv : Int) (i_x1 : inr x1) (hrun : f_X5_flush h x0 x1 = some (code, rv, h')) : vx_Met l yX5_flush w_X5_flush rm_X5_flush (PC l D G base h [vr x0, vi x1]) (QRx D G base code (some (vi rv)) (inr rv) h') (XR D G base code h') rm_X5_flush.cells rm_X5_flush.slots (Ab base) := by
  refine vx_ofW (cc := cX5_flush) (maxL := 5) (ret := (some .int)) (by decide) rfl ?_
  intro p e s m args below meth c s₁ B hml hout hv
  obtain ⟨hargs, hE, hM⟩ := hv
  have hx := B.exec
  have hb := B.bytes
  have hr := B.returns
  have hts0 := atoms_spec (ws := w_X5_flush) B.pre
  have hts : ∀ w ∈ BW, w.before args s = true := fun w hw => hts0 w (List.mem_cons_of_mem _ hw)
  have hown : s.vm.findClass RX5 = some m.cls := findClass_of_methodNamed B.named
  have hlocks := B.notSynchronized
  have lp8 : ∀ (n8 : Nat) (h : Hp) (x0 x1 x2 x3 : Int) (H : Heap) (locs : List Loc) (ls : Array Slot), inr x1 → inr x2 → inr x3 → SM D G base h H → va_S (Ab base) s.heap H locs → lvh ls 5 [(0, vr x0), (1, vi x1), (2, vi x2), (3, vi x3)] → f_X5_flush_b8 n8 h x0 x1 x2 x3 = some (code, rv, h') → W p l e (headSpec w_X5_flush rm_X5_flush).room s m args below meth c H locs 1 6 (QIx D G base code rv h' below args s 1 6) (F0 m 8 ls []) := by
    intro n8
    induction n8 with
    | zero => intro h x0 x1 x2 x3 H locs ls i_x1 i_x2 i_x3 hM hS hl hrun; exact absurd hrun (fun q => nomatch (show (none : Option (Nat × Int × Hp)) = some (code, rv, h') from q))
    | succ n8 ih8 =>
      have j55 : ∀ (h : Hp) (x0 x1 x2 x3 : Int) (H : Heap) (locs : List Loc) (ls : Array Slot), inr x1 → inr x2 → inr x3 → SM D G base h H → va_S (Ab base) s.heap H locs → lvh ls 5 [(0, vr x0), (1, vi x1), (2, vi x2), (3, vi x3)] → f_X5_flush_j55 (f_X5_flush_b8 n8) h x0 x1 x2 x3 = some (code, rv, h') → W p l e (headSpec w_X5_flush rm_X5_flush).room s m args below meth c H locs 1 6 (QIx D G base code rv h' below args s 1 6) (F0 m 55 ls []) := by
        intro h x0 x1 x2 x3 H locs ls i_x1 i_x2 i_x3 hM hS hl hrun
        unfold f_X5_flush_j55 at hrun
        refine t_iinc (lv' := [(3, vi (wr (x3 + 1))), (0, vr x0), (1, vi x1), (2, vi x2)]) hx hb dX5_flush_55 hl (k := 3) rfl (by decide) rfl rfl (fun ls hl => ?_)
        refine lv_goto (tgt := 8) hx hb dX5_flush_58 (by decide) ?_
        exact ih8 h x0 x1 x2 (wr (x3 + 1)) H locs ls i_x1 i_x2 (inr_wr _) hM hS (lsub hl [1, 2, 3, 0] rfl) hrun
      intro h x0 x1 x2 x3 H locs ls i_x1 i_x2 i_x3 hM hS hl hrun
      replace hrun : f_X5_flush_s8 (f_X5_flush_b8 n8) h x0 x1 x2 x3 = some (code, rv, h') := hrun
      unfold f_X5_flush_s8 at hrun
      refine lv_iload_n hx hb dX5_flush_8 rfl (la hl 3 rfl) ?_
      refine lv_bipush (v := Int32.ofInt 8) hx hb dX5_flush_9 (by decide) ?_
      refine s_icmp_ge (tgt := 61) hx hb dX5_flush_11 (by decide) i_x3 (by decide) (fun cd => ?_) (fun cd => ?_)
      · replace hrun := it_pos cd hrun
        refine lv_iload_n hx hb dX5_flush_61 rfl (la hl 2 rfl) ?_
        exact s_xret hx hb hr hlocks hM hS i_x2 hrun (Nat.le_of_ble_eq_true rfl) (Nat.le_of_ble_eq_true rfl) dX5_flush_62
      · replace hrun := it_neg cd hrun
        refine s_aload_n hx hb dX5_flush_14 rfl (la hl 0 rfl) ?_
        obtain ⟨v2, g2, hrun⟩ := bd hrun
        refine s_getfr hx hb hts kl_5 hown hE.1 hM (ci := 5) rfl (by decide) rfl (k := 2) (by decide) rfl (hts _ kw_85) g2 dX5_flush_15 ?_
        refine lv_iload_n hx hb dX5_flush_18 rfl (la hl 3 rfl) ?_
        obtain ⟨v3, g3, hrun⟩ := bd hrun
        refine s_aald hx hb hE.1 hM (kd := 11) (by decide) rfl i_x3 g3 dX5_flush_19 ?_
        refine t_astore (lv' := [(4, vr v3), (0, vr x0), (1, vi x1), (2, vi x2), (3, vi x3)]) hx hb dX5_flush_20 hl (by decide) rfl (fun ls hl => ?_)
        refine s_aload hx hb dX5_flush_22 (la hl 0 rfl) ?_
        refine s_ifnull (tgt := 55) hx hb dX5_flush_24 (by decide) (fun cd => ?_) (fun cd => ?_)
        · replace hrun := it_pos cd hrun
          exact j55 h x0 x1 x2 x3 H locs ls i_x1 i_x2 i_x3 hM hS (lsub hl [1, 2, 3, 4] rfl) hrun
        · replace hrun := it_neg cd hrun
          refine lv_iload_n hx hb dX5_flush_27 rfl (la hl 3 rfl) ?_
          refine s_aload_n hx hb dX5_flush_28 rfl (la hl 1 rfl) ?_
          refine s_aload hx hb dX5_flush_29 (la hl 0 rfl) ?_
          obtain ⟨v4, g4, hrun⟩ := bd hrun
          refine s_getfr hx hb hts kl_1 hown hE.1 hM (ci := 1) rfl (by decide) rfl (k := 13) (by decide) rfl (hts _ kw_312) g4 dX5_flush_31 ?_
          refine lv_iload_n hx hb dX5_flush_34 rfl (la hl 2 rfl) ?_
          obtain ⟨v5, g5, hrun⟩ := bd hrun
          refine s_aald hx hb hE.1 hM (kd := 12) (by decide) rfl i_x1 g5 dX5_flush_35 ?_
          obtain ⟨u7, g7, hrun⟩ := bd hrun
          obtain ⟨r6, g6, hrun⟩ := bd hrun
          refine s_callV (n := 1) (rest := [vi x2]) [vr v5] hx hb hml hown hts hE hM hS (c_X5_unload l D G base h r6.2 x0 v5 r6.1 g6) kw_599 kw_596 kw_37 kw_598 kw_14 (by decide +kernel) ⟨Nat.le_of_ble_eq_true rfl, Nat.le_of_ble_eq_true rfl⟩ rfl rfl (by decide) g7 rfl hl.1.1 rfl (c8 (c_i c_0) (Nat.le_of_ble_eq_true rfl)) dX5_flush_36 ⟨Nat.le_of_ble_eq_true rfl, Nat.le_of_ble_eq_true rfl⟩ (fun H locs i_r6 hM hS => ?_)
          refine W.eq (g2 := F0 m 39 ls [vi r6.1, vi x2]) rfl ?_
          refine s_iadd hx hb dX5_flush_39 ?_
          refine t_istore_n (lv' := [(2, vi (wr (x2 + r6.1))), (4, vr v3), (0, vr x0), (1, vi x1), (3, vi x3)]) hx hb dX5_flush_40 rfl hl (by decide) rfl (fun ls hl => ?_)
          refine lv_iload_n hx hb dX5_flush_41 rfl (la hl 0 rfl) ?_
          refine s_aload_n hx hb dX5_flush_42 rfl (la hl 2 rfl) ?_
          refine s_aload hx hb dX5_flush_43 (la hl 1 rfl) ?_
          obtain ⟨v8, g8, hrun⟩ := bd hrun
          refine s_getfr hx hb hts kl_1 hown hE.1 hM (ci := 1) rfl (by decide) rfl (k := 14) (by decide) rfl (hts _ kw_314) g8 dX5_flush_45 ?_
          refine lv_iload_n hx hb dX5_flush_48 rfl (la hl 3 rfl) ?_
          obtain ⟨v9, g9, hrun⟩ := bd hrun
          refine s_aald hx hb hE.1 hM (kd := 12) (by decide) rfl i_x1 g9 dX5_flush_49 ?_
          obtain ⟨u11, g11, hrun⟩ := bd hrun
          obtain ⟨r10, g10, hrun⟩ := bd hrun
          refine s_callV (n := 1) (rest := [vi (wr (x2 + r6.1))]) [vr v9] hx hb hml hown hts hE hM hS (c_X5_unload l D G base r6.2 r10.2 x0 v9 r10.1 g10) kw_599 kw_596 kw_37 kw_598 kw_14 (by decide +kernel) ⟨Nat.le_of_ble_eq_true rfl, Nat.le_of_ble_eq_true rfl⟩ rfl rfl (by decide) g11 rfl hl.1.1 rfl (c8 (c_i c_0) (Nat.le_of_ble_eq_true rfl)) dX5_flush_50 ⟨Nat.le_of_ble_eq_true rfl, Nat.le_of_ble_eq_true rfl⟩ (fun H locs i_r10 hM hS => ?_)
          refine W.eq (g2 := F0 m 53 ls [vi r10.1, vi (wr (x2 + r6.1))]) rfl ?_
          refine s_iadd hx hb dX5_flush_53 ?_
          refine t_istore_n (lv' := [(2, vi (wr ((wr (x2 + r6.1)) + r10.1))), (4, vr v3), (0, vr x0), (1, vi x1), (3, vi x3)]) hx hb dX5_flush_54 rfl hl (by decide) rfl (fun ls hl => ?_)
          exact j55 r10.2 x0 x1 (wr ((wr (x2 + r6.1)) + r10.1)) x3 H locs ls i_x1 (inr_wr _) i_x3 hM hS (lsub hl [2, 3, 0, 4] rfl) hrun
  refine s_entry hargs hM (c_r (c_i c_0)) (Nat.le_of_ble_eq_true rfl) (fun H locs ls hM hS hl => ?_)
  replace hl : lvh ls 5 [(0, vr x0), (1, vi x1)] := hl
  unfold f_X5_flush at hrun
  refine lv_iload_n hx hb dX5_flush_0 rfl (la hl 1 rfl) ?_
  obtain ⟨r1, g1, hrun⟩ := bd hrun
  refine s_callSX (n := 1) (rest := []) [vi x1] hx hb hml hown hts hE hM hS (c_X5_requireProcessor l D G base h r1.2.2 x1 r1.1 r1.2.1 i_x1 g1) kw_407 kw_405 kw_37 kw_406 (by decide +kernel) ⟨Nat.le_of_ble_eq_true rfl, Nat.le_of_ble_eq_true rfl⟩ rfl hl.1.1 rfl (c8 c_0 (Nat.le_of_ble_eq_true rfl)) dX5_flush_1 ⟨Nat.le_of_ble_eq_true rfl, Nat.le_of_ble_eq_true rfl⟩ (fun cd ce q9 H locs k9 hk9 hM hS hce hcv hcl => s_prop hout hlocks cd (it_neg cd hrun) hk9 hM hS hce hcv hcl (Nat.le_of_ble_eq_true rfl) (Nat.le_of_ble_eq_true rfl)) (fun cd H locs i_r1 hM hS => ?_)
  replace hrun := it_pos cd hrun
  refine W.eq (g2 := F0 m 4 ls []) rfl ?_
  refine lv_iconst (v := Int32.ofInt 0) hx hb dX5_flush_4 rfl ?_
  refine t_istore_n (lv' := [(2, vi 0), (0, vr x0), (1, vi x1)]) hx hb dX5_flush_5 rfl hl (by decide) rfl (fun ls hl => ?_)
  refine lv_iconst (v := Int32.ofInt 0) hx hb dX5_flush_6 rfl ?_
  refine t_istore_n (lv' := [(3, vi 0), (2, vi 0), (0, vr x0), (1, vi x1)]) hx hb dX5_flush_7 rfl hl (by decide) rfl (fun ls hl => ?_)
  exact lp8 fuel r1.2.2 x0 x1 0 0 H locs ls i_x1 (by decide) (by decide) hM hS (lsub hl [2, 3, 1, 0] rfl) hrun
def f_X5_empty_j37 (k11 : Hp → Int → Int → Int → Int → Option (Nat × Int × Hp)) (h : Hp) (x0 x2 x3 x4 : Int) : Option (Nat × Int × Hp) :=
  k11 h x0 x2 x3 (wr (x4 + 1))
def f_X5_empty_s11 (k11 : Hp → Int → Int → Int → Int → Option (Nat × Int × Hp)) (h : Hp) (x0 x2 x3 x4 : Int) : Option (Nat × Int × Hp) :=
  if 3 ≤ x4 then (
    some (0, x3, h)
  ) else (
    Option.bind (ckd h 1 x2) fun u4 =>
    Option.bind (f_X1_takeFromDepot h x2) fun r3 =>
    if r3.1 < 0 then (
      f_X5_empty_j37 k11 r3.2 x0 x2 x3 x4
    ) else (
      Option.bind (ckd r3.2 5 x0) fun u6 =>
      Option.bind (f_X5_unload r3.2 x0 r3.1) fun r5 =>
      f_X5_empty_j37 k11 r5.2 x0 x2 (wr (x3 + r5.1)) x4
    )
  )
def f_X5_empty_b11 : Nat → Hp → Int → Int → Int → Int → Option (Nat × Int × Hp)
  | 0, _, _, _, _, _ => none
  | n + 1, h, x0, x2, x3, x4 => f_X5_empty_s11 (f_X5_empty_b11 n) h x0 x2 x3 x4
def f_X5_empty (h : Hp) (x0 x1 : Int) : Option (Nat × Int × Hp) :=
  Option.bind (ckd h 5 x0) fun u2 =>
  Option.bind (f_X5_knownCache h x0 x1) fun r1 =>
  if r1.1 = 0 then (
  f_X5_empty_b11 fuel r1.2.2 x0 r1.2.1 0 0
  ) else (some (r1.1, 0, r1.2.2))
abbrev w_X5_empty : List Cond := Cond.code yX5_empty cX5_empty 6 (some .int) :: BW
abbrev rm_X5_empty : Room := { frames := 7, cells := 1, slots := 6, locals := 109 }
set_option maxHeartbeats 4000000 in
set_option maxRecDepth 100000 in
theorem c_X5_empty (l : Launch) (D : va_G) (G : Nat → ClassId) (base : Nat) (h h' : Hp) (x0 x1 : Int) (code : Nat) (rv : Int) (i_x1 : inr x1) (hrun : f_X5_empty h x0 x1 = some (code, rv, h')) : vx_Met l yX5_empty w_X5_empty rm_X5_empty (PC l D G base h [vr x0, vi x1]) (QRx D G base code (some (vi rv)) (inr rv) h') (XR D G base code h') rm_X5_empty.cells rm_X5_empty.slots (Ab base) := by
  refine vx_ofW (cc := cX5_empty) (maxL := 6) (ret := (some .int)) (by decide) rfl ?_
  intro p e s m args below meth c s₁ B hml hout hv
  obtain ⟨hargs, hE, hM⟩ := hv
  have hx := B.exec
  have hb := B.bytes
  have hr := B.returns
  have hts0 := atoms_spec (ws := w_X5_empty) B.pre
  have hts : ∀ w ∈ BW, w.before args s = true := fun w hw => hts0 w (List.mem_cons_of_mem _ hw)
  have hown : s.vm.findClass RX5 = some m.cls := findClass_of_methodNamed B.named
  have hlocks := B.notSynchronized
  have lp11 : ∀ (n11 : Nat) (h : Hp) (x0 x2 x3 x4 : Int) (H : Heap) (locs : List Loc) (ls : Array Slot), inr x3 → inr x4 → SM D G base h H → va_S (Ab base) s.heap H locs → lvh ls 6 [(0, vr x0), (2, vr x2), (3, vi x3), (4, vi x4)] → f_X5_empty_b11 n11 h x0 x2 x3 x4 = some (code, rv, h') → W p l e (headSpec w_X5_empty rm_X5_empty).room s m args below meth c H locs 1 6 (QIx D G base code rv h' below args s 1 6) (F0 m 11 ls []) := by
    intro n11
    induction n11 with
    | zero => intro h x0 x2 x3 x4 H locs ls i_x3 i_x4 hM hS hl hrun; exact absurd hrun (fun q => nomatch (show (none : Option (Nat × Int × Hp)) = some (code, rv, h') from q))
    | succ n11 ih11 =>
      have j37 : ∀ (h : Hp) (x0 x2 x3 x4 : Int) (H : Heap) (locs : List Loc) (ls : Array Slot), inr x3 → inr x4 → SM D G base h H → va_S (Ab base) s.heap H locs → lvh ls 6 [(0, vr x0), (2, vr x2), (3, vi x3), (4, vi x4)] → f_X5_empty_j37 (f_X5_empty_b11 n11) h x0 x2 x3 x4 = some (code, rv, h') → W p l e (headSpec w_X5_empty rm_X5_empty).room s m args below meth c H locs 1 6 (QIx D G base code rv h' below args s 1 6) (F0 m 37 ls []) := by
        intro h x0 x2 x3 x4 H locs ls i_x3 i_x4 hM hS hl hrun
        unfold f_X5_empty_j37 at hrun
        refine t_iinc (lv' := [(4, vi (wr (x4 + 1))), (0, vr x0), (2, vr x2), (3, vi x3)]) hx hb dX5_empty_37 hl (k := 3) rfl (by decide) rfl rfl (fun ls hl => ?_)
        refine lv_goto (tgt := 11) hx hb dX5_empty_40 (by decide) ?_
        exact ih11 h x0 x2 x3 (wr (x4 + 1)) H locs ls i_x3 (inr_wr _) hM hS (lsub hl [1, 2, 3, 0] rfl) hrun
      intro h x0 x2 x3 x4 H locs ls i_x3 i_x4 hM hS hl hrun
      replace hrun : f_X5_empty_s11 (f_X5_empty_b11 n11) h x0 x2 x3 x4 = some (code, rv, h') := hrun
      unfold f_X5_empty_s11 at hrun
      refine lv_iload hx hb dX5_empty_11 (la hl 3 rfl) ?_
      refine lv_iconst (v := Int32.ofInt 3) hx hb dX5_empty_13 rfl ?_
      refine s_icmp_ge (tgt := 43) hx hb dX5_empty_14 (by decide) i_x4 (by decide) (fun cd => ?_) (fun cd => ?_)
      · replace hrun := it_pos cd hrun
        refine lv_iload_n hx hb dX5_empty_43 rfl (la hl 2 rfl) ?_
        exact s_xret hx hb hr hlocks hM hS i_x3 hrun (Nat.le_of_ble_eq_true rfl) (Nat.le_of_ble_eq_true rfl) dX5_empty_44
      · replace hrun := it_neg cd hrun
        refine s_aload_n hx hb dX5_empty_17 rfl (la hl 1 rfl) ?_
        obtain ⟨u4, g4, hrun⟩ := bd hrun
        obtain ⟨r3, g3, hrun⟩ := bd hrun
        refine s_callV (n := 0) (rest := []) [] hx hb hml hown hts hE hM hS (c_X1_takeFromDepot l D G base h r3.2 x2 r3.1 g3) kw_420 kw_608 kw_45 kw_418 kw_419 (by decide +kernel) ⟨Nat.le_of_ble_eq_true rfl, Nat.le_of_ble_eq_true rfl⟩ rfl rfl (by decide) g4 rfl hl.1.1 rfl (c8 c_0 (Nat.le_of_ble_eq_true rfl)) dX5_empty_18 ⟨Nat.le_of_ble_eq_true rfl, Nat.le_of_ble_eq_true rfl⟩ (fun H locs i_r3 hM hS => ?_)
        refine W.eq (g2 := F0 m 21 ls [vr r3.1]) rfl ?_
        refine t_astore (lv' := [(5, vr r3.1), (0, vr x0), (2, vr x2), (3, vi x3), (4, vi x4)]) hx hb dX5_empty_21 hl (by decide) rfl (fun ls hl => ?_)
        refine s_aload hx hb dX5_empty_23 (la hl 0 rfl) ?_
        refine s_ifnull (tgt := 37) hx hb dX5_empty_25 (by decide) (fun cd => ?_) (fun cd => ?_)
        · replace hrun := it_pos cd hrun
          exact j37 r3.2 x0 x2 x3 x4 H locs ls i_x3 i_x4 hM hS (lsub hl [1, 2, 3, 4] rfl) hrun
        · replace hrun := it_neg cd hrun
          refine lv_iload_n hx hb dX5_empty_28 rfl (la hl 3 rfl) ?_
          refine s_aload_n hx hb dX5_empty_29 rfl (la hl 1 rfl) ?_
          refine s_aload hx hb dX5_empty_30 (la hl 0 rfl) ?_
          obtain ⟨u6, g6, hrun⟩ := bd hrun
          obtain ⟨r5, g5, hrun⟩ := bd hrun
          refine s_callV (n := 1) (rest := [vi x3]) [vr r3.1] hx hb hml hown hts hE hM hS (c_X5_unload l D G base r3.2 r5.2 x0 r3.1 r5.1 g5) kw_599 kw_596 kw_37 kw_598 kw_14 (by decide +kernel) ⟨Nat.le_of_ble_eq_true rfl, Nat.le_of_ble_eq_true rfl⟩ rfl rfl (by decide) g6 rfl hl.1.1 rfl (c8 (c_i c_0) (Nat.le_of_ble_eq_true rfl)) dX5_empty_32 ⟨Nat.le_of_ble_eq_true rfl, Nat.le_of_ble_eq_true rfl⟩ (fun H locs i_r5 hM hS => ?_)
          refine W.eq (g2 := F0 m 35 ls [vi r5.1, vi x3]) rfl ?_
          refine s_iadd hx hb dX5_empty_35 ?_
          refine t_istore_n (lv' := [(3, vi (wr (x3 + r5.1))), (5, vr r3.1), (0, vr x0), (2, vr x2), (4, vi x4)]) hx hb dX5_empty_36 rfl hl (by decide) rfl (fun ls hl => ?_)
          exact j37 r5.2 x0 x2 (wr (x3 + r5.1)) x4 H locs ls (inr_wr _) i_x4 hM hS (lsub hl [2, 3, 0, 4] rfl) hrun
  refine s_entry hargs hM (c_r (c_i c_0)) (Nat.le_of_ble_eq_true rfl) (fun H locs ls hM hS hl => ?_)
  replace hl : lvh ls 6 [(0, vr x0), (1, vi x1)] := hl
  unfold f_X5_empty at hrun
  refine s_aload_n hx hb dX5_empty_0 rfl (la hl 0 rfl) ?_
  refine lv_iload_n hx hb dX5_empty_1 rfl (la hl 1 rfl) ?_
  obtain ⟨u2, g2, hrun⟩ := bd hrun
  obtain ⟨r1, g1, hrun⟩ := bd hrun
  refine s_callVX (n := 1) (rest := []) [vi x1] hx hb hml hown hts hE hM hS (c_X5_knownCache l D G base h r1.2.2 x0 x1 r1.1 r1.2.1 i_x1 g1) kw_365 kw_362 kw_37 kw_364 kw_7 (by decide +kernel) ⟨Nat.le_of_ble_eq_true rfl, Nat.le_of_ble_eq_true rfl⟩ rfl rfl (by decide) g2 rfl hl.1.1 rfl (c8 c_0 (Nat.le_of_ble_eq_true rfl)) dX5_empty_2 ⟨Nat.le_of_ble_eq_true rfl, Nat.le_of_ble_eq_true rfl⟩ (fun cd ce q9 H locs k9 hk9 hM hS hce hcv hcl => s_prop hout hlocks cd (it_neg cd hrun) hk9 hM hS hce hcv hcl (Nat.le_of_ble_eq_true rfl) (Nat.le_of_ble_eq_true rfl)) (fun cd H locs i_r1 hM hS => ?_)
  replace hrun := it_pos cd hrun
  refine W.eq (g2 := F0 m 5 ls [vr r1.2.1]) rfl ?_
  refine t_astore_n (lv' := [(2, vr r1.2.1), (0, vr x0), (1, vi x1)]) hx hb dX5_empty_5 rfl hl (by decide) rfl (fun ls hl => ?_)
  refine lv_iconst (v := Int32.ofInt 0) hx hb dX5_empty_6 rfl ?_
  refine t_istore_n (lv' := [(3, vi 0), (2, vr r1.2.1), (0, vr x0), (1, vi x1)]) hx hb dX5_empty_7 rfl hl (by decide) rfl (fun ls hl => ?_)
  refine lv_iconst (v := Int32.ofInt 0) hx hb dX5_empty_8 rfl ?_
  refine t_istore (lv' := [(4, vi 0), (3, vi 0), (2, vr r1.2.1), (0, vr x0), (1, vi x1)]) hx hb dX5_empty_9 hl (by decide) rfl (fun ls hl => ?_)
  exact lp11 fuel r1.2.2 x0 r1.2.1 0 0 H locs ls (by decide) (by decide) hM hS (lsub hl [3, 2, 1, 0] rfl) hrun
def f_X5_about (h : Hp) (x0 x1 x2 : Int) : Option (Nat × Int × Hp) :=
  Option.bind (ckd h 5 x0) fun u2 =>
  Option.bind (f_X5_knownCache h x0 x1) fun r1 =>
  if r1.1 = 0 then (
  if x2 = 0 then (
    Option.bind (gtf r1.2.2 1 5 r1.2.1) fun v3 =>
    some (0, v3, r1.2.2)
  ) else (
    if x2 = 1 then (
      Option.bind (gtf r1.2.2 1 6 r1.2.1) fun v4 =>
      some (0, v4, r1.2.2)
    ) else (
      if x2 = 2 then (
        Option.bind (gtf r1.2.2 1 7 r1.2.1) fun v5 =>
        some (0, v5, r1.2.2)
      ) else (
        if x2 = 3 then (
          Option.bind (gtf r1.2.2 1 8 r1.2.1) fun v6 =>
          some (0, v6, r1.2.2)
        ) else (
          if x2 = 4 then (
            Option.bind (gtf r1.2.2 1 9 r1.2.1) fun v7 =>
            some (0, v7, r1.2.2)
          ) else (
            if x2 = 5 then (
              Option.bind (gtf r1.2.2 1 10 r1.2.1) fun v8 =>
              some (0, v8, r1.2.2)
            ) else (
              if x2 = 6 then (
                Option.bind (ckd r1.2.2 1 r1.2.1) fun u10 =>
                Option.bind (f_X1_inMagazines r1.2.2 r1.2.1) fun r9 =>
                some (0, r9.1, r9.2)
              ) else (
                if x2 = 7 then (
                  Option.bind (gtf r1.2.2 1 11 r1.2.1) fun v11 =>
                  some (0, v11, r1.2.2)
                ) else (
                  some (2, 0, r1.2.2)
  ))))))))
  ) else (some (r1.1, 0, r1.2.2))
abbrev w_X5_about : List Cond := Cond.code yX5_about cX5_about 4 (some .int) :: BW
abbrev rm_X5_about : Room := { frames := 7, cells := 2, slots := 12, locals := 103 }
set_option maxHeartbeats 4000000 in
set_option maxRecDepth 100000 in
theorem c_X5_about (l : Launch) (D : va_G) (G : Nat → ClassId) (base : Nat) (h h' : Hp) (x0 x1 x2 : Int) (code : Nat) (rv : Int) (i_x1 : inr x1) (i_x2 : inr x2) (hrun : f_X5_about h x0 x1 x2 = some (code, rv, h')) : vx_Met l yX5_about w_X5_about rm_X5_about (PC l D G base h [vr x0, vi x1, vi x2]) (QRx D G base code (some (vi rv)) (inr rv) h') (XR D G base code h') rm_X5_about.cells rm_X5_about.slots (Ab base) := by
  refine vx_ofW (cc := cX5_about) (maxL := 4) (ret := (some .int)) (by decide) rfl ?_
  intro p e s m args below meth c s₁ B hml hout hv
  obtain ⟨hargs, hE, hM⟩ := hv
  have hx := B.exec
  have hb := B.bytes
  have hr := B.returns
  have hts0 := atoms_spec (ws := w_X5_about) B.pre
  have hts : ∀ w ∈ BW, w.before args s = true := fun w hw => hts0 w (List.mem_cons_of_mem _ hw)
  have hown : s.vm.findClass RX5 = some m.cls := findClass_of_methodNamed B.named
  have hlocks := B.notSynchronized
  refine s_entry hargs hM (c_r (c_i (c_i c_0))) (Nat.le_of_ble_eq_true rfl) (fun H locs ls hM hS hl => ?_)
  replace hl : lvh ls 4 [(0, vr x0), (1, vi x1), (2, vi x2)] := hl
  unfold f_X5_about at hrun
  refine s_aload_n hx hb dX5_about_0 rfl (la hl 0 rfl) ?_
  refine lv_iload_n hx hb dX5_about_1 rfl (la hl 1 rfl) ?_
  obtain ⟨u2, g2, hrun⟩ := bd hrun
  obtain ⟨r1, g1, hrun⟩ := bd hrun
  refine s_callVX (n := 1) (rest := []) [vi x1] hx hb hml hown hts hE hM hS (c_X5_knownCache l D G base h r1.2.2 x0 x1 r1.1 r1.2.1 i_x1 g1) kw_365 kw_362 kw_37 kw_364 kw_7 (by decide +kernel) ⟨Nat.le_of_ble_eq_true rfl, Nat.le_of_ble_eq_true rfl⟩ rfl rfl (by decide) g2 rfl hl.1.1 rfl (c8 c_0 (Nat.le_of_ble_eq_true rfl)) dX5_about_2 ⟨Nat.le_of_ble_eq_true rfl, Nat.le_of_ble_eq_true rfl⟩ (fun cd ce q9 H locs k9 hk9 hM hS hce hcv hcl => s_prop hout hlocks cd (it_neg cd hrun) hk9 hM hS hce hcv hcl (Nat.le_of_ble_eq_true rfl) (Nat.le_of_ble_eq_true rfl)) (fun cd H locs i_r1 hM hS => ?_)
  replace hrun := it_pos cd hrun
  refine W.eq (g2 := F0 m 5 ls [vr r1.2.1]) rfl ?_
  refine t_astore_n (lv' := [(3, vr r1.2.1), (0, vr x0), (1, vi x1), (2, vi x2)]) hx hb dX5_about_5 rfl hl (by decide) rfl (fun ls hl => ?_)
  refine lv_iload_n hx hb dX5_about_6 rfl (la hl 3 rfl) ?_
  by_cases c0 : x2 = 0
  · replace hrun := it_pos c0 hrun
    refine s_tsw (k := 0) (off := 45) (tgt := 52) hx hb i_x2 c0 dX5_about_7 (by decide) (by decide) (by decide +kernel) (by decide) ?_
    refine s_aload_n hx hb dX5_about_52 rfl (la hl 0 rfl) ?_
    obtain ⟨v3, g3, hrun⟩ := bd hrun
    refine s_getfi hx hb hts kl_1 hown hE.1 hM (ci := 1) rfl (by decide) rfl (k := 5) (by decide) rfl (hts _ kw_299) g3 dX5_about_53 ?_
    have i_v3 : inr v3 := gtf_i hM g3 (by decide) rfl
    exact s_xret hx hb hr hlocks hM hS i_v3 hrun (Nat.le_of_ble_eq_true rfl) (Nat.le_of_ble_eq_true rfl) dX5_about_56
  · replace hrun := it_neg c0 hrun
    by_cases c1 : x2 = 1
    · replace hrun := it_pos c1 hrun
      refine s_tsw (k := 1) (off := 50) (tgt := 57) hx hb i_x2 c1 dX5_about_7 (by decide) (by decide) (by decide +kernel) (by decide) ?_
      refine s_aload_n hx hb dX5_about_57 rfl (la hl 0 rfl) ?_
      obtain ⟨v4, g4, hrun⟩ := bd hrun
      refine s_getfi hx hb hts kl_1 hown hE.1 hM (ci := 1) rfl (by decide) rfl (k := 6) (by decide) rfl (hts _ kw_302) g4 dX5_about_58 ?_
      have i_v4 : inr v4 := gtf_i hM g4 (by decide) rfl
      exact s_xret hx hb hr hlocks hM hS i_v4 hrun (Nat.le_of_ble_eq_true rfl) (Nat.le_of_ble_eq_true rfl) dX5_about_61
    · replace hrun := it_neg c1 hrun
      by_cases c2 : x2 = 2
      · replace hrun := it_pos c2 hrun
        refine s_tsw (k := 2) (off := 55) (tgt := 62) hx hb i_x2 c2 dX5_about_7 (by decide) (by decide) (by decide +kernel) (by decide) ?_
        refine s_aload_n hx hb dX5_about_62 rfl (la hl 0 rfl) ?_
        obtain ⟨v5, g5, hrun⟩ := bd hrun
        refine s_getfi hx hb hts kl_1 hown hE.1 hM (ci := 1) rfl (by decide) rfl (k := 7) (by decide) rfl (hts _ kw_304) g5 dX5_about_63 ?_
        have i_v5 : inr v5 := gtf_i hM g5 (by decide) rfl
        exact s_xret hx hb hr hlocks hM hS i_v5 hrun (Nat.le_of_ble_eq_true rfl) (Nat.le_of_ble_eq_true rfl) dX5_about_66
      · replace hrun := it_neg c2 hrun
        by_cases c3 : x2 = 3
        · replace hrun := it_pos c3 hrun
          refine s_tsw (k := 3) (off := 60) (tgt := 67) hx hb i_x2 c3 dX5_about_7 (by decide) (by decide) (by decide +kernel) (by decide) ?_
          refine s_aload_n hx hb dX5_about_67 rfl (la hl 0 rfl) ?_
          obtain ⟨v6, g6, hrun⟩ := bd hrun
          refine s_getfi hx hb hts kl_1 hown hE.1 hM (ci := 1) rfl (by decide) rfl (k := 8) (by decide) rfl (hts _ kw_305) g6 dX5_about_68 ?_
          have i_v6 : inr v6 := gtf_i hM g6 (by decide) rfl
          exact s_xret hx hb hr hlocks hM hS i_v6 hrun (Nat.le_of_ble_eq_true rfl) (Nat.le_of_ble_eq_true rfl) dX5_about_71
        · replace hrun := it_neg c3 hrun
          by_cases c4 : x2 = 4
          · replace hrun := it_pos c4 hrun
            refine s_tsw (k := 4) (off := 65) (tgt := 72) hx hb i_x2 c4 dX5_about_7 (by decide) (by decide) (by decide +kernel) (by decide) ?_
            refine s_aload_n hx hb dX5_about_72 rfl (la hl 0 rfl) ?_
            obtain ⟨v7, g7, hrun⟩ := bd hrun
            refine s_getfi hx hb hts kl_1 hown hE.1 hM (ci := 1) rfl (by decide) rfl (k := 9) (by decide) rfl (hts _ kw_306) g7 dX5_about_73 ?_
            have i_v7 : inr v7 := gtf_i hM g7 (by decide) rfl
            exact s_xret hx hb hr hlocks hM hS i_v7 hrun (Nat.le_of_ble_eq_true rfl) (Nat.le_of_ble_eq_true rfl) dX5_about_76
          · replace hrun := it_neg c4 hrun
            by_cases c5 : x2 = 5
            · replace hrun := it_pos c5 hrun
              refine s_tsw (k := 5) (off := 70) (tgt := 77) hx hb i_x2 c5 dX5_about_7 (by decide) (by decide) (by decide +kernel) (by decide) ?_
              refine s_aload_n hx hb dX5_about_77 rfl (la hl 0 rfl) ?_
              obtain ⟨v8, g8, hrun⟩ := bd hrun
              refine s_getfi hx hb hts kl_1 hown hE.1 hM (ci := 1) rfl (by decide) rfl (k := 10) (by decide) rfl (hts _ kw_307) g8 dX5_about_78 ?_
              have i_v8 : inr v8 := gtf_i hM g8 (by decide) rfl
              exact s_xret hx hb hr hlocks hM hS i_v8 hrun (Nat.le_of_ble_eq_true rfl) (Nat.le_of_ble_eq_true rfl) dX5_about_81
            · replace hrun := it_neg c5 hrun
              by_cases c6 : x2 = 6
              · replace hrun := it_pos c6 hrun
                refine s_tsw (k := 6) (off := 75) (tgt := 82) hx hb i_x2 c6 dX5_about_7 (by decide) (by decide) (by decide +kernel) (by decide) ?_
                refine s_aload_n hx hb dX5_about_82 rfl (la hl 0 rfl) ?_
                obtain ⟨u10, g10, hrun⟩ := bd hrun
                obtain ⟨r9, g9, hrun⟩ := bd hrun
                refine s_callV (n := 0) (rest := []) [] hx hb hml hown hts hE hM hS (c_X1_inMagazines l D G base r1.2.2 r9.2 r1.2.1 r9.1 g9) kw_619 kw_616 kw_45 kw_617 kw_618 (by decide +kernel) ⟨Nat.le_of_ble_eq_true rfl, Nat.le_of_ble_eq_true rfl⟩ rfl rfl (by decide) g10 rfl hl.1.1 rfl (c8 c_0 (Nat.le_of_ble_eq_true rfl)) dX5_about_83 ⟨Nat.le_of_ble_eq_true rfl, Nat.le_of_ble_eq_true rfl⟩ (fun H locs i_r9 hM hS => ?_)
                refine W.eq (g2 := F0 m 86 ls [vi r9.1]) rfl ?_
                exact s_xret hx hb hr hlocks hM hS i_r9 hrun (Nat.le_of_ble_eq_true rfl) (Nat.le_of_ble_eq_true rfl) dX5_about_86
              · replace hrun := it_neg c6 hrun
                by_cases c7 : x2 = 7
                · replace hrun := it_pos c7 hrun
                  refine s_tsw (k := 7) (off := 80) (tgt := 87) hx hb i_x2 c7 dX5_about_7 (by decide) (by decide) (by decide +kernel) (by decide) ?_
                  refine s_aload_n hx hb dX5_about_87 rfl (la hl 0 rfl) ?_
                  obtain ⟨v11, g11, hrun⟩ := bd hrun
                  refine s_getfi hx hb hts kl_1 hown hE.1 hM (ci := 1) rfl (by decide) rfl (k := 11) (by decide) rfl (hts _ kw_308) g11 dX5_about_88 ?_
                  have i_v11 : inr v11 := gtf_i hM g11 (by decide) rfl
                  exact s_xret hx hb hr hlocks hM hS i_v11 hrun (Nat.le_of_ble_eq_true rfl) (Nat.le_of_ble_eq_true rfl) dX5_about_91
                · replace hrun := it_neg c7 hrun
                  refine s_tswD (tgt := 92) hx hb i_x2 dX5_about_7 (by omega) (by decide) ?_
                  exact s_throw 2 (by decide) rfl hx hb hml hl.1.1 hown hts hE hM hS hout hlocks (by decide +kernel) kw_178 kw_44 (is := 184) (text := "no such fact of a cache") (by decide) xg_32 xr_32 xo_32 dX5_about_92 dX5_about_95 dX5_about_96 dX5_about_98 dX5_about_101 (Nat.le_of_ble_eq_true rfl) (cN c_0 (Nat.le_of_ble_eq_true rfl)) (Nat.le_of_ble_eq_true rfl) (Nat.le_of_ble_eq_true rfl) (Nat.le_of_ble_eq_true rfl) (Nat.le_of_ble_eq_true rfl) hrun
def f_X5_list_j16 (h : Hp) : Option (Nat × Int × Hp) :=
  some (2, 0, h)
def f_X5_list_j53 (h : Hp) (s0 : Int) : Option (Nat × Int × Hp) :=
  some (0, s0, h)
def f_X5_list (h : Hp) (x0 x1 x2 x3 : Int) : Option (Nat × Int × Hp) :=
  Option.bind (ckd h 5 x0) fun u2 =>
  Option.bind (f_X5_knownCache h x0 x1) fun r1 =>
  if r1.1 = 0 then (
  if x2 < 0 then (
    f_X5_list_j16 r1.2.2
  ) else (
    if x2 < 3 then (
      Option.bind (gtf r1.2.2 1 12 r1.2.1) fun v3 =>
      Option.bind (ald r1.2.2 14 v3 x2) fun v4 =>
      Option.bind (ckd r1.2.2 4 v4) fun u6 =>
      Option.bind (f_X4_slabAtPlace r1.2.2 v4 x3) fun r5 =>
      if 0 ≤ r5.1 then (
        Option.bind (ckd r5.2 3 r5.1) fun u8 =>
        Option.bind (f_X3_firstByte r5.2 r5.1) fun r7 =>
        f_X5_list_j53 r7.2 r7.1
      ) else (
        f_X5_list_j53 r5.2 (-1)
      )
    ) else (
      f_X5_list_j16 r1.2.2
    )
  )
  ) else (some (r1.1, 0, r1.2.2))
abbrev w_X5_list : List Cond := Cond.code yX5_list cX5_list 6 (some .int) :: BW
abbrev rm_X5_list : Room := { frames := 7, cells := 2, slots := 12, locals := 103 }
set_option maxHeartbeats 4000000 in
set_option maxRecDepth 100000 in
theorem c_X5_list (l : Launch) (D : va_G) (G : Nat → ClassId) (base : Nat) (h h' : Hp) (x0 x1 x2 x3 : Int) (code : Nat) (rv : Int) (i_x1 : inr x1) (i_x2 : inr x2) (i_x3 : inr x3) (hrun : f_X5_list h x0 x1 x2 x3 = some (code, rv, h')) : vx_Met l yX5_list w_X5_list rm_X5_list (PC l D G base h [vr x0, vi x1, vi x2, vi x3]) (QRx D G base code (some (vi rv)) (inr rv) h') (XR D G base code h') rm_X5_list.cells rm_X5_list.slots (Ab base) := by
  refine vx_ofW (cc := cX5_list) (maxL := 6) (ret := (some .int)) (by decide) rfl ?_
  intro p e s m args below meth c s₁ B hml hout hv
  obtain ⟨hargs, hE, hM⟩ := hv
  have hx := B.exec
  have hb := B.bytes
  have hr := B.returns
  have hts0 := atoms_spec (ws := w_X5_list) B.pre
  have hts : ∀ w ∈ BW, w.before args s = true := fun w hw => hts0 w (List.mem_cons_of_mem _ hw)
  have hown : s.vm.findClass RX5 = some m.cls := findClass_of_methodNamed B.named
  have hlocks := B.notSynchronized
  have j16 : ∀ (h : Hp) (H : Heap) (locs : List Loc) (ls : Array Slot), SM D G base h H → va_S (Ab base) s.heap H locs → lvh ls 6 [] → f_X5_list_j16 h = some (code, rv, h') → W p l e (headSpec w_X5_list rm_X5_list).room s m args below meth c H locs 1 6 (QIx D G base code rv h' below args s 2 12) (F0 m 16 ls []) := by
    intro h H locs ls hM hS hl hrun
    unfold f_X5_list_j16 at hrun
    exact s_throw 2 (by decide) rfl hx hb hml hl.1.1 hown hts hE hM hS hout hlocks (by decide +kernel) kw_178 kw_44 (is := 186) (text := "no such list") (by decide) xg_32 xr_32 xo_32 dX5_list_16 dX5_list_19 dX5_list_20 dX5_list_22 dX5_list_25 (Nat.le_of_ble_eq_true rfl) (cN c_0 (Nat.le_of_ble_eq_true rfl)) (Nat.le_of_ble_eq_true rfl) (Nat.le_of_ble_eq_true rfl) (Nat.le_of_ble_eq_true rfl) (Nat.le_of_ble_eq_true rfl) hrun
  have j53 : ∀ (h : Hp) (s0 : Int) (H : Heap) (locs : List Loc) (ls : Array Slot), inr s0 → SM D G base h H → va_S (Ab base) s.heap H locs → lvh ls 6 [] → f_X5_list_j53 h s0 = some (code, rv, h') → W p l e (headSpec w_X5_list rm_X5_list).room s m args below meth c H locs 1 6 (QIx D G base code rv h' below args s 2 12) (F0 m 53 ls [vi s0]) := by
    intro h s0 H locs ls i_s0 hM hS hl hrun
    unfold f_X5_list_j53 at hrun
    exact s_xret hx hb hr hlocks hM hS i_s0 hrun (Nat.le_of_ble_eq_true rfl) (Nat.le_of_ble_eq_true rfl) dX5_list_53
  refine s_entry hargs hM (c_r (c_i (c_i (c_i c_0)))) (Nat.le_of_ble_eq_true rfl) (fun H locs ls hM hS hl => ?_)
  replace hl : lvh ls 6 [(0, vr x0), (1, vi x1), (2, vi x2), (3, vi x3)] := hl
  unfold f_X5_list at hrun
  refine s_aload_n hx hb dX5_list_0 rfl (la hl 0 rfl) ?_
  refine lv_iload_n hx hb dX5_list_1 rfl (la hl 1 rfl) ?_
  obtain ⟨u2, g2, hrun⟩ := bd hrun
  obtain ⟨r1, g1, hrun⟩ := bd hrun
  refine s_callVX (n := 1) (rest := []) [vi x1] hx hb hml hown hts hE hM hS (c_X5_knownCache l D G base h r1.2.2 x0 x1 r1.1 r1.2.1 i_x1 g1) kw_365 kw_362 kw_37 kw_364 kw_7 (by decide +kernel) ⟨Nat.le_of_ble_eq_true rfl, Nat.le_of_ble_eq_true rfl⟩ rfl rfl (by decide) g2 rfl hl.1.1 rfl (c8 c_0 (Nat.le_of_ble_eq_true rfl)) dX5_list_2 ⟨Nat.le_of_ble_eq_true rfl, Nat.le_of_ble_eq_true rfl⟩ (fun cd ce q9 H locs k9 hk9 hM hS hce hcv hcl => s_prop hout hlocks cd (it_neg cd hrun) hk9 hM hS hce hcv hcl (Nat.le_of_ble_eq_true rfl) (Nat.le_of_ble_eq_true rfl)) (fun cd H locs i_r1 hM hS => ?_)
  replace hrun := it_pos cd hrun
  refine W.eq (g2 := F0 m 5 ls [vr r1.2.1]) rfl ?_
  refine t_astore (lv' := [(4, vr r1.2.1), (0, vr x0), (1, vi x1), (2, vi x2), (3, vi x3)]) hx hb dX5_list_5 hl (by decide) rfl (fun ls hl => ?_)
  refine lv_iload_n hx hb dX5_list_7 rfl (la hl 3 rfl) ?_
  refine s_if_lt (tgt := 16) hx hb dX5_list_8 (by decide) i_x2 (fun cd => ?_) (fun cd => ?_)
  · replace hrun := it_pos cd hrun
    exact j16 r1.2.2 H locs ls hM hS (lsub hl [] rfl) hrun
  · replace hrun := it_neg cd hrun
    refine lv_iload_n hx hb dX5_list_11 rfl (la hl 3 rfl) ?_
    refine lv_iconst (v := Int32.ofInt 3) hx hb dX5_list_12 rfl ?_
    refine s_icmp_lt (tgt := 26) hx hb dX5_list_13 (by decide) i_x2 (by decide) (fun cd => ?_) (fun cd => ?_)
    · replace hrun := it_pos cd hrun
      refine s_aload hx hb dX5_list_26 (la hl 0 rfl) ?_
      obtain ⟨v3, g3, hrun⟩ := bd hrun
      refine s_getfr hx hb hts kl_1 hown hE.1 hM (ci := 1) rfl (by decide) rfl (k := 12) (by decide) rfl (hts _ kw_310) g3 dX5_list_28 ?_
      refine lv_iload_n hx hb dX5_list_31 rfl (la hl 3 rfl) ?_
      obtain ⟨v4, g4, hrun⟩ := bd hrun
      refine s_aald hx hb hE.1 hM (kd := 14) (by decide) rfl i_x2 g4 dX5_list_32 ?_
      refine lv_iload_n hx hb dX5_list_33 rfl (la hl 4 rfl) ?_
      obtain ⟨u6, g6, hrun⟩ := bd hrun
      obtain ⟨r5, g5, hrun⟩ := bd hrun
      refine s_callV (n := 1) (rest := []) [vi x3] hx hb hml hown hts hE hM hS (c_X4_slabAtPlace l D G base r1.2.2 r5.2 v4 x3 r5.1 i_x3 g5) kw_632 kw_629 kw_46 kw_630 kw_631 (by decide +kernel) ⟨Nat.le_of_ble_eq_true rfl, Nat.le_of_ble_eq_true rfl⟩ rfl rfl (by decide) g6 rfl hl.1.1 rfl (c8 c_0 (Nat.le_of_ble_eq_true rfl)) dX5_list_34 ⟨Nat.le_of_ble_eq_true rfl, Nat.le_of_ble_eq_true rfl⟩ (fun H locs i_r5 hM hS => ?_)
      refine W.eq (g2 := F0 m 37 ls [vr r5.1]) rfl ?_
      refine t_astore (lv' := [(5, vr r5.1), (4, vr r1.2.1), (0, vr x0), (1, vi x1), (2, vi x2), (3, vi x3)]) hx hb dX5_list_37 hl (by decide) rfl (fun ls hl => ?_)
      refine s_aload hx hb dX5_list_39 (la hl 0 rfl) ?_
      refine s_ifnonnull (tgt := 48) hx hb dX5_list_41 (by decide) (fun cd => ?_) (fun cd => ?_)
      · replace hrun := it_pos cd hrun
        refine s_aload hx hb dX5_list_48 (la hl 0 rfl) ?_
        obtain ⟨u8, g8, hrun⟩ := bd hrun
        obtain ⟨r7, g7, hrun⟩ := bd hrun
        refine s_callV (n := 0) (rest := []) [] hx hb hml hown hts hE hM hS (c_X3_firstByte l D G base r5.2 r7.2 r5.1 r7.1 g7) kw_155 kw_633 kw_51 kw_153 kw_154 (by decide +kernel) ⟨Nat.le_of_ble_eq_true rfl, Nat.le_of_ble_eq_true rfl⟩ rfl rfl (by decide) g8 rfl hl.1.1 rfl (c8 c_0 (Nat.le_of_ble_eq_true rfl)) dX5_list_50 ⟨Nat.le_of_ble_eq_true rfl, Nat.le_of_ble_eq_true rfl⟩ (fun H locs i_r7 hM hS => ?_)
        refine W.eq (g2 := F0 m 53 ls [vi r7.1]) rfl ?_
        exact j53 r7.2 r7.1 H locs ls i_r7 hM hS (lsub hl [] rfl) hrun
      · replace hrun := it_neg cd hrun
        refine lv_iconst (v := Int32.ofInt (-1)) hx hb dX5_list_44 rfl ?_
        refine lv_goto (tgt := 53) hx hb dX5_list_45 (by decide) ?_
        exact j53 r5.2 (-1) H locs ls (by decide) hM hS (lsub hl [] rfl) hrun
    · replace hrun := it_neg cd hrun
      exact j16 r1.2.2 H locs ls hM hS (lsub hl [] rfl) hrun
def f_X5_slab (h : Hp) (x0 x1 x2 : Int) : Option (Nat × Int × Hp) :=
  Option.bind (ckd h 5 x0) fun u2 =>
  Option.bind (f_X5_slabAt h x0 x1) fun r1 =>
  if 0 ≤ r1.1 then (
    if x2 = 0 then (
      Option.bind (ckd r1.2 3 r1.1) fun u4 =>
      Option.bind (f_X3_firstByte r1.2 r1.1) fun r3 =>
      some (0, r3.1, r3.2)
    ) else (
      if x2 = 1 then (
        Option.bind (gtf r1.2 3 2 r1.1) fun v5 =>
        some (0, v5, r1.2)
      ) else (
        if x2 = 2 then (
          Option.bind (gtf r1.2 3 3 r1.1) fun v6 =>
          some (0, v6, r1.2)
        ) else (
          if x2 = 3 then (
            Option.bind (ckd r1.2 3 r1.1) fun u8 =>
            Option.bind (f_X3_firstFree r1.2 r1.1) fun r7 =>
            some (0, r7.1, r7.2)
          ) else (
            some (2, 0, r1.2)
    ))))
  ) else (
    some (1, 0, r1.2)
  )
abbrev w_X5_slab : List Cond := Cond.code yX5_slab cX5_slab 4 (some .int) :: BW
abbrev rm_X5_slab : Room := { frames := 6, cells := 1, slots := 6, locals := 82 }
set_option maxHeartbeats 4000000 in
set_option maxRecDepth 100000 in
theorem c_X5_slab (l : Launch) (D : va_G) (G : Nat → ClassId) (base : Nat) (h h' : Hp) (x0 x1 x2 : Int) (code : Nat) (rv : Int) (i_x1 : inr x1) (i_x2 : inr x2) (hrun : f_X5_slab h x0 x1 x2 = some (code, rv, h')) : vx_Met l yX5_slab w_X5_slab rm_X5_slab (PC l D G base h [vr x0, vi x1, vi x2]) (QRx D G base code (some (vi rv)) (inr rv) h') (XR D G base code h') rm_X5_slab.cells rm_X5_slab.slots (Ab base) := by
  refine vx_ofW (cc := cX5_slab) (maxL := 4) (ret := (some .int)) (by decide) rfl ?_
  intro p e s m args below meth c s₁ B hml hout hv
  obtain ⟨hargs, hE, hM⟩ := hv
  have hx := B.exec
  have hb := B.bytes
  have hr := B.returns
  have hts0 := atoms_spec (ws := w_X5_slab) B.pre
  have hts : ∀ w ∈ BW, w.before args s = true := fun w hw => hts0 w (List.mem_cons_of_mem _ hw)
  have hown : s.vm.findClass RX5 = some m.cls := findClass_of_methodNamed B.named
  have hlocks := B.notSynchronized
  refine s_entry hargs hM (c_r (c_i (c_i c_0))) (Nat.le_of_ble_eq_true rfl) (fun H locs ls hM hS hl => ?_)
  replace hl : lvh ls 4 [(0, vr x0), (1, vi x1), (2, vi x2)] := hl
  unfold f_X5_slab at hrun
  refine s_aload_n hx hb dX5_slab_0 rfl (la hl 0 rfl) ?_
  refine lv_iload_n hx hb dX5_slab_1 rfl (la hl 1 rfl) ?_
  obtain ⟨u2, g2, hrun⟩ := bd hrun
  obtain ⟨r1, g1, hrun⟩ := bd hrun
  refine s_callV (n := 1) (rest := []) [vi x1] hx hb hml hown hts hE hM hS (c_X5_slabAt l D G base h r1.2 x0 x1 r1.1 i_x1 g1) kw_138 kw_135 kw_37 kw_137 kw_4 (by decide +kernel) ⟨Nat.le_of_ble_eq_true rfl, Nat.le_of_ble_eq_true rfl⟩ rfl rfl (by decide) g2 rfl hl.1.1 rfl (c8 c_0 (Nat.le_of_ble_eq_true rfl)) dX5_slab_2 ⟨Nat.le_of_ble_eq_true rfl, Nat.le_of_ble_eq_true rfl⟩ (fun H locs i_r1 hM hS => ?_)
  refine W.eq (g2 := F0 m 5 ls [vr r1.1]) rfl ?_
  refine t_astore_n (lv' := [(3, vr r1.1), (0, vr x0), (1, vi x1), (2, vi x2)]) hx hb dX5_slab_5 rfl hl (by decide) rfl (fun ls hl => ?_)
  refine s_aload_n hx hb dX5_slab_6 rfl (la hl 0 rfl) ?_
  refine s_ifnonnull (tgt := 20) hx hb dX5_slab_7 (by decide) (fun cd => ?_) (fun cd => ?_)
  · replace hrun := it_pos cd hrun
    refine lv_iload_n hx hb dX5_slab_20 rfl (la hl 3 rfl) ?_
    by_cases c0 : x2 = 0
    · replace hrun := it_pos c0 hrun
      refine s_tsw (k := 0) (off := 31) (tgt := 52) hx hb i_x2 c0 dX5_slab_21 (by decide) (by decide) (by decide +kernel) (by decide) ?_
      refine s_aload_n hx hb dX5_slab_52 rfl (la hl 0 rfl) ?_
      obtain ⟨u4, g4, hrun⟩ := bd hrun
      obtain ⟨r3, g3, hrun⟩ := bd hrun
      refine s_callV (n := 0) (rest := []) [] hx hb hml hown hts hE hM hS (c_X3_firstByte l D G base r1.2 r3.2 r1.1 r3.1 g3) kw_155 kw_633 kw_51 kw_153 kw_154 (by decide +kernel) ⟨Nat.le_of_ble_eq_true rfl, Nat.le_of_ble_eq_true rfl⟩ rfl rfl (by decide) g4 rfl hl.1.1 rfl (c8 c_0 (Nat.le_of_ble_eq_true rfl)) dX5_slab_53 ⟨Nat.le_of_ble_eq_true rfl, Nat.le_of_ble_eq_true rfl⟩ (fun H locs i_r3 hM hS => ?_)
      refine W.eq (g2 := F0 m 56 ls [vi r3.1]) rfl ?_
      exact s_xret hx hb hr hlocks hM hS i_r3 hrun (Nat.le_of_ble_eq_true rfl) (Nat.le_of_ble_eq_true rfl) dX5_slab_56
    · replace hrun := it_neg c0 hrun
      by_cases c1 : x2 = 1
      · replace hrun := it_pos c1 hrun
        refine s_tsw (k := 1) (off := 36) (tgt := 57) hx hb i_x2 c1 dX5_slab_21 (by decide) (by decide) (by decide +kernel) (by decide) ?_
        refine s_aload_n hx hb dX5_slab_57 rfl (la hl 0 rfl) ?_
        obtain ⟨v5, g5, hrun⟩ := bd hrun
        refine s_getfi hx hb hts kl_3 hown hE.1 hM (ci := 3) rfl (by decide) rfl (k := 2) (by decide) rfl (hts _ kw_459) g5 dX5_slab_58 ?_
        have i_v5 : inr v5 := gtf_i hM g5 (by decide) rfl
        exact s_xret hx hb hr hlocks hM hS i_v5 hrun (Nat.le_of_ble_eq_true rfl) (Nat.le_of_ble_eq_true rfl) dX5_slab_61
      · replace hrun := it_neg c1 hrun
        by_cases c2 : x2 = 2
        · replace hrun := it_pos c2 hrun
          refine s_tsw (k := 2) (off := 41) (tgt := 62) hx hb i_x2 c2 dX5_slab_21 (by decide) (by decide) (by decide +kernel) (by decide) ?_
          refine s_aload_n hx hb dX5_slab_62 rfl (la hl 0 rfl) ?_
          obtain ⟨v6, g6, hrun⟩ := bd hrun
          refine s_getfi hx hb hts kl_3 hown hE.1 hM (ci := 3) rfl (by decide) rfl (k := 3) (by decide) rfl (hts _ kw_461) g6 dX5_slab_63 ?_
          have i_v6 : inr v6 := gtf_i hM g6 (by decide) rfl
          exact s_xret hx hb hr hlocks hM hS i_v6 hrun (Nat.le_of_ble_eq_true rfl) (Nat.le_of_ble_eq_true rfl) dX5_slab_66
        · replace hrun := it_neg c2 hrun
          by_cases c3 : x2 = 3
          · replace hrun := it_pos c3 hrun
            refine s_tsw (k := 3) (off := 46) (tgt := 67) hx hb i_x2 c3 dX5_slab_21 (by decide) (by decide) (by decide +kernel) (by decide) ?_
            refine s_aload_n hx hb dX5_slab_67 rfl (la hl 0 rfl) ?_
            obtain ⟨u8, g8, hrun⟩ := bd hrun
            obtain ⟨r7, g7, hrun⟩ := bd hrun
            refine s_callV (n := 0) (rest := []) [] hx hb hml hown hts hE hM hS (c_X3_firstFree l D G base r1.2 r7.2 r1.1 r7.1 g7) kw_514 kw_642 kw_51 kw_512 kw_513 (by decide +kernel) ⟨Nat.le_of_ble_eq_true rfl, Nat.le_of_ble_eq_true rfl⟩ rfl rfl (by decide) g8 rfl hl.1.1 rfl (c8 c_0 (Nat.le_of_ble_eq_true rfl)) dX5_slab_68 ⟨Nat.le_of_ble_eq_true rfl, Nat.le_of_ble_eq_true rfl⟩ (fun H locs i_r7 hM hS => ?_)
            refine W.eq (g2 := F0 m 71 ls [vi r7.1]) rfl ?_
            exact s_xret hx hb hr hlocks hM hS i_r7 hrun (Nat.le_of_ble_eq_true rfl) (Nat.le_of_ble_eq_true rfl) dX5_slab_71
          · replace hrun := it_neg c3 hrun
            refine s_tswD (tgt := 72) hx hb i_x2 dX5_slab_21 (by omega) (by decide) ?_
            exact s_throw 2 (by decide) rfl hx hb hml hl.1.1 hown hts hE hM hS hout hlocks (by decide +kernel) kw_178 kw_44 (is := 205) (text := "no such fact of a slab") (by decide) xg_32 xr_32 xo_32 dX5_slab_72 dX5_slab_75 dX5_slab_76 dX5_slab_78 dX5_slab_81 (Nat.le_of_ble_eq_true rfl) (cN c_0 (Nat.le_of_ble_eq_true rfl)) (Nat.le_of_ble_eq_true rfl) (Nat.le_of_ble_eq_true rfl) (Nat.le_of_ble_eq_true rfl) (Nat.le_of_ble_eq_true rfl) hrun
  · replace hrun := it_neg cd hrun
    exact s_throwE hx hb hml hl.1.1 hown hts hE hM hS hout hlocks (is := 194) (text := "no slab lies there") (by decide)  dX5_slab_10 dX5_slab_13 dX5_slab_14 dX5_slab_16 dX5_slab_19 (Nat.le_of_ble_eq_true rfl) (cN c_0 (Nat.le_of_ble_eq_true rfl)) (Nat.le_of_ble_eq_true rfl) (Nat.le_of_ble_eq_true rfl) (Nat.le_of_ble_eq_true rfl) (Nat.le_of_ble_eq_true rfl) hrun
def f_X5_magazine (h : Hp) (x0 x1 x2 x3 : Int) : Option (Nat × Int × Hp) :=
  Option.bind (ckd h 5 x0) fun u2 =>
  Option.bind (f_X5_knownCache h x0 x1) fun r1 =>
  if r1.1 = 0 then (
  Option.bind (f_X5_requireProcessor r1.2.2 x2) fun r3 =>
  if r3.1 = 0 then (
  if x3 = 0 then (
    Option.bind (gtf r3.2.2 1 13 r1.2.1) fun v4 =>
    Option.bind (ald r3.2.2 12 v4 x2) fun v5 =>
    Option.bind (gtf r3.2.2 2 1 v5) fun v6 =>
    some (0, v6, r3.2.2)
  ) else (
    if x3 = 1 then (
      Option.bind (gtf r3.2.2 1 14 r1.2.1) fun v7 =>
      Option.bind (ald r3.2.2 12 v7 x2) fun v8 =>
      Option.bind (gtf r3.2.2 2 1 v8) fun v9 =>
      some (0, v9, r3.2.2)
    ) else (
      if x3 = 2 then (
        Option.bind (gtf r3.2.2 1 16 r1.2.1) fun v10 =>
        some (0, v10, r3.2.2)
      ) else (
        some (2, 0, r3.2.2)
  )))
  ) else (some (r3.1, 0, r3.2.2))
  ) else (some (r1.1, 0, r1.2.2))
abbrev w_X5_magazine : List Cond := Cond.code yX5_magazine cX5_magazine 5 (some .int) :: BW
abbrev rm_X5_magazine : Room := { frames := 7, cells := 3, slots := 18, locals := 103 }
set_option maxHeartbeats 4000000 in
set_option maxRecDepth 100000 in
theorem c_X5_magazine (l : Launch) (D : va_G) (G : Nat → ClassId) (base : Nat) (h h' : Hp) (x0 x1 x2 x3 : Int) (code : Nat) (rv : Int) (i_x1 : inr x1) (i_x2 : inr x2) (i_x3 : inr x3) (hrun : f_X5_magazine h x0 x1 x2 x3 = some (code, rv, h')) : vx_Met l yX5_magazine w_X5_magazine rm_X5_magazine (PC l D G base h [vr x0, vi x1, vi x2, vi x3]) (QRx D G base code (some (vi rv)) (inr rv) h') (XR D G base code h') rm_X5_magazine.cells rm_X5_magazine.slots (Ab base) := by
  refine vx_ofW (cc := cX5_magazine) (maxL := 5) (ret := (some .int)) (by decide) rfl ?_
  intro p e s m args below meth c s₁ B hml hout hv
  obtain ⟨hargs, hE, hM⟩ := hv
  have hx := B.exec
  have hb := B.bytes
  have hr := B.returns
  have hts0 := atoms_spec (ws := w_X5_magazine) B.pre
  have hts : ∀ w ∈ BW, w.before args s = true := fun w hw => hts0 w (List.mem_cons_of_mem _ hw)
  have hown : s.vm.findClass RX5 = some m.cls := findClass_of_methodNamed B.named
  have hlocks := B.notSynchronized
  refine s_entry hargs hM (c_r (c_i (c_i (c_i c_0)))) (Nat.le_of_ble_eq_true rfl) (fun H locs ls hM hS hl => ?_)
  replace hl : lvh ls 5 [(0, vr x0), (1, vi x1), (2, vi x2), (3, vi x3)] := hl
  unfold f_X5_magazine at hrun
  refine s_aload_n hx hb dX5_magazine_0 rfl (la hl 0 rfl) ?_
  refine lv_iload_n hx hb dX5_magazine_1 rfl (la hl 1 rfl) ?_
  obtain ⟨u2, g2, hrun⟩ := bd hrun
  obtain ⟨r1, g1, hrun⟩ := bd hrun
  refine s_callVX (n := 1) (rest := []) [vi x1] hx hb hml hown hts hE hM hS (c_X5_knownCache l D G base h r1.2.2 x0 x1 r1.1 r1.2.1 i_x1 g1) kw_365 kw_362 kw_37 kw_364 kw_7 (by decide +kernel) ⟨Nat.le_of_ble_eq_true rfl, Nat.le_of_ble_eq_true rfl⟩ rfl rfl (by decide) g2 rfl hl.1.1 rfl (c8 c_0 (Nat.le_of_ble_eq_true rfl)) dX5_magazine_2 ⟨Nat.le_of_ble_eq_true rfl, Nat.le_of_ble_eq_true rfl⟩ (fun cd ce q9 H locs k9 hk9 hM hS hce hcv hcl => s_prop hout hlocks cd (it_neg cd hrun) hk9 hM hS hce hcv hcl (Nat.le_of_ble_eq_true rfl) (Nat.le_of_ble_eq_true rfl)) (fun cd H locs i_r1 hM hS => ?_)
  replace hrun := it_pos cd hrun
  refine W.eq (g2 := F0 m 5 ls [vr r1.2.1]) rfl ?_
  refine t_astore (lv' := [(4, vr r1.2.1), (0, vr x0), (1, vi x1), (2, vi x2), (3, vi x3)]) hx hb dX5_magazine_5 hl (by decide) rfl (fun ls hl => ?_)
  refine lv_iload_n hx hb dX5_magazine_7 rfl (la hl 3 rfl) ?_
  obtain ⟨r3, g3, hrun⟩ := bd hrun
  refine s_callSX (n := 1) (rest := []) [vi x2] hx hb hml hown hts hE hM hS (c_X5_requireProcessor l D G base r1.2.2 r3.2.2 x2 r3.1 r3.2.1 i_x2 g3) kw_407 kw_405 kw_37 kw_406 (by decide +kernel) ⟨Nat.le_of_ble_eq_true rfl, Nat.le_of_ble_eq_true rfl⟩ rfl hl.1.1 rfl (c8 c_0 (Nat.le_of_ble_eq_true rfl)) dX5_magazine_8 ⟨Nat.le_of_ble_eq_true rfl, Nat.le_of_ble_eq_true rfl⟩ (fun cd ce q9 H locs k9 hk9 hM hS hce hcv hcl => s_prop hout hlocks cd (it_neg cd hrun) hk9 hM hS hce hcv hcl (Nat.le_of_ble_eq_true rfl) (Nat.le_of_ble_eq_true rfl)) (fun cd H locs i_r3 hM hS => ?_)
  replace hrun := it_pos cd hrun
  refine W.eq (g2 := F0 m 11 ls []) rfl ?_
  refine lv_iload_n hx hb dX5_magazine_11 rfl (la hl 4 rfl) ?_
  by_cases c0 : x3 = 0
  · replace hrun := it_pos c0 hrun
    refine s_tsw (k := 0) (off := 28) (tgt := 40) hx hb i_x3 c0 dX5_magazine_12 (by decide) (by decide) (by decide +kernel) (by decide) ?_
    refine s_aload hx hb dX5_magazine_40 (la hl 0 rfl) ?_
    obtain ⟨v4, g4, hrun⟩ := bd hrun
    refine s_getfr hx hb hts kl_1 hown hE.1 hM (ci := 1) rfl (by decide) rfl (k := 13) (by decide) rfl (hts _ kw_312) g4 dX5_magazine_42 ?_
    refine lv_iload_n hx hb dX5_magazine_45 rfl (la hl 3 rfl) ?_
    obtain ⟨v5, g5, hrun⟩ := bd hrun
    refine s_aald hx hb hE.1 hM (kd := 12) (by decide) rfl i_x2 g5 dX5_magazine_46 ?_
    obtain ⟨v6, g6, hrun⟩ := bd hrun
    refine s_getfi hx hb hts kl_2 hown hE.1 hM (ci := 2) rfl (by decide) rfl (k := 1) (by decide) rfl (hts _ kw_280) g6 dX5_magazine_47 ?_
    have i_v6 : inr v6 := gtf_i hM g6 (by decide) rfl
    exact s_xret hx hb hr hlocks hM hS i_v6 hrun (Nat.le_of_ble_eq_true rfl) (Nat.le_of_ble_eq_true rfl) dX5_magazine_50
  · replace hrun := it_neg c0 hrun
    by_cases c1 : x3 = 1
    · replace hrun := it_pos c1 hrun
      refine s_tsw (k := 1) (off := 39) (tgt := 51) hx hb i_x3 c1 dX5_magazine_12 (by decide) (by decide) (by decide +kernel) (by decide) ?_
      refine s_aload hx hb dX5_magazine_51 (la hl 0 rfl) ?_
      obtain ⟨v7, g7, hrun⟩ := bd hrun
      refine s_getfr hx hb hts kl_1 hown hE.1 hM (ci := 1) rfl (by decide) rfl (k := 14) (by decide) rfl (hts _ kw_314) g7 dX5_magazine_53 ?_
      refine lv_iload_n hx hb dX5_magazine_56 rfl (la hl 3 rfl) ?_
      obtain ⟨v8, g8, hrun⟩ := bd hrun
      refine s_aald hx hb hE.1 hM (kd := 12) (by decide) rfl i_x2 g8 dX5_magazine_57 ?_
      obtain ⟨v9, g9, hrun⟩ := bd hrun
      refine s_getfi hx hb hts kl_2 hown hE.1 hM (ci := 2) rfl (by decide) rfl (k := 1) (by decide) rfl (hts _ kw_280) g9 dX5_magazine_58 ?_
      have i_v9 : inr v9 := gtf_i hM g9 (by decide) rfl
      exact s_xret hx hb hr hlocks hM hS i_v9 hrun (Nat.le_of_ble_eq_true rfl) (Nat.le_of_ble_eq_true rfl) dX5_magazine_61
    · replace hrun := it_neg c1 hrun
      by_cases c2 : x3 = 2
      · replace hrun := it_pos c2 hrun
        refine s_tsw (k := 2) (off := 50) (tgt := 62) hx hb i_x3 c2 dX5_magazine_12 (by decide) (by decide) (by decide +kernel) (by decide) ?_
        refine s_aload hx hb dX5_magazine_62 (la hl 0 rfl) ?_
        obtain ⟨v10, g10, hrun⟩ := bd hrun
        refine s_getfi hx hb hts kl_1 hown hE.1 hM (ci := 1) rfl (by decide) rfl (k := 16) (by decide) rfl (hts _ kw_317) g10 dX5_magazine_64 ?_
        have i_v10 : inr v10 := gtf_i hM g10 (by decide) rfl
        exact s_xret hx hb hr hlocks hM hS i_v10 hrun (Nat.le_of_ble_eq_true rfl) (Nat.le_of_ble_eq_true rfl) dX5_magazine_67
      · replace hrun := it_neg c2 hrun
        refine s_tswD (tgt := 68) hx hb i_x3 dX5_magazine_12 (by omega) (by decide) ?_
        exact s_throw 2 (by decide) rfl hx hb hml hl.1.1 hown hts hE hM hS hout hlocks (by decide +kernel) kw_178 kw_44 (is := 215) (text := "no such fact of a magazine") (by decide) xg_32 xr_32 xo_32 dX5_magazine_68 dX5_magazine_71 dX5_magazine_72 dX5_magazine_74 dX5_magazine_77 (Nat.le_of_ble_eq_true rfl) (cN c_0 (Nat.le_of_ble_eq_true rfl)) (Nat.le_of_ble_eq_true rfl) (Nat.le_of_ble_eq_true rfl) (Nat.le_of_ble_eq_true rfl) (Nat.le_of_ble_eq_true rfl) hrun
def f_X5_block_j10 (h : Hp) : Option (Nat × Int × Hp) :=
  some (2, 0, h)
def f_X5_block (h : Hp) (x0 x1 x2 : Int) : Option (Nat × Int × Hp) :=
  if x1 < 0 then (
    f_X5_block_j10 h
  ) else (
    if x1 ≤ 6 then (
      Option.bind (gtf h 5 0 x0) fun v1 =>
      Option.bind (ckd h 0 v1) fun u3 =>
      Option.bind (f_X0_freePage h v1 x1 x2) fun r2 =>
      some (0, r2.1, r2.2)
    ) else (
      f_X5_block_j10 h
    )
  )
abbrev w_X5_block : List Cond := Cond.code yX5_block cX5_block 3 (some .int) :: BW
abbrev rm_X5_block : Room := { frames := 6, cells := 1, slots := 6, locals := 82 }
set_option maxHeartbeats 4000000 in
set_option maxRecDepth 100000 in
theorem c_X5_block (l : Launch) (D : va_G) (G : Nat → ClassId) (base : Nat) (h h' : Hp) (x0 x1 x2 : Int) (code : Nat) (rv : Int) (i_x1 : inr x1) (i_x2 : inr x2) (hrun : f_X5_block h x0 x1 x2 = some (code, rv, h')) : vx_Met l yX5_block w_X5_block rm_X5_block (PC l D G base h [vr x0, vi x1, vi x2]) (QRx D G base code (some (vi rv)) (inr rv) h') (XR D G base code h') rm_X5_block.cells rm_X5_block.slots (Ab base) := by
  refine vx_ofW (cc := cX5_block) (maxL := 3) (ret := (some .int)) (by decide) rfl ?_
  intro p e s m args below meth c s₁ B hml hout hv
  obtain ⟨hargs, hE, hM⟩ := hv
  have hx := B.exec
  have hb := B.bytes
  have hr := B.returns
  have hts0 := atoms_spec (ws := w_X5_block) B.pre
  have hts : ∀ w ∈ BW, w.before args s = true := fun w hw => hts0 w (List.mem_cons_of_mem _ hw)
  have hown : s.vm.findClass RX5 = some m.cls := findClass_of_methodNamed B.named
  have hlocks := B.notSynchronized
  have j10 : ∀ (h : Hp) (H : Heap) (locs : List Loc) (ls : Array Slot), SM D G base h H → va_S (Ab base) s.heap H locs → lvh ls 3 [] → f_X5_block_j10 h = some (code, rv, h') → W p l e (headSpec w_X5_block rm_X5_block).room s m args below meth c H locs 0 0 (QIx D G base code rv h' below args s 1 6) (F0 m 10 ls []) := by
    intro h H locs ls hM hS hl hrun
    unfold f_X5_block_j10 at hrun
    exact s_throw 2 (by decide) rfl hx hb hml hl.1.1 hown hts hE hM hS hout hlocks (by decide +kernel) kw_178 kw_44 (is := 217) (text := "no such order") (by decide) xg_32 xr_32 xo_32 dX5_block_10 dX5_block_13 dX5_block_14 dX5_block_16 dX5_block_19 (Nat.le_of_ble_eq_true rfl) (cN c_0 (Nat.le_of_ble_eq_true rfl)) (Nat.le_of_ble_eq_true rfl) (Nat.le_of_ble_eq_true rfl) (Nat.le_of_ble_eq_true rfl) (Nat.le_of_ble_eq_true rfl) hrun
  refine s_entry hargs hM (c_r (c_i (c_i c_0))) (Nat.le_of_ble_eq_true rfl) (fun H locs ls hM hS hl => ?_)
  replace hl : lvh ls 3 [(0, vr x0), (1, vi x1), (2, vi x2)] := hl
  unfold f_X5_block at hrun
  refine lv_iload_n hx hb dX5_block_0 rfl (la hl 1 rfl) ?_
  refine s_if_lt (tgt := 10) hx hb dX5_block_1 (by decide) i_x1 (fun cd => ?_) (fun cd => ?_)
  · replace hrun := it_pos cd hrun
    exact j10 h H locs ls hM hS (lsub hl [] rfl) hrun
  · replace hrun := it_neg cd hrun
    refine lv_iload_n hx hb dX5_block_4 rfl (la hl 1 rfl) ?_
    refine lv_bipush (v := Int32.ofInt 6) hx hb dX5_block_5 (by decide) ?_
    refine s_icmp_le (tgt := 20) hx hb dX5_block_7 (by decide) i_x1 (by decide) (fun cd => ?_) (fun cd => ?_)
    · replace hrun := it_pos cd hrun
      refine s_aload_n hx hb dX5_block_20 rfl (la hl 0 rfl) ?_
      obtain ⟨v1, g1, hrun⟩ := bd hrun
      refine s_getfr hx hb hts kl_5 hown hE.1 hM (ci := 5) rfl (by decide) rfl (k := 0) (by decide) rfl (hts _ kw_83) g1 dX5_block_21 ?_
      refine lv_iload_n hx hb dX5_block_24 rfl (la hl 1 rfl) ?_
      refine lv_iload_n hx hb dX5_block_25 rfl (la hl 2 rfl) ?_
      obtain ⟨u3, g3, hrun⟩ := bd hrun
      obtain ⟨r2, g2, hrun⟩ := bd hrun
      refine s_callV (n := 2) (rest := []) [vi x1, vi x2] hx hb hml hown hts hE hM hS (c_X0_freePage l D G base h r2.2 v1 x1 x2 r2.1 i_x1 i_x2 g2) kw_440 kw_660 kw_38 kw_438 kw_439 (by decide +kernel) ⟨Nat.le_of_ble_eq_true rfl, Nat.le_of_ble_eq_true rfl⟩ rfl rfl (by decide) g3 rfl hl.1.1 rfl (c8 c_0 (Nat.le_of_ble_eq_true rfl)) dX5_block_26 ⟨Nat.le_of_ble_eq_true rfl, Nat.le_of_ble_eq_true rfl⟩ (fun H locs i_r2 hM hS => ?_)
      refine W.eq (g2 := F0 m 29 ls [vi r2.1]) rfl ?_
      exact s_xret hx hb hr hlocks hM hS i_r2 hrun (Nat.le_of_ble_eq_true rfl) (Nat.le_of_ble_eq_true rfl) dX5_block_29
    · replace hrun := it_neg cd hrun
      exact j10 h H locs ls hM hS (lsub hl [] rfl) hrun
