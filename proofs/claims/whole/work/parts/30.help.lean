def kL_cache (code : Nat) : Int := if code = 0 then 0 else 1
abbrev w_L_cache : List Cond := Cond.codeWith yL_cache cL_cache 7 (some .int) [(0, 14, 17, 13)] :: BW
abbrev rm_L_cache : Room := { frames := 7, cells := 24, slots := 82, locals := 107 }
set_option maxHeartbeats 4000000 in
set_option maxRecDepth 100000 in
theorem c_L_cache (l : Launch) (D : va_G) (G : Nat → ClassId) (base : Nat) (h h1 h2 : Hp) (x0 x1 x2 x3 x4 x5 : Int) (code : Nat) (rv : Int) (u : Unit) (i_x1 : inr x1) (i_x2 : inr x2) (i_x3 : inr x3) (i_x4 : inr x4) (gu : ckd h 5 x0 = some u) (g : f_X5_cache h x0 x1 x2 x3 x4 = some (code, rv, h1)) (hcd : code = 0 ∨ code = 2) (g0 : code = 0 → ast h1 10 x5 0 rv = some h2) (g1 : code ≠ 0 → h2 = h1) : vx_Met l yL_cache w_L_cache rm_L_cache (PC l D G base h [vr x0, vi x1, vi x2, vi x3, vi x4, vr x5]) (QL D G base (kL_cache code) h2) XF rm_L_cache.cells rm_L_cache.slots (Ab base) := by
  refine vx_ofWH (cc := cL_cache) (maxL := 7) (ret := (some .int)) (hh := [(0, 14, 17, 13)]) (by decide) rfl ?_
  intro p e s m args below meth c s₁ B hml hv
  obtain ⟨hargs, hE, hM⟩ := hv
  have hx := B.exec
  have hb := B.bytes
  have hr := B.returns
  have hts0 := atoms_spec (ws := w_L_cache) B.pre
  have htab : c.exceptionTable.toList = tableOf [(0, 14, 17, 13)] := vx_table (x := yL_cache) B (hts0 _ List.mem_cons_self)
  have hts : ∀ w ∈ BW, w.before args s = true := fun w hw => hts0 w (List.mem_cons_of_mem _ hw)
  have hown : s.vm.findClass RL = some m.cls := findClass_of_methodNamed B.named
  have hlocks := B.notSynchronized
  refine s_entry hargs hM (c_r (c_i (c_i (c_i (c_i (c_r c_0)))))) (Nat.le_of_ble_eq_true rfl) (fun H locs ls hM hS hl => ?_)
  replace hl : lvh ls 7 [(0, vr x0), (1, vi x1), (2, vi x2), (3, vi x3), (4, vi x4), (5, vr x5)] := hl
  refine s_aload hx hb dL_cache_0 (la hl 5 rfl) ?_
  refine lv_iconst (v := Int32.ofInt 0) hx hb dL_cache_2 rfl ?_
  refine s_aload_n hx hb dL_cache_3 rfl (la hl 0 rfl) ?_
  refine lv_iload_n hx hb dL_cache_4 rfl (la hl 1 rfl) ?_
  refine lv_iload_n hx hb dL_cache_5 rfl (la hl 2 rfl) ?_
  refine lv_iload_n hx hb dL_cache_6 rfl (la hl 3 rfl) ?_
  refine lv_iload hx hb dL_cache_7 (la hl 4 rfl) ?_
  refine s_callVX (n := 4) (rest := [vi 0, vr x5]) [vi x1, vi x2, vi x3, vi x4] hx hb hml hown hts hE hM hS (c_X5_cache l D G base h h1 x0 x1 x2 x3 x4 code rv i_x1 i_x2 i_x3 i_x4 g) kw_177 kw_174 kw_37 kw_175 kw_176 (by decide +kernel) ⟨Nat.le_of_ble_eq_true rfl, Nat.le_of_ble_eq_true rfl⟩ rfl rfl (by decide) gu rfl hl.1.1 rfl (c8 (c_i (c_r c_0)) (Nat.le_of_ble_eq_true rfl)) dL_cache_9 ⟨Nat.le_of_ble_eq_true rfl, Nat.le_of_ble_eq_true rfl⟩ (fun cd ce q9 H locs k9 hk9 hM hS hce hcv hcl => ?_) (fun cd H locs i_rv hM hS => ?_)
  · have hh := g1 cd
    subst hh
    rcases hcd with hcd | hcd
    · exact absurd hcd cd
    · subst hcd
      refine vx_catch (name := exA) (E := exA) hown [] ⟨0, 14, 17, 13⟩ [] htab (fun z hz => nomatch hz) (by decide) (by decide) (hts _ kw_173) (va_Nw.use rfl hE.2.2.2.2.2.2.1.2.1) hce hcv hcl ?_
      refine W.eq (g2 := F0 m 17 ls [vr (q9 : Int)]) (by rw [vr_nat]) ?_
      refine t_astore (lv' := [(6, vr (q9 : Int)), (0, vr x0), (1, vi x1), (2, vi x2), (3, vi x3), (4, vi x4), (5, vr x5)]) hx hb dL_cache_17 hl (by decide) rfl (fun ls hl => ?_)
      refine lv_iconst (v := Int32.ofInt 1) hx hb dL_cache_19 rfl ?_
      exact s_lcret hx hb hr hlocks hk9 hM hS (Nat.le_of_ble_eq_true rfl) (Nat.le_of_ble_eq_true rfl) dL_cache_20
  · subst cd
    refine W.eq (g2 := F0 m 12 ls [vi rv, vi 0, vr x5]) rfl ?_
    refine s_i2l hx hb i_rv dL_cache_12 ?_
    refine s_last hx hb hE.1 hM hS (by decide) i_rv (g0 rfl) dL_cache_13 (fun H locs hM hS => ?_)
    refine lv_goto (tgt := 21) hx hb dL_cache_14 (by decide) ?_
    refine lv_iconst (v := Int32.ofInt 0) hx hb dL_cache_21 rfl ?_
    exact s_lcret hx hb hr hlocks (Nat.le_refl _) (by rw [hsN_self]; exact hM) hS (Nat.le_of_ble_eq_true rfl) (Nat.le_of_ble_eq_true rfl) dL_cache_22
def kL_drop (code : Nat) : Int := if code = 0 then 0 else if code = 1 then 1 else 2
abbrev w_L_drop : List Cond := Cond.codeWith yL_drop cL_drop 4 (some .int) [(0, 9, 12, 19), (0, 9, 15, 21)] :: BW
abbrev rm_L_drop : Room := { frames := 8, cells := 2, slots := 12, locals := 128 }
set_option maxHeartbeats 4000000 in
set_option maxRecDepth 100000 in
theorem c_L_drop (l : Launch) (D : va_G) (G : Nat → ClassId) (base : Nat) (h h1 h2 : Hp) (x0 x1 x2 : Int) (code : Nat) (rv : Int) (u : Unit) (i_x1 : inr x1) (gu : ckd h 5 x0 = some u) (g : f_X5_drop h x0 x1 = some (code, rv, h1)) (hcd : code = 0 ∨ code = 1 ∨ code = 3) (g0 : code = 0 → ast h1 10 x2 0 rv = some h2) (g1 : code ≠ 0 → h2 = h1) : vx_Met l yL_drop w_L_drop rm_L_drop (PC l D G base h [vr x0, vi x1, vr x2]) (QL D G base (kL_drop code) h2) XF rm_L_drop.cells rm_L_drop.slots (Ab base) := by
  refine vx_ofWH (cc := cL_drop) (maxL := 4) (ret := (some .int)) (hh := [(0, 9, 12, 19), (0, 9, 15, 21)]) (by decide) rfl ?_
  intro p e s m args below meth c s₁ B hml hv
  obtain ⟨hargs, hE, hM⟩ := hv
  have hx := B.exec
  have hb := B.bytes
  have hr := B.returns
  have hts0 := atoms_spec (ws := w_L_drop) B.pre
  have htab : c.exceptionTable.toList = tableOf [(0, 9, 12, 19), (0, 9, 15, 21)] := vx_table (x := yL_drop) B (hts0 _ List.mem_cons_self)
  have hts : ∀ w ∈ BW, w.before args s = true := fun w hw => hts0 w (List.mem_cons_of_mem _ hw)
  have hown : s.vm.findClass RL = some m.cls := findClass_of_methodNamed B.named
  have hlocks := B.notSynchronized
  refine s_entry hargs hM (c_r (c_i (c_r c_0))) (Nat.le_of_ble_eq_true rfl) (fun H locs ls hM hS hl => ?_)
  replace hl : lvh ls 4 [(0, vr x0), (1, vi x1), (2, vr x2)] := hl
  refine s_aload_n hx hb dL_drop_0 rfl (la hl 2 rfl) ?_
  refine lv_iconst (v := Int32.ofInt 0) hx hb dL_drop_1 rfl ?_
  refine s_aload_n hx hb dL_drop_2 rfl (la hl 0 rfl) ?_
  refine lv_iload_n hx hb dL_drop_3 rfl (la hl 1 rfl) ?_
  refine s_callVX (n := 1) (rest := [vi 0, vr x2]) [vi x1] hx hb hml hown hts hE hM hS (c_X5_drop l D G base h h1 x0 x1 code rv i_x1 g) kw_361 kw_358 kw_37 kw_359 kw_360 (by decide +kernel) ⟨Nat.le_of_ble_eq_true rfl, Nat.le_of_ble_eq_true rfl⟩ rfl rfl (by decide) gu rfl hl.1.1 rfl (c8 (c_i (c_r c_0)) (Nat.le_of_ble_eq_true rfl)) dL_drop_4 ⟨Nat.le_of_ble_eq_true rfl, Nat.le_of_ble_eq_true rfl⟩ (fun cd ce q9 H locs k9 hk9 hM hS hce hcv hcl => ?_) (fun cd H locs i_rv hM hS => ?_)
  · have hh := g1 cd
    subst hh
    rcases hcd with hcd | hcd | hcd
    · exact absurd hcd cd
    · subst hcd
      refine vx_catch (name := exE) (E := exE) hown [] ⟨0, 9, 12, 19⟩ [⟨0, 9, 15, 21⟩] htab (fun z hz => nomatch hz) (by decide) (by decide) (hts _ kw_356) (va_Nw.use rfl hE.2.2.2.2.2.2.1.1) hce hcv hcl ?_
      refine W.eq (g2 := F0 m 12 ls [vr (q9 : Int)]) (by rw [vr_nat]) ?_
      refine t_astore_n (lv' := [(3, vr (q9 : Int)), (0, vr x0), (1, vi x1), (2, vr x2)]) hx hb dL_drop_12 rfl hl (by decide) rfl (fun ls hl => ?_)
      refine lv_iconst (v := Int32.ofInt 1) hx hb dL_drop_13 rfl ?_
      exact s_lcret hx hb hr hlocks hk9 hM hS (Nat.le_of_ble_eq_true rfl) (Nat.le_of_ble_eq_true rfl) dL_drop_14
    · subst hcd
      refine vx_catch (name := exS) (E := exS) hown [⟨0, 9, 12, 19⟩] ⟨0, 9, 15, 21⟩ [] htab (fun z hz => by
      rcases List.mem_cons.mp hz with rfl | hz
      · exact Or.inr ⟨by decide, exE, hts _ kw_356, hE.2.2.2.2.2.2.2.1.2.1⟩
      · cases hz) (by decide) (by decide) (hts _ kw_357) (va_Nw.use rfl hE.2.2.2.2.2.2.1.2.2) hce hcv hcl ?_
      refine W.eq (g2 := F0 m 15 ls [vr (q9 : Int)]) (by rw [vr_nat]) ?_
      refine t_astore_n (lv' := [(3, vr (q9 : Int)), (0, vr x0), (1, vi x1), (2, vr x2)]) hx hb dL_drop_15 rfl hl (by decide) rfl (fun ls hl => ?_)
      refine lv_iconst (v := Int32.ofInt 2) hx hb dL_drop_16 rfl ?_
      exact s_lcret hx hb hr hlocks hk9 hM hS (Nat.le_of_ble_eq_true rfl) (Nat.le_of_ble_eq_true rfl) dL_drop_17
  · subst cd
    refine W.eq (g2 := F0 m 7 ls [vi rv, vi 0, vr x2]) rfl ?_
    refine s_i2l hx hb i_rv dL_drop_7 ?_
    refine s_last hx hb hE.1 hM hS (by decide) i_rv (g0 rfl) dL_drop_8 (fun H locs hM hS => ?_)
    refine lv_goto (tgt := 18) hx hb dL_drop_9 (by decide) ?_
    refine lv_iconst (v := Int32.ofInt 0) hx hb dL_drop_18 rfl ?_
    exact s_lcret hx hb hr hlocks (Nat.le_refl _) (by rw [hsN_self]; exact hM) hS (Nat.le_of_ble_eq_true rfl) (Nat.le_of_ble_eq_true rfl) dL_drop_19
def kL_allocate (code : Nat) : Int := if code = 0 then 0 else if code = 1 then 1 else 2
abbrev w_L_allocate : List Cond := Cond.codeWith yL_allocate cL_allocate 5 (some .int) [(0, 10, 13, 19), (0, 10, 17, 13)] :: BW
abbrev rm_L_allocate : Room := { frames := 8, cells := 7, slots := 2079, locals := 172 }
set_option maxHeartbeats 4000000 in
set_option maxRecDepth 100000 in
theorem c_L_allocate (l : Launch) (D : va_G) (G : Nat → ClassId) (base : Nat) (h h1 h2 : Hp) (x0 x1 x2 x3 : Int) (code : Nat) (rv : Int) (u : Unit) (i_x1 : inr x1) (i_x2 : inr x2) (gu : ckd h 5 x0 = some u) (g : f_X5_allocate h x0 x1 x2 = some (code, rv, h1)) (hcd : code = 0 ∨ code = 1 ∨ code = 2) (g0 : code = 0 → ast h1 10 x3 0 rv = some h2) (g1 : code ≠ 0 → h2 = h1) : vx_Met l yL_allocate w_L_allocate rm_L_allocate (PC l D G base h [vr x0, vi x1, vi x2, vr x3]) (QL D G base (kL_allocate code) h2) XF rm_L_allocate.cells rm_L_allocate.slots (Ab base) := by
  refine vx_ofWH (cc := cL_allocate) (maxL := 5) (ret := (some .int)) (hh := [(0, 10, 13, 19), (0, 10, 17, 13)]) (by decide) rfl ?_
  intro p e s m args below meth c s₁ B hml hv
  obtain ⟨hargs, hE, hM⟩ := hv
  have hx := B.exec
  have hb := B.bytes
  have hr := B.returns
  have hts0 := atoms_spec (ws := w_L_allocate) B.pre
  have htab : c.exceptionTable.toList = tableOf [(0, 10, 13, 19), (0, 10, 17, 13)] := vx_table (x := yL_allocate) B (hts0 _ List.mem_cons_self)
  have hts : ∀ w ∈ BW, w.before args s = true := fun w hw => hts0 w (List.mem_cons_of_mem _ hw)
  have hown : s.vm.findClass RL = some m.cls := findClass_of_methodNamed B.named
  have hlocks := B.notSynchronized
  refine s_entry hargs hM (c_r (c_i (c_i (c_r c_0)))) (Nat.le_of_ble_eq_true rfl) (fun H locs ls hM hS hl => ?_)
  replace hl : lvh ls 5 [(0, vr x0), (1, vi x1), (2, vi x2), (3, vr x3)] := hl
  refine s_aload_n hx hb dL_allocate_0 rfl (la hl 3 rfl) ?_
  refine lv_iconst (v := Int32.ofInt 0) hx hb dL_allocate_1 rfl ?_
  refine s_aload_n hx hb dL_allocate_2 rfl (la hl 0 rfl) ?_
  refine lv_iload_n hx hb dL_allocate_3 rfl (la hl 1 rfl) ?_
  refine lv_iload_n hx hb dL_allocate_4 rfl (la hl 2 rfl) ?_
  refine s_callVX (n := 2) (rest := [vi 0, vr x3]) [vi x1, vi x2] hx hb hml hown hts hE hM hS (c_X5_allocate l D G base h h1 x0 x1 x2 code rv i_x1 i_x2 g) kw_404 kw_401 kw_37 kw_402 kw_403 (by decide +kernel) ⟨Nat.le_of_ble_eq_true rfl, Nat.le_of_ble_eq_true rfl⟩ rfl rfl (by decide) gu rfl hl.1.1 rfl (c8 (c_i (c_r c_0)) (Nat.le_of_ble_eq_true rfl)) dL_allocate_5 ⟨Nat.le_of_ble_eq_true rfl, Nat.le_of_ble_eq_true rfl⟩ (fun cd ce q9 H locs k9 hk9 hM hS hce hcv hcl => ?_) (fun cd H locs i_rv hM hS => ?_)
  · have hh := g1 cd
    subst hh
    rcases hcd with hcd | hcd | hcd
    · exact absurd hcd cd
    · subst hcd
      refine vx_catch (name := exE) (E := exE) hown [] ⟨0, 10, 13, 19⟩ [⟨0, 10, 17, 13⟩] htab (fun z hz => nomatch hz) (by decide) (by decide) (hts _ kw_356) (va_Nw.use rfl hE.2.2.2.2.2.2.1.1) hce hcv hcl ?_
      refine W.eq (g2 := F0 m 13 ls [vr (q9 : Int)]) (by rw [vr_nat]) ?_
      refine t_astore (lv' := [(4, vr (q9 : Int)), (0, vr x0), (1, vi x1), (2, vi x2), (3, vr x3)]) hx hb dL_allocate_13 hl (by decide) rfl (fun ls hl => ?_)
      refine lv_iconst (v := Int32.ofInt 1) hx hb dL_allocate_15 rfl ?_
      exact s_lcret hx hb hr hlocks hk9 hM hS (Nat.le_of_ble_eq_true rfl) (Nat.le_of_ble_eq_true rfl) dL_allocate_16
    · subst hcd
      refine vx_catch (name := exA) (E := exA) hown [⟨0, 10, 13, 19⟩] ⟨0, 10, 17, 13⟩ [] htab (fun z hz => by
      rcases List.mem_cons.mp hz with rfl | hz
      · exact Or.inr ⟨by decide, exE, hts _ kw_356, hE.2.2.2.2.2.2.2.1.1⟩
      · cases hz) (by decide) (by decide) (hts _ kw_173) (va_Nw.use rfl hE.2.2.2.2.2.2.1.2.1) hce hcv hcl ?_
      refine W.eq (g2 := F0 m 17 ls [vr (q9 : Int)]) (by rw [vr_nat]) ?_
      refine t_astore (lv' := [(4, vr (q9 : Int)), (0, vr x0), (1, vi x1), (2, vi x2), (3, vr x3)]) hx hb dL_allocate_17 hl (by decide) rfl (fun ls hl => ?_)
      refine lv_iconst (v := Int32.ofInt 2) hx hb dL_allocate_19 rfl ?_
      exact s_lcret hx hb hr hlocks hk9 hM hS (Nat.le_of_ble_eq_true rfl) (Nat.le_of_ble_eq_true rfl) dL_allocate_20
  · subst cd
    refine W.eq (g2 := F0 m 8 ls [vi rv, vi 0, vr x3]) rfl ?_
    refine s_i2l hx hb i_rv dL_allocate_8 ?_
    refine s_last hx hb hE.1 hM hS (by decide) i_rv (g0 rfl) dL_allocate_9 (fun H locs hM hS => ?_)
    refine lv_goto (tgt := 21) hx hb dL_allocate_10 (by decide) ?_
    refine lv_iconst (v := Int32.ofInt 0) hx hb dL_allocate_21 rfl ?_
    exact s_lcret hx hb hr hlocks (Nat.le_refl _) (by rw [hsN_self]; exact hM) hS (Nat.le_of_ble_eq_true rfl) (Nat.le_of_ble_eq_true rfl) dL_allocate_22
def kL_free (code : Nat) : Int := if code = 0 then 0 else if code = 1 then 1 else if code = 2 then 2 else 3
abbrev w_L_free : List Cond := Cond.codeWith yL_free cL_free 5 (some .int) [(0, 10, 13, 19), (0, 10, 17, 13), (0, 10, 21, 21)] :: BW
abbrev rm_L_free : Room := { frames := 8, cells := 3, slots := 12, locals := 127 }
set_option maxHeartbeats 4000000 in
set_option maxRecDepth 100000 in
theorem c_L_free (l : Launch) (D : va_G) (G : Nat → ClassId) (base : Nat) (h h1 h2 : Hp) (x0 x1 x2 x3 : Int) (code : Nat) (rv : Int) (u : Unit) (i_x1 : inr x1) (i_x2 : inr x2) (gu : ckd h 5 x0 = some u) (g : f_X5_free h x0 x1 x2 = some (code, rv, h1)) (hcd : code = 0 ∨ code = 1 ∨ code = 2 ∨ code = 3) (g0 : code = 0 → ast h1 10 x3 0 rv = some h2) (g1 : code ≠ 0 → h2 = h1) : vx_Met l yL_free w_L_free rm_L_free (PC l D G base h [vr x0, vi x1, vi x2, vr x3]) (QL D G base (kL_free code) h2) XF rm_L_free.cells rm_L_free.slots (Ab base) := by
  refine vx_ofWH (cc := cL_free) (maxL := 5) (ret := (some .int)) (hh := [(0, 10, 13, 19), (0, 10, 17, 13), (0, 10, 21, 21)]) (by decide) rfl ?_
  intro p e s m args below meth c s₁ B hml hv
  obtain ⟨hargs, hE, hM⟩ := hv
  have hx := B.exec
  have hb := B.bytes
  have hr := B.returns
  have hts0 := atoms_spec (ws := w_L_free) B.pre
  have htab : c.exceptionTable.toList = tableOf [(0, 10, 13, 19), (0, 10, 17, 13), (0, 10, 21, 21)] := vx_table (x := yL_free) B (hts0 _ List.mem_cons_self)
  have hts : ∀ w ∈ BW, w.before args s = true := fun w hw => hts0 w (List.mem_cons_of_mem _ hw)
  have hown : s.vm.findClass RL = some m.cls := findClass_of_methodNamed B.named
  have hlocks := B.notSynchronized
  refine s_entry hargs hM (c_r (c_i (c_i (c_r c_0)))) (Nat.le_of_ble_eq_true rfl) (fun H locs ls hM hS hl => ?_)
  replace hl : lvh ls 5 [(0, vr x0), (1, vi x1), (2, vi x2), (3, vr x3)] := hl
  refine s_aload_n hx hb dL_free_0 rfl (la hl 3 rfl) ?_
  refine lv_iconst (v := Int32.ofInt 0) hx hb dL_free_1 rfl ?_
  refine s_aload_n hx hb dL_free_2 rfl (la hl 0 rfl) ?_
  refine lv_iload_n hx hb dL_free_3 rfl (la hl 1 rfl) ?_
  refine lv_iload_n hx hb dL_free_4 rfl (la hl 2 rfl) ?_
  refine s_callVX (n := 2) (rest := [vi 0, vr x3]) [vi x1, vi x2] hx hb hml hown hts hE hM hS (c_X5_free l D G base h h1 x0 x1 x2 code rv i_x1 i_x2 g) kw_543 kw_540 kw_37 kw_541 kw_542 (by decide +kernel) ⟨Nat.le_of_ble_eq_true rfl, Nat.le_of_ble_eq_true rfl⟩ rfl rfl (by decide) gu rfl hl.1.1 rfl (c8 (c_i (c_r c_0)) (Nat.le_of_ble_eq_true rfl)) dL_free_5 ⟨Nat.le_of_ble_eq_true rfl, Nat.le_of_ble_eq_true rfl⟩ (fun cd ce q9 H locs k9 hk9 hM hS hce hcv hcl => ?_) (fun cd H locs i_rv hM hS => ?_)
  · have hh := g1 cd
    subst hh
    rcases hcd with hcd | hcd | hcd | hcd
    · exact absurd hcd cd
    · subst hcd
      refine vx_catch (name := exE) (E := exE) hown [] ⟨0, 10, 13, 19⟩ [⟨0, 10, 17, 13⟩, ⟨0, 10, 21, 21⟩] htab (fun z hz => nomatch hz) (by decide) (by decide) (hts _ kw_356) (va_Nw.use rfl hE.2.2.2.2.2.2.1.1) hce hcv hcl ?_
      refine W.eq (g2 := F0 m 13 ls [vr (q9 : Int)]) (by rw [vr_nat]) ?_
      refine t_astore (lv' := [(4, vr (q9 : Int)), (0, vr x0), (1, vi x1), (2, vi x2), (3, vr x3)]) hx hb dL_free_13 hl (by decide) rfl (fun ls hl => ?_)
      refine lv_iconst (v := Int32.ofInt 1) hx hb dL_free_15 rfl ?_
      exact s_lcret hx hb hr hlocks hk9 hM hS (Nat.le_of_ble_eq_true rfl) (Nat.le_of_ble_eq_true rfl) dL_free_16
    · subst hcd
      refine vx_catch (name := exA) (E := exA) hown [⟨0, 10, 13, 19⟩] ⟨0, 10, 17, 13⟩ [⟨0, 10, 21, 21⟩] htab (fun z hz => by
      rcases List.mem_cons.mp hz with rfl | hz
      · exact Or.inr ⟨by decide, exE, hts _ kw_356, hE.2.2.2.2.2.2.2.1.1⟩
      · cases hz) (by decide) (by decide) (hts _ kw_173) (va_Nw.use rfl hE.2.2.2.2.2.2.1.2.1) hce hcv hcl ?_
      refine W.eq (g2 := F0 m 17 ls [vr (q9 : Int)]) (by rw [vr_nat]) ?_
      refine t_astore (lv' := [(4, vr (q9 : Int)), (0, vr x0), (1, vi x1), (2, vi x2), (3, vr x3)]) hx hb dL_free_17 hl (by decide) rfl (fun ls hl => ?_)
      refine lv_iconst (v := Int32.ofInt 2) hx hb dL_free_19 rfl ?_
      exact s_lcret hx hb hr hlocks hk9 hM hS (Nat.le_of_ble_eq_true rfl) (Nat.le_of_ble_eq_true rfl) dL_free_20
    · subst hcd
      refine vx_catch (name := exS) (E := exS) hown [⟨0, 10, 13, 19⟩, ⟨0, 10, 17, 13⟩] ⟨0, 10, 21, 21⟩ [] htab (fun z hz => by
      rcases List.mem_cons.mp hz with rfl | hz
      · exact Or.inr ⟨by decide, exE, hts _ kw_356, hE.2.2.2.2.2.2.2.1.2.1⟩
      · rcases List.mem_cons.mp hz with rfl | hz
        · exact Or.inr ⟨by decide, exA, hts _ kw_173, hE.2.2.2.2.2.2.2.1.2.2⟩
        · cases hz) (by decide) (by decide) (hts _ kw_357) (va_Nw.use rfl hE.2.2.2.2.2.2.1.2.2) hce hcv hcl ?_
      refine W.eq (g2 := F0 m 21 ls [vr (q9 : Int)]) (by rw [vr_nat]) ?_
      refine t_astore (lv' := [(4, vr (q9 : Int)), (0, vr x0), (1, vi x1), (2, vi x2), (3, vr x3)]) hx hb dL_free_21 hl (by decide) rfl (fun ls hl => ?_)
      refine lv_iconst (v := Int32.ofInt 3) hx hb dL_free_23 rfl ?_
      exact s_lcret hx hb hr hlocks hk9 hM hS (Nat.le_of_ble_eq_true rfl) (Nat.le_of_ble_eq_true rfl) dL_free_24
  · subst cd
    refine W.eq (g2 := F0 m 8 ls [vi rv, vi 0, vr x3]) rfl ?_
    refine s_i2l hx hb i_rv dL_free_8 ?_
    refine s_last hx hb hE.1 hM hS (by decide) i_rv (g0 rfl) dL_free_9 (fun H locs hM hS => ?_)
    refine lv_goto (tgt := 25) hx hb dL_free_10 (by decide) ?_
    refine lv_iconst (v := Int32.ofInt 0) hx hb dL_free_25 rfl ?_
    exact s_lcret hx hb hr hlocks (Nat.le_refl _) (by rw [hsN_self]; exact hM) hS (Nat.le_of_ble_eq_true rfl) (Nat.le_of_ble_eq_true rfl) dL_free_26
def kL_mark (code : Nat) : Int := if code = 0 then 0 else 1
abbrev w_L_mark : List Cond := Cond.codeWith yL_mark cL_mark 5 (some .int) [(0, 10, 13, 19)] :: BW
abbrev rm_L_mark : Room := { frames := 7, cells := 1, slots := 6, locals := 109 }
set_option maxHeartbeats 4000000 in
set_option maxRecDepth 100000 in
theorem c_L_mark (l : Launch) (D : va_G) (G : Nat → ClassId) (base : Nat) (h h1 h2 : Hp) (x0 x1 x2 x3 : Int) (code : Nat) (rv : Int) (u : Unit) (i_x1 : inr x1) (i_x2 : inr x2) (gu : ckd h 5 x0 = some u) (g : f_X5_mark h x0 x1 x2 = some (code, rv, h1)) (hcd : code = 0 ∨ code = 1) (g0 : code = 0 → ast h1 10 x3 0 rv = some h2) (g1 : code ≠ 0 → h2 = h1) : vx_Met l yL_mark w_L_mark rm_L_mark (PC l D G base h [vr x0, vi x1, vi x2, vr x3]) (QL D G base (kL_mark code) h2) XF rm_L_mark.cells rm_L_mark.slots (Ab base) := by
  refine vx_ofWH (cc := cL_mark) (maxL := 5) (ret := (some .int)) (hh := [(0, 10, 13, 19)]) (by decide) rfl ?_
  intro p e s m args below meth c s₁ B hml hv
  obtain ⟨hargs, hE, hM⟩ := hv
  have hx := B.exec
  have hb := B.bytes
  have hr := B.returns
  have hts0 := atoms_spec (ws := w_L_mark) B.pre
  have htab : c.exceptionTable.toList = tableOf [(0, 10, 13, 19)] := vx_table (x := yL_mark) B (hts0 _ List.mem_cons_self)
  have hts : ∀ w ∈ BW, w.before args s = true := fun w hw => hts0 w (List.mem_cons_of_mem _ hw)
  have hown : s.vm.findClass RL = some m.cls := findClass_of_methodNamed B.named
  have hlocks := B.notSynchronized
  refine s_entry hargs hM (c_r (c_i (c_i (c_r c_0)))) (Nat.le_of_ble_eq_true rfl) (fun H locs ls hM hS hl => ?_)
  replace hl : lvh ls 5 [(0, vr x0), (1, vi x1), (2, vi x2), (3, vr x3)] := hl
  refine s_aload_n hx hb dL_mark_0 rfl (la hl 3 rfl) ?_
  refine lv_iconst (v := Int32.ofInt 0) hx hb dL_mark_1 rfl ?_
  refine s_aload_n hx hb dL_mark_2 rfl (la hl 0 rfl) ?_
  refine lv_iload_n hx hb dL_mark_3 rfl (la hl 1 rfl) ?_
  refine lv_iload_n hx hb dL_mark_4 rfl (la hl 2 rfl) ?_
  refine s_callVX (n := 2) (rest := [vi 0, vr x3]) [vi x1, vi x2] hx hb hml hown hts hE hM hS (c_X5_mark l D G base h h1 x0 x1 x2 code rv i_x1 i_x2 g) kw_583 kw_580 kw_37 kw_581 kw_582 (by decide +kernel) ⟨Nat.le_of_ble_eq_true rfl, Nat.le_of_ble_eq_true rfl⟩ rfl rfl (by decide) gu rfl hl.1.1 rfl (c8 (c_i (c_r c_0)) (Nat.le_of_ble_eq_true rfl)) dL_mark_5 ⟨Nat.le_of_ble_eq_true rfl, Nat.le_of_ble_eq_true rfl⟩ (fun cd ce q9 H locs k9 hk9 hM hS hce hcv hcl => ?_) (fun cd H locs i_rv hM hS => ?_)
  · have hh := g1 cd
    subst hh
    rcases hcd with hcd | hcd
    · exact absurd hcd cd
    · subst hcd
      refine vx_catch (name := exE) (E := exE) hown [] ⟨0, 10, 13, 19⟩ [] htab (fun z hz => nomatch hz) (by decide) (by decide) (hts _ kw_356) (va_Nw.use rfl hE.2.2.2.2.2.2.1.1) hce hcv hcl ?_
      refine W.eq (g2 := F0 m 13 ls [vr (q9 : Int)]) (by rw [vr_nat]) ?_
      refine t_astore (lv' := [(4, vr (q9 : Int)), (0, vr x0), (1, vi x1), (2, vi x2), (3, vr x3)]) hx hb dL_mark_13 hl (by decide) rfl (fun ls hl => ?_)
      refine lv_iconst (v := Int32.ofInt 1) hx hb dL_mark_15 rfl ?_
      exact s_lcret hx hb hr hlocks hk9 hM hS (Nat.le_of_ble_eq_true rfl) (Nat.le_of_ble_eq_true rfl) dL_mark_16
  · subst cd
    refine W.eq (g2 := F0 m 8 ls [vi rv, vi 0, vr x3]) rfl ?_
    refine s_i2l hx hb i_rv dL_mark_8 ?_
    refine s_last hx hb hE.1 hM hS (by decide) i_rv (g0 rfl) dL_mark_9 (fun H locs hM hS => ?_)
    refine lv_goto (tgt := 17) hx hb dL_mark_10 (by decide) ?_
    refine lv_iconst (v := Int32.ofInt 0) hx hb dL_mark_17 rfl ?_
    exact s_lcret hx hb hr hlocks (Nat.le_refl _) (by rw [hsN_self]; exact hM) hS (Nat.le_of_ble_eq_true rfl) (Nat.le_of_ble_eq_true rfl) dL_mark_18
def kL_flush (code : Nat) : Int := if code = 0 then 0 else 1
abbrev w_L_flush : List Cond := Cond.codeWith yL_flush cL_flush 4 (some .int) [(0, 9, 12, 13)] :: BW
abbrev rm_L_flush : Room := { frames := 8, cells := 1, slots := 6, locals := 133 }
set_option maxHeartbeats 4000000 in
set_option maxRecDepth 100000 in
theorem c_L_flush (l : Launch) (D : va_G) (G : Nat → ClassId) (base : Nat) (h h1 h2 : Hp) (x0 x1 x2 : Int) (code : Nat) (rv : Int) (u : Unit) (i_x1 : inr x1) (gu : ckd h 5 x0 = some u) (g : f_X5_flush h x0 x1 = some (code, rv, h1)) (hcd : code = 0 ∨ code = 2) (g0 : code = 0 → ast h1 10 x2 0 rv = some h2) (g1 : code ≠ 0 → h2 = h1) : vx_Met l yL_flush w_L_flush rm_L_flush (PC l D G base h [vr x0, vi x1, vr x2]) (QL D G base (kL_flush code) h2) XF rm_L_flush.cells rm_L_flush.slots (Ab base) := by
  refine vx_ofWH (cc := cL_flush) (maxL := 4) (ret := (some .int)) (hh := [(0, 9, 12, 13)]) (by decide) rfl ?_
  intro p e s m args below meth c s₁ B hml hv
  obtain ⟨hargs, hE, hM⟩ := hv
  have hx := B.exec
  have hb := B.bytes
  have hr := B.returns
  have hts0 := atoms_spec (ws := w_L_flush) B.pre
  have htab : c.exceptionTable.toList = tableOf [(0, 9, 12, 13)] := vx_table (x := yL_flush) B (hts0 _ List.mem_cons_self)
  have hts : ∀ w ∈ BW, w.before args s = true := fun w hw => hts0 w (List.mem_cons_of_mem _ hw)
  have hown : s.vm.findClass RL = some m.cls := findClass_of_methodNamed B.named
  have hlocks := B.notSynchronized
  refine s_entry hargs hM (c_r (c_i (c_r c_0))) (Nat.le_of_ble_eq_true rfl) (fun H locs ls hM hS hl => ?_)
  replace hl : lvh ls 4 [(0, vr x0), (1, vi x1), (2, vr x2)] := hl
  refine s_aload_n hx hb dL_flush_0 rfl (la hl 2 rfl) ?_
  refine lv_iconst (v := Int32.ofInt 0) hx hb dL_flush_1 rfl ?_
  refine s_aload_n hx hb dL_flush_2 rfl (la hl 0 rfl) ?_
  refine lv_iload_n hx hb dL_flush_3 rfl (la hl 1 rfl) ?_
  refine s_callVX (n := 1) (rest := [vi 0, vr x2]) [vi x1] hx hb hml hown hts hE hM hS (c_X5_flush l D G base h h1 x0 x1 code rv i_x1 g) kw_595 kw_592 kw_37 kw_593 kw_594 (by decide +kernel) ⟨Nat.le_of_ble_eq_true rfl, Nat.le_of_ble_eq_true rfl⟩ rfl rfl (by decide) gu rfl hl.1.1 rfl (c8 (c_i (c_r c_0)) (Nat.le_of_ble_eq_true rfl)) dL_flush_4 ⟨Nat.le_of_ble_eq_true rfl, Nat.le_of_ble_eq_true rfl⟩ (fun cd ce q9 H locs k9 hk9 hM hS hce hcv hcl => ?_) (fun cd H locs i_rv hM hS => ?_)
  · have hh := g1 cd
    subst hh
    rcases hcd with hcd | hcd
    · exact absurd hcd cd
    · subst hcd
      refine vx_catch (name := exA) (E := exA) hown [] ⟨0, 9, 12, 13⟩ [] htab (fun z hz => nomatch hz) (by decide) (by decide) (hts _ kw_173) (va_Nw.use rfl hE.2.2.2.2.2.2.1.2.1) hce hcv hcl ?_
      refine W.eq (g2 := F0 m 12 ls [vr (q9 : Int)]) (by rw [vr_nat]) ?_
      refine t_astore_n (lv' := [(3, vr (q9 : Int)), (0, vr x0), (1, vi x1), (2, vr x2)]) hx hb dL_flush_12 rfl hl (by decide) rfl (fun ls hl => ?_)
      refine lv_iconst (v := Int32.ofInt 1) hx hb dL_flush_13 rfl ?_
      exact s_lcret hx hb hr hlocks hk9 hM hS (Nat.le_of_ble_eq_true rfl) (Nat.le_of_ble_eq_true rfl) dL_flush_14
  · subst cd
    refine W.eq (g2 := F0 m 7 ls [vi rv, vi 0, vr x2]) rfl ?_
    refine s_i2l hx hb i_rv dL_flush_7 ?_
    refine s_last hx hb hE.1 hM hS (by decide) i_rv (g0 rfl) dL_flush_8 (fun H locs hM hS => ?_)
    refine lv_goto (tgt := 15) hx hb dL_flush_9 (by decide) ?_
    refine lv_iconst (v := Int32.ofInt 0) hx hb dL_flush_15 rfl ?_
    exact s_lcret hx hb hr hlocks (Nat.le_refl _) (by rw [hsN_self]; exact hM) hS (Nat.le_of_ble_eq_true rfl) (Nat.le_of_ble_eq_true rfl) dL_flush_16
def kL_empty (code : Nat) : Int := if code = 0 then 0 else 1
abbrev w_L_empty : List Cond := Cond.codeWith yL_empty cL_empty 4 (some .int) [(0, 9, 12, 19)] :: BW
abbrev rm_L_empty : Room := { frames := 8, cells := 1, slots := 6, locals := 134 }
set_option maxHeartbeats 4000000 in
set_option maxRecDepth 100000 in
theorem c_L_empty (l : Launch) (D : va_G) (G : Nat → ClassId) (base : Nat) (h h1 h2 : Hp) (x0 x1 x2 : Int) (code : Nat) (rv : Int) (u : Unit) (i_x1 : inr x1) (gu : ckd h 5 x0 = some u) (g : f_X5_empty h x0 x1 = some (code, rv, h1)) (hcd : code = 0 ∨ code = 1) (g0 : code = 0 → ast h1 10 x2 0 rv = some h2) (g1 : code ≠ 0 → h2 = h1) : vx_Met l yL_empty w_L_empty rm_L_empty (PC l D G base h [vr x0, vi x1, vr x2]) (QL D G base (kL_empty code) h2) XF rm_L_empty.cells rm_L_empty.slots (Ab base) := by
  refine vx_ofWH (cc := cL_empty) (maxL := 4) (ret := (some .int)) (hh := [(0, 9, 12, 19)]) (by decide) rfl ?_
  intro p e s m args below meth c s₁ B hml hv
  obtain ⟨hargs, hE, hM⟩ := hv
  have hx := B.exec
  have hb := B.bytes
  have hr := B.returns
  have hts0 := atoms_spec (ws := w_L_empty) B.pre
  have htab : c.exceptionTable.toList = tableOf [(0, 9, 12, 19)] := vx_table (x := yL_empty) B (hts0 _ List.mem_cons_self)
  have hts : ∀ w ∈ BW, w.before args s = true := fun w hw => hts0 w (List.mem_cons_of_mem _ hw)
  have hown : s.vm.findClass RL = some m.cls := findClass_of_methodNamed B.named
  have hlocks := B.notSynchronized
  refine s_entry hargs hM (c_r (c_i (c_r c_0))) (Nat.le_of_ble_eq_true rfl) (fun H locs ls hM hS hl => ?_)
  replace hl : lvh ls 4 [(0, vr x0), (1, vi x1), (2, vr x2)] := hl
  refine s_aload_n hx hb dL_empty_0 rfl (la hl 2 rfl) ?_
  refine lv_iconst (v := Int32.ofInt 0) hx hb dL_empty_1 rfl ?_
  refine s_aload_n hx hb dL_empty_2 rfl (la hl 0 rfl) ?_
  refine lv_iload_n hx hb dL_empty_3 rfl (la hl 1 rfl) ?_
  refine s_callVX (n := 1) (rest := [vi 0, vr x2]) [vi x1] hx hb hml hown hts hE hM hS (c_X5_empty l D G base h h1 x0 x1 code rv i_x1 g) kw_607 kw_604 kw_37 kw_605 kw_606 (by decide +kernel) ⟨Nat.le_of_ble_eq_true rfl, Nat.le_of_ble_eq_true rfl⟩ rfl rfl (by decide) gu rfl hl.1.1 rfl (c8 (c_i (c_r c_0)) (Nat.le_of_ble_eq_true rfl)) dL_empty_4 ⟨Nat.le_of_ble_eq_true rfl, Nat.le_of_ble_eq_true rfl⟩ (fun cd ce q9 H locs k9 hk9 hM hS hce hcv hcl => ?_) (fun cd H locs i_rv hM hS => ?_)
  · have hh := g1 cd
    subst hh
    rcases hcd with hcd | hcd
    · exact absurd hcd cd
    · subst hcd
      refine vx_catch (name := exE) (E := exE) hown [] ⟨0, 9, 12, 19⟩ [] htab (fun z hz => nomatch hz) (by decide) (by decide) (hts _ kw_356) (va_Nw.use rfl hE.2.2.2.2.2.2.1.1) hce hcv hcl ?_
      refine W.eq (g2 := F0 m 12 ls [vr (q9 : Int)]) (by rw [vr_nat]) ?_
      refine t_astore_n (lv' := [(3, vr (q9 : Int)), (0, vr x0), (1, vi x1), (2, vr x2)]) hx hb dL_empty_12 rfl hl (by decide) rfl (fun ls hl => ?_)
      refine lv_iconst (v := Int32.ofInt 1) hx hb dL_empty_13 rfl ?_
      exact s_lcret hx hb hr hlocks hk9 hM hS (Nat.le_of_ble_eq_true rfl) (Nat.le_of_ble_eq_true rfl) dL_empty_14
  · subst cd
    refine W.eq (g2 := F0 m 7 ls [vi rv, vi 0, vr x2]) rfl ?_
    refine s_i2l hx hb i_rv dL_empty_7 ?_
    refine s_last hx hb hE.1 hM hS (by decide) i_rv (g0 rfl) dL_empty_8 (fun H locs hM hS => ?_)
    refine lv_goto (tgt := 15) hx hb dL_empty_9 (by decide) ?_
    refine lv_iconst (v := Int32.ofInt 0) hx hb dL_empty_15 rfl ?_
    exact s_lcret hx hb hr hlocks (Nat.le_refl _) (by rw [hsN_self]; exact hM) hS (Nat.le_of_ble_eq_true rfl) (Nat.le_of_ble_eq_true rfl) dL_empty_16
def kL_about (code : Nat) : Int := if code = 0 then 0 else if code = 1 then 1 else 2
abbrev w_L_about : List Cond := Cond.codeWith yL_about cL_about 5 (some .int) [(0, 10, 13, 19), (0, 10, 17, 13)] :: BW
abbrev rm_L_about : Room := { frames := 8, cells := 2, slots := 12, locals := 126 }
set_option maxHeartbeats 4000000 in
set_option maxRecDepth 100000 in
theorem c_L_about (l : Launch) (D : va_G) (G : Nat → ClassId) (base : Nat) (h h1 h2 : Hp) (x0 x1 x2 x3 : Int) (code : Nat) (rv : Int) (u : Unit) (i_x1 : inr x1) (i_x2 : inr x2) (gu : ckd h 5 x0 = some u) (g : f_X5_about h x0 x1 x2 = some (code, rv, h1)) (hcd : code = 0 ∨ code = 1 ∨ code = 2) (g0 : code = 0 → ast h1 10 x3 0 rv = some h2) (g1 : code ≠ 0 → h2 = h1) : vx_Met l yL_about w_L_about rm_L_about (PC l D G base h [vr x0, vi x1, vi x2, vr x3]) (QL D G base (kL_about code) h2) XF rm_L_about.cells rm_L_about.slots (Ab base) := by
  refine vx_ofWH (cc := cL_about) (maxL := 5) (ret := (some .int)) (hh := [(0, 10, 13, 19), (0, 10, 17, 13)]) (by decide) rfl ?_
  intro p e s m args below meth c s₁ B hml hv
  obtain ⟨hargs, hE, hM⟩ := hv
  have hx := B.exec
  have hb := B.bytes
  have hr := B.returns
  have hts0 := atoms_spec (ws := w_L_about) B.pre
  have htab : c.exceptionTable.toList = tableOf [(0, 10, 13, 19), (0, 10, 17, 13)] := vx_table (x := yL_about) B (hts0 _ List.mem_cons_self)
  have hts : ∀ w ∈ BW, w.before args s = true := fun w hw => hts0 w (List.mem_cons_of_mem _ hw)
  have hown : s.vm.findClass RL = some m.cls := findClass_of_methodNamed B.named
  have hlocks := B.notSynchronized
  refine s_entry hargs hM (c_r (c_i (c_i (c_r c_0)))) (Nat.le_of_ble_eq_true rfl) (fun H locs ls hM hS hl => ?_)
  replace hl : lvh ls 5 [(0, vr x0), (1, vi x1), (2, vi x2), (3, vr x3)] := hl
  refine s_aload_n hx hb dL_about_0 rfl (la hl 3 rfl) ?_
  refine lv_iconst (v := Int32.ofInt 0) hx hb dL_about_1 rfl ?_
  refine s_aload_n hx hb dL_about_2 rfl (la hl 0 rfl) ?_
  refine lv_iload_n hx hb dL_about_3 rfl (la hl 1 rfl) ?_
  refine lv_iload_n hx hb dL_about_4 rfl (la hl 2 rfl) ?_
  refine s_callVX (n := 2) (rest := [vi 0, vr x3]) [vi x1, vi x2] hx hb hml hown hts hE hM hS (c_X5_about l D G base h h1 x0 x1 x2 code rv i_x1 i_x2 g) kw_615 kw_612 kw_37 kw_613 kw_614 (by decide +kernel) ⟨Nat.le_of_ble_eq_true rfl, Nat.le_of_ble_eq_true rfl⟩ rfl rfl (by decide) gu rfl hl.1.1 rfl (c8 (c_i (c_r c_0)) (Nat.le_of_ble_eq_true rfl)) dL_about_5 ⟨Nat.le_of_ble_eq_true rfl, Nat.le_of_ble_eq_true rfl⟩ (fun cd ce q9 H locs k9 hk9 hM hS hce hcv hcl => ?_) (fun cd H locs i_rv hM hS => ?_)
  · have hh := g1 cd
    subst hh
    rcases hcd with hcd | hcd | hcd
    · exact absurd hcd cd
    · subst hcd
      refine vx_catch (name := exE) (E := exE) hown [] ⟨0, 10, 13, 19⟩ [⟨0, 10, 17, 13⟩] htab (fun z hz => nomatch hz) (by decide) (by decide) (hts _ kw_356) (va_Nw.use rfl hE.2.2.2.2.2.2.1.1) hce hcv hcl ?_
      refine W.eq (g2 := F0 m 13 ls [vr (q9 : Int)]) (by rw [vr_nat]) ?_
      refine t_astore (lv' := [(4, vr (q9 : Int)), (0, vr x0), (1, vi x1), (2, vi x2), (3, vr x3)]) hx hb dL_about_13 hl (by decide) rfl (fun ls hl => ?_)
      refine lv_iconst (v := Int32.ofInt 1) hx hb dL_about_15 rfl ?_
      exact s_lcret hx hb hr hlocks hk9 hM hS (Nat.le_of_ble_eq_true rfl) (Nat.le_of_ble_eq_true rfl) dL_about_16
    · subst hcd
      refine vx_catch (name := exA) (E := exA) hown [⟨0, 10, 13, 19⟩] ⟨0, 10, 17, 13⟩ [] htab (fun z hz => by
      rcases List.mem_cons.mp hz with rfl | hz
      · exact Or.inr ⟨by decide, exE, hts _ kw_356, hE.2.2.2.2.2.2.2.1.1⟩
      · cases hz) (by decide) (by decide) (hts _ kw_173) (va_Nw.use rfl hE.2.2.2.2.2.2.1.2.1) hce hcv hcl ?_
      refine W.eq (g2 := F0 m 17 ls [vr (q9 : Int)]) (by rw [vr_nat]) ?_
      refine t_astore (lv' := [(4, vr (q9 : Int)), (0, vr x0), (1, vi x1), (2, vi x2), (3, vr x3)]) hx hb dL_about_17 hl (by decide) rfl (fun ls hl => ?_)
      refine lv_iconst (v := Int32.ofInt 2) hx hb dL_about_19 rfl ?_
      exact s_lcret hx hb hr hlocks hk9 hM hS (Nat.le_of_ble_eq_true rfl) (Nat.le_of_ble_eq_true rfl) dL_about_20
  · subst cd
    refine W.eq (g2 := F0 m 8 ls [vi rv, vi 0, vr x3]) rfl ?_
    refine s_i2l hx hb i_rv dL_about_8 ?_
    refine s_last hx hb hE.1 hM hS (by decide) i_rv (g0 rfl) dL_about_9 (fun H locs hM hS => ?_)
    refine lv_goto (tgt := 21) hx hb dL_about_10 (by decide) ?_
    refine lv_iconst (v := Int32.ofInt 0) hx hb dL_about_21 rfl ?_
    exact s_lcret hx hb hr hlocks (Nat.le_refl _) (by rw [hsN_self]; exact hM) hS (Nat.le_of_ble_eq_true rfl) (Nat.le_of_ble_eq_true rfl) dL_about_22
def kL_list (code : Nat) : Int := if code = 0 then 0 else if code = 1 then 1 else 2
abbrev w_L_list : List Cond := Cond.codeWith yL_list cL_list 6 (some .int) [(0, 12, 15, 19), (0, 12, 19, 13)] :: BW
abbrev rm_L_list : Room := { frames := 8, cells := 2, slots := 12, locals := 128 }
set_option maxHeartbeats 4000000 in
set_option maxRecDepth 100000 in
theorem c_L_list (l : Launch) (D : va_G) (G : Nat → ClassId) (base : Nat) (h h1 h2 : Hp) (x0 x1 x2 x3 x4 : Int) (code : Nat) (rv : Int) (u : Unit) (i_x1 : inr x1) (i_x2 : inr x2) (i_x3 : inr x3) (gu : ckd h 5 x0 = some u) (g : f_X5_list h x0 x1 x2 x3 = some (code, rv, h1)) (hcd : code = 0 ∨ code = 1 ∨ code = 2) (g0 : code = 0 → ast h1 10 x4 0 rv = some h2) (g1 : code ≠ 0 → h2 = h1) : vx_Met l yL_list w_L_list rm_L_list (PC l D G base h [vr x0, vi x1, vi x2, vi x3, vr x4]) (QL D G base (kL_list code) h2) XF rm_L_list.cells rm_L_list.slots (Ab base) := by
  refine vx_ofWH (cc := cL_list) (maxL := 6) (ret := (some .int)) (hh := [(0, 12, 15, 19), (0, 12, 19, 13)]) (by decide) rfl ?_
  intro p e s m args below meth c s₁ B hml hv
  obtain ⟨hargs, hE, hM⟩ := hv
  have hx := B.exec
  have hb := B.bytes
  have hr := B.returns
  have hts0 := atoms_spec (ws := w_L_list) B.pre
  have htab : c.exceptionTable.toList = tableOf [(0, 12, 15, 19), (0, 12, 19, 13)] := vx_table (x := yL_list) B (hts0 _ List.mem_cons_self)
  have hts : ∀ w ∈ BW, w.before args s = true := fun w hw => hts0 w (List.mem_cons_of_mem _ hw)
  have hown : s.vm.findClass RL = some m.cls := findClass_of_methodNamed B.named
  have hlocks := B.notSynchronized
  refine s_entry hargs hM (c_r (c_i (c_i (c_i (c_r c_0))))) (Nat.le_of_ble_eq_true rfl) (fun H locs ls hM hS hl => ?_)
  replace hl : lvh ls 6 [(0, vr x0), (1, vi x1), (2, vi x2), (3, vi x3), (4, vr x4)] := hl
  refine s_aload hx hb dL_list_0 (la hl 4 rfl) ?_
  refine lv_iconst (v := Int32.ofInt 0) hx hb dL_list_2 rfl ?_
  refine s_aload_n hx hb dL_list_3 rfl (la hl 0 rfl) ?_
  refine lv_iload_n hx hb dL_list_4 rfl (la hl 1 rfl) ?_
  refine lv_iload_n hx hb dL_list_5 rfl (la hl 2 rfl) ?_
  refine lv_iload_n hx hb dL_list_6 rfl (la hl 3 rfl) ?_
  refine s_callVX (n := 3) (rest := [vi 0, vr x4]) [vi x1, vi x2, vi x3] hx hb hml hown hts hE hM hS (c_X5_list l D G base h h1 x0 x1 x2 x3 code rv i_x1 i_x2 i_x3 g) kw_627 kw_624 kw_37 kw_625 kw_626 (by decide +kernel) ⟨Nat.le_of_ble_eq_true rfl, Nat.le_of_ble_eq_true rfl⟩ rfl rfl (by decide) gu rfl hl.1.1 rfl (c8 (c_i (c_r c_0)) (Nat.le_of_ble_eq_true rfl)) dL_list_7 ⟨Nat.le_of_ble_eq_true rfl, Nat.le_of_ble_eq_true rfl⟩ (fun cd ce q9 H locs k9 hk9 hM hS hce hcv hcl => ?_) (fun cd H locs i_rv hM hS => ?_)
  · have hh := g1 cd
    subst hh
    rcases hcd with hcd | hcd | hcd
    · exact absurd hcd cd
    · subst hcd
      refine vx_catch (name := exE) (E := exE) hown [] ⟨0, 12, 15, 19⟩ [⟨0, 12, 19, 13⟩] htab (fun z hz => nomatch hz) (by decide) (by decide) (hts _ kw_356) (va_Nw.use rfl hE.2.2.2.2.2.2.1.1) hce hcv hcl ?_
      refine W.eq (g2 := F0 m 15 ls [vr (q9 : Int)]) (by rw [vr_nat]) ?_
      refine t_astore (lv' := [(5, vr (q9 : Int)), (0, vr x0), (1, vi x1), (2, vi x2), (3, vi x3), (4, vr x4)]) hx hb dL_list_15 hl (by decide) rfl (fun ls hl => ?_)
      refine lv_iconst (v := Int32.ofInt 1) hx hb dL_list_17 rfl ?_
      exact s_lcret hx hb hr hlocks hk9 hM hS (Nat.le_of_ble_eq_true rfl) (Nat.le_of_ble_eq_true rfl) dL_list_18
    · subst hcd
      refine vx_catch (name := exA) (E := exA) hown [⟨0, 12, 15, 19⟩] ⟨0, 12, 19, 13⟩ [] htab (fun z hz => by
      rcases List.mem_cons.mp hz with rfl | hz
      · exact Or.inr ⟨by decide, exE, hts _ kw_356, hE.2.2.2.2.2.2.2.1.1⟩
      · cases hz) (by decide) (by decide) (hts _ kw_173) (va_Nw.use rfl hE.2.2.2.2.2.2.1.2.1) hce hcv hcl ?_
      refine W.eq (g2 := F0 m 19 ls [vr (q9 : Int)]) (by rw [vr_nat]) ?_
      refine t_astore (lv' := [(5, vr (q9 : Int)), (0, vr x0), (1, vi x1), (2, vi x2), (3, vi x3), (4, vr x4)]) hx hb dL_list_19 hl (by decide) rfl (fun ls hl => ?_)
      refine lv_iconst (v := Int32.ofInt 2) hx hb dL_list_21 rfl ?_
      exact s_lcret hx hb hr hlocks hk9 hM hS (Nat.le_of_ble_eq_true rfl) (Nat.le_of_ble_eq_true rfl) dL_list_22
  · subst cd
    refine W.eq (g2 := F0 m 10 ls [vi rv, vi 0, vr x4]) rfl ?_
    refine s_i2l hx hb i_rv dL_list_10 ?_
    refine s_last hx hb hE.1 hM hS (by decide) i_rv (g0 rfl) dL_list_11 (fun H locs hM hS => ?_)
    refine lv_goto (tgt := 23) hx hb dL_list_12 (by decide) ?_
    refine lv_iconst (v := Int32.ofInt 0) hx hb dL_list_23 rfl ?_
    exact s_lcret hx hb hr hlocks (Nat.le_refl _) (by rw [hsN_self]; exact hM) hS (Nat.le_of_ble_eq_true rfl) (Nat.le_of_ble_eq_true rfl) dL_list_24
def kL_slab (code : Nat) : Int := if code = 0 then 0 else if code = 1 then 1 else 2
abbrev w_L_slab : List Cond := Cond.codeWith yL_slab cL_slab 5 (some .int) [(0, 10, 13, 19), (0, 10, 17, 13)] :: BW
abbrev rm_L_slab : Room := { frames := 7, cells := 1, slots := 6, locals := 105 }
set_option maxHeartbeats 4000000 in
set_option maxRecDepth 100000 in
theorem c_L_slab (l : Launch) (D : va_G) (G : Nat → ClassId) (base : Nat) (h h1 h2 : Hp) (x0 x1 x2 x3 : Int) (code : Nat) (rv : Int) (u : Unit) (i_x1 : inr x1) (i_x2 : inr x2) (gu : ckd h 5 x0 = some u) (g : f_X5_slab h x0 x1 x2 = some (code, rv, h1)) (hcd : code = 0 ∨ code = 1 ∨ code = 2) (g0 : code = 0 → ast h1 10 x3 0 rv = some h2) (g1 : code ≠ 0 → h2 = h1) : vx_Met l yL_slab w_L_slab rm_L_slab (PC l D G base h [vr x0, vi x1, vi x2, vr x3]) (QL D G base (kL_slab code) h2) XF rm_L_slab.cells rm_L_slab.slots (Ab base) := by
  refine vx_ofWH (cc := cL_slab) (maxL := 5) (ret := (some .int)) (hh := [(0, 10, 13, 19), (0, 10, 17, 13)]) (by decide) rfl ?_
  intro p e s m args below meth c s₁ B hml hv
  obtain ⟨hargs, hE, hM⟩ := hv
  have hx := B.exec
  have hb := B.bytes
  have hr := B.returns
  have hts0 := atoms_spec (ws := w_L_slab) B.pre
  have htab : c.exceptionTable.toList = tableOf [(0, 10, 13, 19), (0, 10, 17, 13)] := vx_table (x := yL_slab) B (hts0 _ List.mem_cons_self)
  have hts : ∀ w ∈ BW, w.before args s = true := fun w hw => hts0 w (List.mem_cons_of_mem _ hw)
  have hown : s.vm.findClass RL = some m.cls := findClass_of_methodNamed B.named
  have hlocks := B.notSynchronized
  refine s_entry hargs hM (c_r (c_i (c_i (c_r c_0)))) (Nat.le_of_ble_eq_true rfl) (fun H locs ls hM hS hl => ?_)
  replace hl : lvh ls 5 [(0, vr x0), (1, vi x1), (2, vi x2), (3, vr x3)] := hl
  refine s_aload_n hx hb dL_slab_0 rfl (la hl 3 rfl) ?_
  refine lv_iconst (v := Int32.ofInt 0) hx hb dL_slab_1 rfl ?_
  refine s_aload_n hx hb dL_slab_2 rfl (la hl 0 rfl) ?_
  refine lv_iload_n hx hb dL_slab_3 rfl (la hl 1 rfl) ?_
  refine lv_iload_n hx hb dL_slab_4 rfl (la hl 2 rfl) ?_
  refine s_callVX (n := 2) (rest := [vi 0, vr x3]) [vi x1, vi x2] hx hb hml hown hts hE hM hS (c_X5_slab l D G base h h1 x0 x1 x2 code rv i_x1 i_x2 g) kw_640 kw_637 kw_37 kw_638 kw_639 (by decide +kernel) ⟨Nat.le_of_ble_eq_true rfl, Nat.le_of_ble_eq_true rfl⟩ rfl rfl (by decide) gu rfl hl.1.1 rfl (c8 (c_i (c_r c_0)) (Nat.le_of_ble_eq_true rfl)) dL_slab_5 ⟨Nat.le_of_ble_eq_true rfl, Nat.le_of_ble_eq_true rfl⟩ (fun cd ce q9 H locs k9 hk9 hM hS hce hcv hcl => ?_) (fun cd H locs i_rv hM hS => ?_)
  · have hh := g1 cd
    subst hh
    rcases hcd with hcd | hcd | hcd
    · exact absurd hcd cd
    · subst hcd
      refine vx_catch (name := exE) (E := exE) hown [] ⟨0, 10, 13, 19⟩ [⟨0, 10, 17, 13⟩] htab (fun z hz => nomatch hz) (by decide) (by decide) (hts _ kw_356) (va_Nw.use rfl hE.2.2.2.2.2.2.1.1) hce hcv hcl ?_
      refine W.eq (g2 := F0 m 13 ls [vr (q9 : Int)]) (by rw [vr_nat]) ?_
      refine t_astore (lv' := [(4, vr (q9 : Int)), (0, vr x0), (1, vi x1), (2, vi x2), (3, vr x3)]) hx hb dL_slab_13 hl (by decide) rfl (fun ls hl => ?_)
      refine lv_iconst (v := Int32.ofInt 1) hx hb dL_slab_15 rfl ?_
      exact s_lcret hx hb hr hlocks hk9 hM hS (Nat.le_of_ble_eq_true rfl) (Nat.le_of_ble_eq_true rfl) dL_slab_16
    · subst hcd
      refine vx_catch (name := exA) (E := exA) hown [⟨0, 10, 13, 19⟩] ⟨0, 10, 17, 13⟩ [] htab (fun z hz => by
      rcases List.mem_cons.mp hz with rfl | hz
      · exact Or.inr ⟨by decide, exE, hts _ kw_356, hE.2.2.2.2.2.2.2.1.1⟩
      · cases hz) (by decide) (by decide) (hts _ kw_173) (va_Nw.use rfl hE.2.2.2.2.2.2.1.2.1) hce hcv hcl ?_
      refine W.eq (g2 := F0 m 17 ls [vr (q9 : Int)]) (by rw [vr_nat]) ?_
      refine t_astore (lv' := [(4, vr (q9 : Int)), (0, vr x0), (1, vi x1), (2, vi x2), (3, vr x3)]) hx hb dL_slab_17 hl (by decide) rfl (fun ls hl => ?_)
      refine lv_iconst (v := Int32.ofInt 2) hx hb dL_slab_19 rfl ?_
      exact s_lcret hx hb hr hlocks hk9 hM hS (Nat.le_of_ble_eq_true rfl) (Nat.le_of_ble_eq_true rfl) dL_slab_20
  · subst cd
    refine W.eq (g2 := F0 m 8 ls [vi rv, vi 0, vr x3]) rfl ?_
    refine s_i2l hx hb i_rv dL_slab_8 ?_
    refine s_last hx hb hE.1 hM hS (by decide) i_rv (g0 rfl) dL_slab_9 (fun H locs hM hS => ?_)
    refine lv_goto (tgt := 21) hx hb dL_slab_10 (by decide) ?_
    refine lv_iconst (v := Int32.ofInt 0) hx hb dL_slab_21 rfl ?_
    exact s_lcret hx hb hr hlocks (Nat.le_refl _) (by rw [hsN_self]; exact hM) hS (Nat.le_of_ble_eq_true rfl) (Nat.le_of_ble_eq_true rfl) dL_slab_22
def kL_magazine (code : Nat) : Int := if code = 0 then 0 else if code = 1 then 1 else 2
abbrev w_L_magazine : List Cond := Cond.codeWith yL_magazine cL_magazine 6 (some .int) [(0, 12, 15, 19), (0, 12, 19, 13)] :: BW
abbrev rm_L_magazine : Room := { frames := 8, cells := 3, slots := 18, locals := 127 }
set_option maxHeartbeats 4000000 in
set_option maxRecDepth 100000 in
theorem c_L_magazine (l : Launch) (D : va_G) (G : Nat → ClassId) (base : Nat) (h h1 h2 : Hp) (x0 x1 x2 x3 x4 : Int) (code : Nat) (rv : Int) (u : Unit) (i_x1 : inr x1) (i_x2 : inr x2) (i_x3 : inr x3) (gu : ckd h 5 x0 = some u) (g : f_X5_magazine h x0 x1 x2 x3 = some (code, rv, h1)) (hcd : code = 0 ∨ code = 1 ∨ code = 2) (g0 : code = 0 → ast h1 10 x4 0 rv = some h2) (g1 : code ≠ 0 → h2 = h1) : vx_Met l yL_magazine w_L_magazine rm_L_magazine (PC l D G base h [vr x0, vi x1, vi x2, vi x3, vr x4]) (QL D G base (kL_magazine code) h2) XF rm_L_magazine.cells rm_L_magazine.slots (Ab base) := by
  refine vx_ofWH (cc := cL_magazine) (maxL := 6) (ret := (some .int)) (hh := [(0, 12, 15, 19), (0, 12, 19, 13)]) (by decide) rfl ?_
  intro p e s m args below meth c s₁ B hml hv
  obtain ⟨hargs, hE, hM⟩ := hv
  have hx := B.exec
  have hb := B.bytes
  have hr := B.returns
  have hts0 := atoms_spec (ws := w_L_magazine) B.pre
  have htab : c.exceptionTable.toList = tableOf [(0, 12, 15, 19), (0, 12, 19, 13)] := vx_table (x := yL_magazine) B (hts0 _ List.mem_cons_self)
  have hts : ∀ w ∈ BW, w.before args s = true := fun w hw => hts0 w (List.mem_cons_of_mem _ hw)
  have hown : s.vm.findClass RL = some m.cls := findClass_of_methodNamed B.named
  have hlocks := B.notSynchronized
  refine s_entry hargs hM (c_r (c_i (c_i (c_i (c_r c_0))))) (Nat.le_of_ble_eq_true rfl) (fun H locs ls hM hS hl => ?_)
  replace hl : lvh ls 6 [(0, vr x0), (1, vi x1), (2, vi x2), (3, vi x3), (4, vr x4)] := hl
  refine s_aload hx hb dL_magazine_0 (la hl 4 rfl) ?_
  refine lv_iconst (v := Int32.ofInt 0) hx hb dL_magazine_2 rfl ?_
  refine s_aload_n hx hb dL_magazine_3 rfl (la hl 0 rfl) ?_
  refine lv_iload_n hx hb dL_magazine_4 rfl (la hl 1 rfl) ?_
  refine lv_iload_n hx hb dL_magazine_5 rfl (la hl 2 rfl) ?_
  refine lv_iload_n hx hb dL_magazine_6 rfl (la hl 3 rfl) ?_
  refine s_callVX (n := 3) (rest := [vi 0, vr x4]) [vi x1, vi x2, vi x3] hx hb hml hown hts hE hM hS (c_X5_magazine l D G base h h1 x0 x1 x2 x3 code rv i_x1 i_x2 i_x3 g) kw_650 kw_647 kw_37 kw_648 kw_649 (by decide +kernel) ⟨Nat.le_of_ble_eq_true rfl, Nat.le_of_ble_eq_true rfl⟩ rfl rfl (by decide) gu rfl hl.1.1 rfl (c8 (c_i (c_r c_0)) (Nat.le_of_ble_eq_true rfl)) dL_magazine_7 ⟨Nat.le_of_ble_eq_true rfl, Nat.le_of_ble_eq_true rfl⟩ (fun cd ce q9 H locs k9 hk9 hM hS hce hcv hcl => ?_) (fun cd H locs i_rv hM hS => ?_)
  · have hh := g1 cd
    subst hh
    rcases hcd with hcd | hcd | hcd
    · exact absurd hcd cd
    · subst hcd
      refine vx_catch (name := exE) (E := exE) hown [] ⟨0, 12, 15, 19⟩ [⟨0, 12, 19, 13⟩] htab (fun z hz => nomatch hz) (by decide) (by decide) (hts _ kw_356) (va_Nw.use rfl hE.2.2.2.2.2.2.1.1) hce hcv hcl ?_
      refine W.eq (g2 := F0 m 15 ls [vr (q9 : Int)]) (by rw [vr_nat]) ?_
      refine t_astore (lv' := [(5, vr (q9 : Int)), (0, vr x0), (1, vi x1), (2, vi x2), (3, vi x3), (4, vr x4)]) hx hb dL_magazine_15 hl (by decide) rfl (fun ls hl => ?_)
      refine lv_iconst (v := Int32.ofInt 1) hx hb dL_magazine_17 rfl ?_
      exact s_lcret hx hb hr hlocks hk9 hM hS (Nat.le_of_ble_eq_true rfl) (Nat.le_of_ble_eq_true rfl) dL_magazine_18
    · subst hcd
      refine vx_catch (name := exA) (E := exA) hown [⟨0, 12, 15, 19⟩] ⟨0, 12, 19, 13⟩ [] htab (fun z hz => by
      rcases List.mem_cons.mp hz with rfl | hz
      · exact Or.inr ⟨by decide, exE, hts _ kw_356, hE.2.2.2.2.2.2.2.1.1⟩
      · cases hz) (by decide) (by decide) (hts _ kw_173) (va_Nw.use rfl hE.2.2.2.2.2.2.1.2.1) hce hcv hcl ?_
      refine W.eq (g2 := F0 m 19 ls [vr (q9 : Int)]) (by rw [vr_nat]) ?_
      refine t_astore (lv' := [(5, vr (q9 : Int)), (0, vr x0), (1, vi x1), (2, vi x2), (3, vi x3), (4, vr x4)]) hx hb dL_magazine_19 hl (by decide) rfl (fun ls hl => ?_)
      refine lv_iconst (v := Int32.ofInt 2) hx hb dL_magazine_21 rfl ?_
      exact s_lcret hx hb hr hlocks hk9 hM hS (Nat.le_of_ble_eq_true rfl) (Nat.le_of_ble_eq_true rfl) dL_magazine_22
  · subst cd
    refine W.eq (g2 := F0 m 10 ls [vi rv, vi 0, vr x4]) rfl ?_
    refine s_i2l hx hb i_rv dL_magazine_10 ?_
    refine s_last hx hb hE.1 hM hS (by decide) i_rv (g0 rfl) dL_magazine_11 (fun H locs hM hS => ?_)
    refine lv_goto (tgt := 23) hx hb dL_magazine_12 (by decide) ?_
    refine lv_iconst (v := Int32.ofInt 0) hx hb dL_magazine_23 rfl ?_
    exact s_lcret hx hb hr hlocks (Nat.le_refl _) (by rw [hsN_self]; exact hM) hS (Nat.le_of_ble_eq_true rfl) (Nat.le_of_ble_eq_true rfl) dL_magazine_24
def kL_block (code : Nat) : Int := if code = 0 then 0 else 1
abbrev w_L_block : List Cond := Cond.codeWith yL_block cL_block 5 (some .int) [(0, 10, 13, 13)] :: BW
abbrev rm_L_block : Room := { frames := 7, cells := 1, slots := 6, locals := 104 }
set_option maxHeartbeats 4000000 in
set_option maxRecDepth 100000 in
theorem c_L_block (l : Launch) (D : va_G) (G : Nat → ClassId) (base : Nat) (h h1 h2 : Hp) (x0 x1 x2 x3 : Int) (code : Nat) (rv : Int) (u : Unit) (i_x1 : inr x1) (i_x2 : inr x2) (gu : ckd h 5 x0 = some u) (g : f_X5_block h x0 x1 x2 = some (code, rv, h1)) (hcd : code = 0 ∨ code = 2) (g0 : code = 0 → ast h1 10 x3 0 rv = some h2) (g1 : code ≠ 0 → h2 = h1) : vx_Met l yL_block w_L_block rm_L_block (PC l D G base h [vr x0, vi x1, vi x2, vr x3]) (QL D G base (kL_block code) h2) XF rm_L_block.cells rm_L_block.slots (Ab base) := by
  refine vx_ofWH (cc := cL_block) (maxL := 5) (ret := (some .int)) (hh := [(0, 10, 13, 13)]) (by decide) rfl ?_
  intro p e s m args below meth c s₁ B hml hv
  obtain ⟨hargs, hE, hM⟩ := hv
  have hx := B.exec
  have hb := B.bytes
  have hr := B.returns
  have hts0 := atoms_spec (ws := w_L_block) B.pre
  have htab : c.exceptionTable.toList = tableOf [(0, 10, 13, 13)] := vx_table (x := yL_block) B (hts0 _ List.mem_cons_self)
  have hts : ∀ w ∈ BW, w.before args s = true := fun w hw => hts0 w (List.mem_cons_of_mem _ hw)
  have hown : s.vm.findClass RL = some m.cls := findClass_of_methodNamed B.named
  have hlocks := B.notSynchronized
  refine s_entry hargs hM (c_r (c_i (c_i (c_r c_0)))) (Nat.le_of_ble_eq_true rfl) (fun H locs ls hM hS hl => ?_)
  replace hl : lvh ls 5 [(0, vr x0), (1, vi x1), (2, vi x2), (3, vr x3)] := hl
  refine s_aload_n hx hb dL_block_0 rfl (la hl 3 rfl) ?_
  refine lv_iconst (v := Int32.ofInt 0) hx hb dL_block_1 rfl ?_
  refine s_aload_n hx hb dL_block_2 rfl (la hl 0 rfl) ?_
  refine lv_iload_n hx hb dL_block_3 rfl (la hl 1 rfl) ?_
  refine lv_iload_n hx hb dL_block_4 rfl (la hl 2 rfl) ?_
  refine s_callVX (n := 2) (rest := [vi 0, vr x3]) [vi x1, vi x2] hx hb hml hown hts hE hM hS (c_X5_block l D G base h h1 x0 x1 x2 code rv i_x1 i_x2 g) kw_658 kw_655 kw_37 kw_656 kw_657 (by decide +kernel) ⟨Nat.le_of_ble_eq_true rfl, Nat.le_of_ble_eq_true rfl⟩ rfl rfl (by decide) gu rfl hl.1.1 rfl (c8 (c_i (c_r c_0)) (Nat.le_of_ble_eq_true rfl)) dL_block_5 ⟨Nat.le_of_ble_eq_true rfl, Nat.le_of_ble_eq_true rfl⟩ (fun cd ce q9 H locs k9 hk9 hM hS hce hcv hcl => ?_) (fun cd H locs i_rv hM hS => ?_)
  · have hh := g1 cd
    subst hh
    rcases hcd with hcd | hcd
    · exact absurd hcd cd
    · subst hcd
      refine vx_catch (name := exA) (E := exA) hown [] ⟨0, 10, 13, 13⟩ [] htab (fun z hz => nomatch hz) (by decide) (by decide) (hts _ kw_173) (va_Nw.use rfl hE.2.2.2.2.2.2.1.2.1) hce hcv hcl ?_
      refine W.eq (g2 := F0 m 13 ls [vr (q9 : Int)]) (by rw [vr_nat]) ?_
      refine t_astore (lv' := [(4, vr (q9 : Int)), (0, vr x0), (1, vi x1), (2, vi x2), (3, vr x3)]) hx hb dL_block_13 hl (by decide) rfl (fun ls hl => ?_)
      refine lv_iconst (v := Int32.ofInt 1) hx hb dL_block_15 rfl ?_
      exact s_lcret hx hb hr hlocks hk9 hM hS (Nat.le_of_ble_eq_true rfl) (Nat.le_of_ble_eq_true rfl) dL_block_16
  · subst cd
    refine W.eq (g2 := F0 m 8 ls [vi rv, vi 0, vr x3]) rfl ?_
    refine s_i2l hx hb i_rv dL_block_8 ?_
    refine s_last hx hb hE.1 hM hS (by decide) i_rv (g0 rfl) dL_block_9 (fun H locs hM hS => ?_)
    refine lv_goto (tgt := 17) hx hb dL_block_10 (by decide) ?_
    refine lv_iconst (v := Int32.ofInt 0) hx hb dL_block_17 rfl ?_
    exact s_lcret hx hb hr hlocks (Nat.le_refl _) (by rw [hsN_self]; exact hM) hS (Nat.le_of_ble_eq_true rfl) (Nat.le_of_ble_eq_true rfl) dL_block_18
