def f_X6_allocate_j200 (h : Hp) (x0 x1 x4 : Int) : Option (Int × Hp) :=
  if 0 ≤ x4 then (
    Option.bind (gtf h 6 18 x0) fun v38 =>
    Option.bind (ast h 8 v38 x4 2) fun h39 =>
    some (wr (8 * x4), h39)
  ) else (
    Option.bind (gtf h 6 13 x0) fun v40 =>
    Option.bind (ald h 8 v40 x1) fun v41 =>
    Option.bind (ast h 8 v40 x1 (wr (v41 + 1))) fun h42 =>
    some ((-1), h42)
  )
def f_X6_allocate_j151 (h : Hp) (x0 x1 x3 : Int) : Option (Int × Hp) :=
  Option.bind (gtf h 6 23 x0) fun v19 =>
  Option.bind (ald h 8 v19 x3) fun v20 =>
  if v20 ≤ 0 then (
    Option.bind (ckd h 6 x0) fun u22 =>
    Option.bind (f_X6_fromSlabs h x0 x1) fun r21 =>
    f_X6_allocate_j200 r21.2 x0 x1 r21.1
  ) else (
    Option.bind (gtf h 6 23 x0) fun v23 =>
    Option.bind (ald h 8 v23 x3) fun v24 =>
    Option.bind (ast h 8 v23 x3 (wr (v24 - 1))) fun h25 =>
    Option.bind (gtf h25 6 24 x0) fun v26 =>
    Option.bind (gtf h25 6 23 x0) fun v27 =>
    Option.bind (ald h25 8 v27 x3) fun v28 =>
    Option.bind (ald h25 8 v26 (wr ((wr (4 * x3)) + v28))) fun v29 =>
    f_X6_allocate_j200 h25 x0 x1 v29
  )
def f_X6_allocate_s100 (k100 : Hp → Int → Int → Int → Int → Option (Int × Hp)) (h : Hp) (x0 x1 x3 x4 : Int) : Option (Int × Hp) :=
  if 4 ≤ x4 then (
    Option.bind (gtf h 6 23 x0) fun v30 =>
    Option.bind (ast h 8 v30 x3 4) fun h31 =>
    f_X6_allocate_j151 h31 x0 x1 x3
  ) else (
    Option.bind (gtf h 6 24 x0) fun v32 =>
    Option.bind (gtf h 6 26 x0) fun v33 =>
    Option.bind (gtf h 6 25 x0) fun v34 =>
    Option.bind (ald h 8 v34 x1) fun v35 =>
    Option.bind (ald h 8 v33 (wr ((wr ((wr (12 * x1)) + (wr (4 * v35)))) + x4))) fun v36 =>
    Option.bind (ast h 8 v32 (wr ((wr (4 * x3)) + x4)) v36) fun h37 =>
    k100 h37 x0 x1 x3 (wr (x4 + 1))
  )
def f_X6_allocate_b100 : Nat → Hp → Int → Int → Int → Int → Option (Int × Hp)
  | 0, _, _, _, _, _ => none
  | n + 1, h, x0, x1, x3, x4 => f_X6_allocate_s100 (f_X6_allocate_b100 n) h x0 x1 x3 x4
def f_X6_allocate_j69 (h : Hp) (x0 x1 x3 : Int) : Option (Int × Hp) :=
  Option.bind (gtf h 6 23 x0) fun v12 =>
  Option.bind (ald h 8 v12 x3) fun v13 =>
  if v13 ≠ 0 then (
    f_X6_allocate_j151 h x0 x1 x3
  ) else (
    Option.bind (gtf h 6 25 x0) fun v14 =>
    Option.bind (ald h 8 v14 x1) fun v15 =>
    if v15 ≤ 0 then (
      f_X6_allocate_j151 h x0 x1 x3
    ) else (
      Option.bind (gtf h 6 25 x0) fun v16 =>
      Option.bind (ald h 8 v16 x1) fun v17 =>
      Option.bind (ast h 8 v16 x1 (wr (v17 - 1))) fun h18 =>
      f_X6_allocate_b100 fuel h18 x0 x1 x3 0
    )
  )
def f_X6_allocate_j27 (h : Hp) (x0 x1 x2 s0 s1 : Int) : Option (Int × Hp) :=
  Option.bind (ckd h 6 s0) fun u5 =>
  Option.bind (f_X6_refused h s0 s1) fun r4 =>
  if r4.1 = 0 then (
    Option.bind (gtf r4.2 6 23 x0) fun v6 =>
    Option.bind (ald r4.2 8 v6 (wr (2 * (wr ((wr (8 * x2)) + x1))))) fun v7 =>
    if v7 ≠ 0 then (
      f_X6_allocate_j69 r4.2 x0 x1 (wr (2 * (wr ((wr (8 * x2)) + x1))))
    ) else (
      Option.bind (gtf r4.2 6 23 x0) fun v8 =>
      Option.bind (ald r4.2 8 v8 (wr ((wr (2 * (wr ((wr (8 * x2)) + x1)))) + 1))) fun v9 =>
      if v9 ≤ 0 then (
        f_X6_allocate_j69 r4.2 x0 x1 (wr (2 * (wr ((wr (8 * x2)) + x1))))
      ) else (
        Option.bind (ckd r4.2 6 x0) fun u11 =>
        Option.bind (f_X6_swap r4.2 x0 (wr (2 * (wr ((wr (8 * x2)) + x1))))) fun r10 =>
        f_X6_allocate_j69 r10.2 x0 x1 (wr (2 * (wr ((wr (8 * x2)) + x1))))
      )
    )
  ) else (
    some (0, r4.2)
  )
def f_X6_allocate (h : Hp) (x0 x1 x2 : Int) : Option (Int × Hp) :=
  Option.bind (ckd h 6 x0) fun u2 =>
  Option.bind (f_X6_isCache h x0 x1) fun r1 =>
  if r1.1 ≠ 0 then (
    Option.bind (f_X6_isIn r1.2 x2 0 3) fun r3 =>
    if r3.1 ≠ 0 then (
      f_X6_allocate_j27 r3.2 x0 x1 x2 x0 0
    ) else (
      f_X6_allocate_j27 r3.2 x0 x1 x2 x0 2
    )
  ) else (
    f_X6_allocate_j27 r1.2 x0 x1 x2 x0 1
  )
abbrev w_X6_allocate : List Cond := Cond.code yX6_allocate cX6_allocate 5 (some .int) :: BW
abbrev rm_X6_allocate : Room := { frames := 5, cells := 0, slots := 0, locals := 119 }
set_option maxHeartbeats 4000000 in
set_option maxRecDepth 100000 in
theorem c_X6_allocate (l : Launch) (D : va_G) (G : Nat → ClassId) (base : Nat) (h h' : Hp) (x0 x1 x2 : Int) (rv : Int) (i_x1 : inr x1) (i_x2 : inr x2) (hrun : f_X6_allocate h x0 x1 x2 = some (rv, h')) : Met l yX6_allocate w_X6_allocate rm_X6_allocate (PC l D G base h [vr x0, vi x1, vi x2]) (QR D G base (some (vi rv)) (inr rv) h') rm_X6_allocate.cells rm_X6_allocate.slots (Ab base) := by
  refine Met.ofW (cc := cX6_allocate) (maxL := 5) (ret := (some .int)) (by decide) rfl ?_
  intro p e s m args below meth c s₁ B hml hv
  obtain ⟨hargs, hE, hM⟩ := hv
  have hx := B.exec
  have hb := B.bytes
  have hr := B.returns
  have hts0 := atoms_spec (ws := w_X6_allocate) B.pre
  have hts : ∀ w ∈ BW, w.before args s = true := fun w hw => hts0 w (List.mem_cons_of_mem _ hw)
  have hown : s.vm.findClass RX6 = some m.cls := findClass_of_methodNamed B.named
  have hlocks := B.notSynchronized
  have j200 : ∀ (h : Hp) (x0 x1 x4 : Int) (H : Heap) (locs : List Loc) (ls : Array Slot), inr x1 → inr x4 → SM D G base h H → va_S (Ab base) s.heap H locs → lvh ls 5 [(0, vr x0), (1, vi x1), (4, vi x4)] → f_X6_allocate_j200 h x0 x1 x4 = some (rv, h') → W p l e (headSpec w_X6_allocate rm_X6_allocate).room s m args below meth c H locs 0 0 (QI D G base rv h' below args s 0 0) (F0 m 200 ls []) := by
    intro h x0 x1 x4 H locs ls i_x1 i_x4 hM hS hl hrun
    unfold f_X6_allocate_j200 at hrun
    refine lv_iload hx hb dX6_allocate_200 (la hl 2 rfl) ?_
    refine s_if_ge (tgt := 217) hx hb dX6_allocate_202 (by decide) i_x4 (fun cd => ?_) (fun cd => ?_)
    · replace hrun := it_pos cd hrun
      refine s_aload_n hx hb dX6_allocate_217 rfl (la hl 0 rfl) ?_
      obtain ⟨v38, g38, hrun⟩ := bd hrun
      refine s_getfr hx hb hts kl_6 hown hE.1 hM (ci := 6) rfl (by decide) rfl (k := 18) (by decide) rfl (hts _ kw_686) g38 dX6_allocate_218 ?_
      refine lv_iload hx hb dX6_allocate_221 (la hl 2 rfl) ?_
      refine lv_iconst (v := Int32.ofInt 2) hx hb dX6_allocate_223 rfl ?_
      obtain ⟨h39, g39, hrun⟩ := bd hrun
      refine s_iast hx hb hE.1 hM hS i_x4 (by decide) g39 dX6_allocate_224 (fun H locs hM hS => ?_)
      refine lv_bipush (v := Int32.ofInt 8) hx hb dX6_allocate_225 (by decide) ?_
      refine lv_iload hx hb dX6_allocate_227 (la hl 2 rfl) ?_
      refine s_imul hx hb dX6_allocate_229 ?_
      exact s_iret hx hb hr hlocks hM hS (inr_wr _) hrun (Nat.le_of_ble_eq_true rfl) (Nat.le_of_ble_eq_true rfl) dX6_allocate_230
    · replace hrun := it_neg cd hrun
      refine s_aload_n hx hb dX6_allocate_205 rfl (la hl 0 rfl) ?_
      obtain ⟨v40, g40, hrun⟩ := bd hrun
      refine s_getfr hx hb hts kl_6 hown hE.1 hM (ci := 6) rfl (by decide) rfl (k := 13) (by decide) rfl (hts _ kw_681) g40 dX6_allocate_206 ?_
      refine lv_iload_n hx hb dX6_allocate_209 rfl (la hl 1 rfl) ?_
      refine lv_dup2_11 hx hb dX6_allocate_210 rfl (vr_cat _) ?_
      obtain ⟨v41, g41, hrun⟩ := bd hrun
      refine s_iald hx hb hE.1 hM i_x1 g41 dX6_allocate_211 ?_
      have i_v41 : inr v41 := ald_i hM g41 (by decide) (by decide)
      refine lv_iconst (v := Int32.ofInt 1) hx hb dX6_allocate_212 rfl ?_
      refine s_iadd hx hb dX6_allocate_213 ?_
      obtain ⟨h42, g42, hrun⟩ := bd hrun
      refine s_iast hx hb hE.1 hM hS i_x1 (inr_wr _) g42 dX6_allocate_214 (fun H locs hM hS => ?_)
      refine lv_iconst (v := Int32.ofInt (-1)) hx hb dX6_allocate_215 rfl ?_
      exact s_iret hx hb hr hlocks hM hS (by decide) hrun (Nat.le_of_ble_eq_true rfl) (Nat.le_of_ble_eq_true rfl) dX6_allocate_216
  have j151 : ∀ (h : Hp) (x0 x1 x3 : Int) (H : Heap) (locs : List Loc) (ls : Array Slot), inr x1 → inr x3 → SM D G base h H → va_S (Ab base) s.heap H locs → lvh ls 5 [(0, vr x0), (1, vi x1), (3, vi x3)] → f_X6_allocate_j151 h x0 x1 x3 = some (rv, h') → W p l e (headSpec w_X6_allocate rm_X6_allocate).room s m args below meth c H locs 0 0 (QI D G base rv h' below args s 0 0) (F0 m 151 ls []) := by
    intro h x0 x1 x3 H locs ls i_x1 i_x3 hM hS hl hrun
    unfold f_X6_allocate_j151 at hrun
    refine lv_iconst (v := Int32.ofInt (-1)) hx hb dX6_allocate_151 rfl ?_
    refine t_istore (lv' := [(4, vi (-1)), (0, vr x0), (1, vi x1), (3, vi x3)]) hx hb dX6_allocate_152 hl (by decide) rfl (fun ls hl => ?_)
    refine s_aload_n hx hb dX6_allocate_154 rfl (la hl 1 rfl) ?_
    obtain ⟨v19, g19, hrun⟩ := bd hrun
    refine s_getfr hx hb hts kl_6 hown hE.1 hM (ci := 6) rfl (by decide) rfl (k := 23) (by decide) rfl (hts _ kw_691) g19 dX6_allocate_155 ?_
    refine lv_iload_n hx hb dX6_allocate_158 rfl (la hl 3 rfl) ?_
    obtain ⟨v20, g20, hrun⟩ := bd hrun
    refine s_iald hx hb hE.1 hM i_x3 g20 dX6_allocate_159 ?_
    have i_v20 : inr v20 := ald_i hM g20 (by decide) (by decide)
    refine s_if_le (tgt := 193) hx hb dX6_allocate_160 (by decide) i_v20 (fun cd => ?_) (fun cd => ?_)
    · replace hrun := it_pos cd hrun
      refine s_aload_n hx hb dX6_allocate_193 rfl (la hl 1 rfl) ?_
      refine lv_iload_n hx hb dX6_allocate_194 rfl (la hl 2 rfl) ?_
      obtain ⟨u22, g22, hrun⟩ := bd hrun
      obtain ⟨r21, g21, hrun⟩ := bd hrun
      refine s_callV (n := 1) (rest := []) [vi x1] hx hb hml hown hts hE hM hS (c_X6_fromSlabs l D G base h r21.2 x0 x1 r21.1 i_x1 g21) kw_829 kw_826 kw_40 kw_828 kw_29 (by decide +kernel) ⟨Nat.le_of_ble_eq_true rfl, Nat.le_of_ble_eq_true rfl⟩ rfl rfl (by decide) g22 rfl hl.1.1 rfl (c8 c_0 (Nat.le_of_ble_eq_true rfl)) dX6_allocate_195 ⟨Nat.le_of_ble_eq_true rfl, Nat.le_of_ble_eq_true rfl⟩ (fun H locs i_r21 hM hS => ?_)
      refine W.eq (g2 := F0 m 198 ls [vi r21.1]) rfl ?_
      refine t_istore (lv' := [(4, vi r21.1), (0, vr x0), (1, vi x1), (3, vi x3)]) hx hb dX6_allocate_198 hl (by decide) rfl (fun ls hl => ?_)
      exact j200 r21.2 x0 x1 r21.1 H locs ls i_x1 i_r21 hM hS (lsub hl [1, 2, 0] rfl) hrun
    · replace hrun := it_neg cd hrun
      refine s_aload_n hx hb dX6_allocate_163 rfl (la hl 1 rfl) ?_
      obtain ⟨v23, g23, hrun⟩ := bd hrun
      refine s_getfr hx hb hts kl_6 hown hE.1 hM (ci := 6) rfl (by decide) rfl (k := 23) (by decide) rfl (hts _ kw_691) g23 dX6_allocate_164 ?_
      refine lv_iload_n hx hb dX6_allocate_167 rfl (la hl 3 rfl) ?_
      refine lv_dup2_11 hx hb dX6_allocate_168 rfl (vr_cat _) ?_
      obtain ⟨v24, g24, hrun⟩ := bd hrun
      refine s_iald hx hb hE.1 hM i_x3 g24 dX6_allocate_169 ?_
      have i_v24 : inr v24 := ald_i hM g24 (by decide) (by decide)
      refine lv_iconst (v := Int32.ofInt 1) hx hb dX6_allocate_170 rfl ?_
      refine s_isub hx hb dX6_allocate_171 ?_
      obtain ⟨h25, g25, hrun⟩ := bd hrun
      refine s_iast hx hb hE.1 hM hS i_x3 (inr_wr _) g25 dX6_allocate_172 (fun H locs hM hS => ?_)
      refine s_aload_n hx hb dX6_allocate_173 rfl (la hl 1 rfl) ?_
      obtain ⟨v26, g26, hrun⟩ := bd hrun
      refine s_getfr hx hb hts kl_6 hown hE.1 hM (ci := 6) rfl (by decide) rfl (k := 24) (by decide) rfl (hts _ kw_692) g26 dX6_allocate_174 ?_
      refine lv_iconst (v := Int32.ofInt 4) hx hb dX6_allocate_177 rfl ?_
      refine lv_iload_n hx hb dX6_allocate_178 rfl (la hl 3 rfl) ?_
      refine s_imul hx hb dX6_allocate_179 ?_
      refine s_aload_n hx hb dX6_allocate_180 rfl (la hl 1 rfl) ?_
      obtain ⟨v27, g27, hrun⟩ := bd hrun
      refine s_getfr hx hb hts kl_6 hown hE.1 hM (ci := 6) rfl (by decide) rfl (k := 23) (by decide) rfl (hts _ kw_691) g27 dX6_allocate_181 ?_
      refine lv_iload_n hx hb dX6_allocate_184 rfl (la hl 3 rfl) ?_
      obtain ⟨v28, g28, hrun⟩ := bd hrun
      refine s_iald hx hb hE.1 hM i_x3 g28 dX6_allocate_185 ?_
      have i_v28 : inr v28 := ald_i hM g28 (by decide) (by decide)
      refine s_iadd hx hb dX6_allocate_186 ?_
      obtain ⟨v29, g29, hrun⟩ := bd hrun
      refine s_iald hx hb hE.1 hM (inr_wr _) g29 dX6_allocate_187 ?_
      have i_v29 : inr v29 := ald_i hM g29 (by decide) (by decide)
      refine t_istore (lv' := [(4, vi v29), (0, vr x0), (1, vi x1), (3, vi x3)]) hx hb dX6_allocate_188 hl (by decide) rfl (fun ls hl => ?_)
      refine lv_goto (tgt := 200) hx hb dX6_allocate_190 (by decide) ?_
      exact j200 h25 x0 x1 v29 H locs ls i_x1 i_v29 hM hS (lsub hl [1, 2, 0] rfl) hrun
  have lp100 : ∀ (n100 : Nat) (h : Hp) (x0 x1 x3 x4 : Int) (H : Heap) (locs : List Loc) (ls : Array Slot), inr x1 → inr x3 → inr x4 → SM D G base h H → va_S (Ab base) s.heap H locs → lvh ls 5 [(0, vr x0), (1, vi x1), (3, vi x3), (4, vi x4)] → f_X6_allocate_b100 n100 h x0 x1 x3 x4 = some (rv, h') → W p l e (headSpec w_X6_allocate rm_X6_allocate).room s m args below meth c H locs 0 0 (QI D G base rv h' below args s 0 0) (F0 m 100 ls []) := by
    intro n100
    induction n100 with
    | zero => intro h x0 x1 x3 x4 H locs ls i_x1 i_x3 i_x4 hM hS hl hrun; exact absurd hrun (fun q => nomatch (show (none : Option (Int × Hp)) = some (rv, h') from q))
    | succ n100 ih100 =>
      intro h x0 x1 x3 x4 H locs ls i_x1 i_x3 i_x4 hM hS hl hrun
      replace hrun : f_X6_allocate_s100 (f_X6_allocate_b100 n100) h x0 x1 x3 x4 = some (rv, h') := hrun
      unfold f_X6_allocate_s100 at hrun
      refine lv_iload hx hb dX6_allocate_100 (la hl 3 rfl) ?_
      refine lv_iconst (v := Int32.ofInt 4) hx hb dX6_allocate_102 rfl ?_
      refine s_icmp_ge (tgt := 144) hx hb dX6_allocate_103 (by decide) i_x4 (by decide) (fun cd => ?_) (fun cd => ?_)
      · replace hrun := it_pos cd hrun
        refine s_aload_n hx hb dX6_allocate_144 rfl (la hl 0 rfl) ?_
        obtain ⟨v30, g30, hrun⟩ := bd hrun
        refine s_getfr hx hb hts kl_6 hown hE.1 hM (ci := 6) rfl (by decide) rfl (k := 23) (by decide) rfl (hts _ kw_691) g30 dX6_allocate_145 ?_
        refine lv_iload_n hx hb dX6_allocate_148 rfl (la hl 2 rfl) ?_
        refine lv_iconst (v := Int32.ofInt 4) hx hb dX6_allocate_149 rfl ?_
        obtain ⟨h31, g31, hrun⟩ := bd hrun
        refine s_iast hx hb hE.1 hM hS i_x3 (by decide) g31 dX6_allocate_150 (fun H locs hM hS => ?_)
        exact j151 h31 x0 x1 x3 H locs ls i_x1 i_x3 hM hS (lsub hl [0, 1, 2] rfl) hrun
      · replace hrun := it_neg cd hrun
        refine s_aload_n hx hb dX6_allocate_106 rfl (la hl 0 rfl) ?_
        obtain ⟨v32, g32, hrun⟩ := bd hrun
        refine s_getfr hx hb hts kl_6 hown hE.1 hM (ci := 6) rfl (by decide) rfl (k := 24) (by decide) rfl (hts _ kw_692) g32 dX6_allocate_107 ?_
        refine lv_iconst (v := Int32.ofInt 4) hx hb dX6_allocate_110 rfl ?_
        refine lv_iload_n hx hb dX6_allocate_111 rfl (la hl 2 rfl) ?_
        refine s_imul hx hb dX6_allocate_112 ?_
        refine lv_iload hx hb dX6_allocate_113 (la hl 3 rfl) ?_
        refine s_iadd hx hb dX6_allocate_115 ?_
        refine s_aload_n hx hb dX6_allocate_116 rfl (la hl 0 rfl) ?_
        obtain ⟨v33, g33, hrun⟩ := bd hrun
        refine s_getfr hx hb hts kl_6 hown hE.1 hM (ci := 6) rfl (by decide) rfl (k := 26) (by decide) rfl (hts _ kw_694) g33 dX6_allocate_117 ?_
        refine lv_bipush (v := Int32.ofInt 12) hx hb dX6_allocate_120 (by decide) ?_
        refine lv_iload_n hx hb dX6_allocate_122 rfl (la hl 1 rfl) ?_
        refine s_imul hx hb dX6_allocate_123 ?_
        refine lv_iconst (v := Int32.ofInt 4) hx hb dX6_allocate_124 rfl ?_
        refine s_aload_n hx hb dX6_allocate_125 rfl (la hl 0 rfl) ?_
        obtain ⟨v34, g34, hrun⟩ := bd hrun
        refine s_getfr hx hb hts kl_6 hown hE.1 hM (ci := 6) rfl (by decide) rfl (k := 25) (by decide) rfl (hts _ kw_693) g34 dX6_allocate_126 ?_
        refine lv_iload_n hx hb dX6_allocate_129 rfl (la hl 1 rfl) ?_
        obtain ⟨v35, g35, hrun⟩ := bd hrun
        refine s_iald hx hb hE.1 hM i_x1 g35 dX6_allocate_130 ?_
        have i_v35 : inr v35 := ald_i hM g35 (by decide) (by decide)
        refine s_imul hx hb dX6_allocate_131 ?_
        refine s_iadd hx hb dX6_allocate_132 ?_
        refine lv_iload hx hb dX6_allocate_133 (la hl 3 rfl) ?_
        refine s_iadd hx hb dX6_allocate_135 ?_
        obtain ⟨v36, g36, hrun⟩ := bd hrun
        refine s_iald hx hb hE.1 hM (inr_wr _) g36 dX6_allocate_136 ?_
        have i_v36 : inr v36 := ald_i hM g36 (by decide) (by decide)
        obtain ⟨h37, g37, hrun⟩ := bd hrun
        refine s_iast hx hb hE.1 hM hS (inr_wr _) i_v36 g37 dX6_allocate_137 (fun H locs hM hS => ?_)
        refine t_iinc (lv' := [(4, vi (wr (x4 + 1))), (0, vr x0), (1, vi x1), (3, vi x3)]) hx hb dX6_allocate_138 hl (k := 3) rfl (by decide) rfl rfl (fun ls hl => ?_)
        refine lv_goto (tgt := 100) hx hb dX6_allocate_141 (by decide) ?_
        exact ih100 h37 x0 x1 x3 (wr (x4 + 1)) H locs ls i_x1 i_x3 (inr_wr _) hM hS (lsub hl [1, 2, 3, 0] rfl) hrun
  have j69 : ∀ (h : Hp) (x0 x1 x3 : Int) (H : Heap) (locs : List Loc) (ls : Array Slot), inr x1 → inr x3 → SM D G base h H → va_S (Ab base) s.heap H locs → lvh ls 5 [(0, vr x0), (1, vi x1), (3, vi x3)] → f_X6_allocate_j69 h x0 x1 x3 = some (rv, h') → W p l e (headSpec w_X6_allocate rm_X6_allocate).room s m args below meth c H locs 0 0 (QI D G base rv h' below args s 0 0) (F0 m 69 ls []) := by
    intro h x0 x1 x3 H locs ls i_x1 i_x3 hM hS hl hrun
    unfold f_X6_allocate_j69 at hrun
    refine s_aload_n hx hb dX6_allocate_69 rfl (la hl 0 rfl) ?_
    obtain ⟨v12, g12, hrun⟩ := bd hrun
    refine s_getfr hx hb hts kl_6 hown hE.1 hM (ci := 6) rfl (by decide) rfl (k := 23) (by decide) rfl (hts _ kw_691) g12 dX6_allocate_70 ?_
    refine lv_iload_n hx hb dX6_allocate_73 rfl (la hl 2 rfl) ?_
    obtain ⟨v13, g13, hrun⟩ := bd hrun
    refine s_iald hx hb hE.1 hM i_x3 g13 dX6_allocate_74 ?_
    have i_v13 : inr v13 := ald_i hM g13 (by decide) (by decide)
    refine s_if_ne (tgt := 151) hx hb dX6_allocate_75 (by decide) i_v13 (fun cd => ?_) (fun cd => ?_)
    · replace hrun := it_pos cd hrun
      exact j151 h x0 x1 x3 H locs ls i_x1 i_x3 hM hS (lsub hl [0, 1, 2] rfl) hrun
    · replace hrun := it_neg cd hrun
      refine s_aload_n hx hb dX6_allocate_78 rfl (la hl 0 rfl) ?_
      obtain ⟨v14, g14, hrun⟩ := bd hrun
      refine s_getfr hx hb hts kl_6 hown hE.1 hM (ci := 6) rfl (by decide) rfl (k := 25) (by decide) rfl (hts _ kw_693) g14 dX6_allocate_79 ?_
      refine lv_iload_n hx hb dX6_allocate_82 rfl (la hl 1 rfl) ?_
      obtain ⟨v15, g15, hrun⟩ := bd hrun
      refine s_iald hx hb hE.1 hM i_x1 g15 dX6_allocate_83 ?_
      have i_v15 : inr v15 := ald_i hM g15 (by decide) (by decide)
      refine s_if_le (tgt := 151) hx hb dX6_allocate_84 (by decide) i_v15 (fun cd => ?_) (fun cd => ?_)
      · replace hrun := it_pos cd hrun
        exact j151 h x0 x1 x3 H locs ls i_x1 i_x3 hM hS (lsub hl [0, 1, 2] rfl) hrun
      · replace hrun := it_neg cd hrun
        refine s_aload_n hx hb dX6_allocate_87 rfl (la hl 0 rfl) ?_
        obtain ⟨v16, g16, hrun⟩ := bd hrun
        refine s_getfr hx hb hts kl_6 hown hE.1 hM (ci := 6) rfl (by decide) rfl (k := 25) (by decide) rfl (hts _ kw_693) g16 dX6_allocate_88 ?_
        refine lv_iload_n hx hb dX6_allocate_91 rfl (la hl 1 rfl) ?_
        refine lv_dup2_11 hx hb dX6_allocate_92 rfl (vr_cat _) ?_
        obtain ⟨v17, g17, hrun⟩ := bd hrun
        refine s_iald hx hb hE.1 hM i_x1 g17 dX6_allocate_93 ?_
        have i_v17 : inr v17 := ald_i hM g17 (by decide) (by decide)
        refine lv_iconst (v := Int32.ofInt 1) hx hb dX6_allocate_94 rfl ?_
        refine s_isub hx hb dX6_allocate_95 ?_
        obtain ⟨h18, g18, hrun⟩ := bd hrun
        refine s_iast hx hb hE.1 hM hS i_x1 (inr_wr _) g18 dX6_allocate_96 (fun H locs hM hS => ?_)
        refine lv_iconst (v := Int32.ofInt 0) hx hb dX6_allocate_97 rfl ?_
        refine t_istore (lv' := [(4, vi 0), (0, vr x0), (1, vi x1), (3, vi x3)]) hx hb dX6_allocate_98 hl (by decide) rfl (fun ls hl => ?_)
        exact lp100 fuel h18 x0 x1 x3 0 H locs ls i_x1 i_x3 (by decide) hM hS (lsub hl [1, 2, 3, 0] rfl) hrun
  have j27 : ∀ (h : Hp) (x0 x1 x2 s0 s1 : Int) (H : Heap) (locs : List Loc) (ls : Array Slot), inr x1 → inr x2 → inr s1 → SM D G base h H → va_S (Ab base) s.heap H locs → lvh ls 5 [(0, vr x0), (1, vi x1), (2, vi x2)] → f_X6_allocate_j27 h x0 x1 x2 s0 s1 = some (rv, h') → W p l e (headSpec w_X6_allocate rm_X6_allocate).room s m args below meth c H locs 0 0 (QI D G base rv h' below args s 0 0) (F0 m 27 ls [vi s1, vr s0]) := by
    intro h x0 x1 x2 s0 s1 H locs ls i_x1 i_x2 i_s1 hM hS hl hrun
    unfold f_X6_allocate_j27 at hrun
    obtain ⟨u5, g5, hrun⟩ := bd hrun
    obtain ⟨r4, g4, hrun⟩ := bd hrun
    refine s_callV (n := 1) (rest := []) [vi s1] hx hb hml hown hts hE hM hS (c_X6_refused l D G base h r4.2 s0 s1 r4.1 i_s1 g4) kw_765 kw_762 kw_40 kw_764 kw_15 (by decide +kernel) ⟨Nat.le_of_ble_eq_true rfl, Nat.le_of_ble_eq_true rfl⟩ rfl rfl (by decide) g5 rfl hl.1.1 rfl (c8 c_0 (Nat.le_of_ble_eq_true rfl)) dX6_allocate_27 ⟨Nat.le_of_ble_eq_true rfl, Nat.le_of_ble_eq_true rfl⟩ (fun H locs i_r4 hM hS => ?_)
    refine W.eq (g2 := F0 m 30 ls [vi r4.1]) rfl ?_
    refine s_if_eq (tgt := 35) hx hb dX6_allocate_30 (by decide) i_r4 (fun cd => ?_) (fun cd => ?_)
    · replace hrun := it_pos cd hrun
      refine lv_iconst (v := Int32.ofInt 2) hx hb dX6_allocate_35 rfl ?_
      refine lv_bipush (v := Int32.ofInt 8) hx hb dX6_allocate_36 (by decide) ?_
      refine lv_iload_n hx hb dX6_allocate_38 rfl (la hl 2 rfl) ?_
      refine s_imul hx hb dX6_allocate_39 ?_
      refine lv_iload_n hx hb dX6_allocate_40 rfl (la hl 1 rfl) ?_
      refine s_iadd hx hb dX6_allocate_41 ?_
      refine s_imul hx hb dX6_allocate_42 ?_
      refine t_istore_n (lv' := [(3, vi (wr (2 * (wr ((wr (8 * x2)) + x1))))), (0, vr x0), (1, vi x1), (2, vi x2)]) hx hb dX6_allocate_43 rfl hl (by decide) rfl (fun ls hl => ?_)
      refine s_aload_n hx hb dX6_allocate_44 rfl (la hl 1 rfl) ?_
      obtain ⟨v6, g6, hrun⟩ := bd hrun
      refine s_getfr hx hb hts kl_6 hown hE.1 hM (ci := 6) rfl (by decide) rfl (k := 23) (by decide) rfl (hts _ kw_691) g6 dX6_allocate_45 ?_
      refine lv_iload_n hx hb dX6_allocate_48 rfl (la hl 0 rfl) ?_
      obtain ⟨v7, g7, hrun⟩ := bd hrun
      refine s_iald hx hb hE.1 hM (inr_wr _) g7 dX6_allocate_49 ?_
      have i_v7 : inr v7 := ald_i hM g7 (by decide) (by decide)
      refine s_if_ne (tgt := 69) hx hb dX6_allocate_50 (by decide) i_v7 (fun cd => ?_) (fun cd => ?_)
      · replace hrun := it_pos cd hrun
        exact j69 r4.2 x0 x1 (wr (2 * (wr ((wr (8 * x2)) + x1)))) H locs ls i_x1 (inr_wr _) hM hS (lsub hl [1, 2, 0] rfl) hrun
      · replace hrun := it_neg cd hrun
        refine s_aload_n hx hb dX6_allocate_53 rfl (la hl 1 rfl) ?_
        obtain ⟨v8, g8, hrun⟩ := bd hrun
        refine s_getfr hx hb hts kl_6 hown hE.1 hM (ci := 6) rfl (by decide) rfl (k := 23) (by decide) rfl (hts _ kw_691) g8 dX6_allocate_54 ?_
        refine lv_iload_n hx hb dX6_allocate_57 rfl (la hl 0 rfl) ?_
        refine lv_iconst (v := Int32.ofInt 1) hx hb dX6_allocate_58 rfl ?_
        refine s_iadd hx hb dX6_allocate_59 ?_
        obtain ⟨v9, g9, hrun⟩ := bd hrun
        refine s_iald hx hb hE.1 hM (inr_wr _) g9 dX6_allocate_60 ?_
        have i_v9 : inr v9 := ald_i hM g9 (by decide) (by decide)
        refine s_if_le (tgt := 69) hx hb dX6_allocate_61 (by decide) i_v9 (fun cd => ?_) (fun cd => ?_)
        · replace hrun := it_pos cd hrun
          exact j69 r4.2 x0 x1 (wr (2 * (wr ((wr (8 * x2)) + x1)))) H locs ls i_x1 (inr_wr _) hM hS (lsub hl [1, 2, 0] rfl) hrun
        · replace hrun := it_neg cd hrun
          refine s_aload_n hx hb dX6_allocate_64 rfl (la hl 1 rfl) ?_
          refine lv_iload_n hx hb dX6_allocate_65 rfl (la hl 0 rfl) ?_
          obtain ⟨u11, g11, hrun⟩ := bd hrun
          obtain ⟨r10, g10, hrun⟩ := bd hrun
          refine s_callV (n := 1) (rest := []) [vi (wr (2 * (wr ((wr (8 * x2)) + x1))))] hx hb hml hown hts hE hM hS (c_X6_swap l D G base r4.2 r10.2 x0 (wr (2 * (wr ((wr (8 * x2)) + x1)))) r10.1 (inr_wr _) g10) kw_825 kw_822 kw_40 kw_824 kw_28 (by decide +kernel) ⟨Nat.le_of_ble_eq_true rfl, Nat.le_of_ble_eq_true rfl⟩ rfl rfl (by decide) g11 rfl hl.1.1 rfl (c8 c_0 (Nat.le_of_ble_eq_true rfl)) dX6_allocate_66 ⟨Nat.le_of_ble_eq_true rfl, Nat.le_of_ble_eq_true rfl⟩ (fun H locs i_r10 hM hS => ?_)
          refine W.eq (g2 := F0 m 69 ls []) rfl ?_
          exact j69 r10.2 x0 x1 (wr (2 * (wr ((wr (8 * x2)) + x1)))) H locs ls i_x1 (inr_wr _) hM hS (lsub hl [1, 2, 0] rfl) hrun
    · replace hrun := it_neg cd hrun
      refine lv_iconst (v := Int32.ofInt 0) hx hb dX6_allocate_33 rfl ?_
      exact s_iret hx hb hr hlocks hM hS (by decide) hrun (Nat.le_of_ble_eq_true rfl) (Nat.le_of_ble_eq_true rfl) dX6_allocate_34
  refine s_entry hargs hM (c_r (c_i (c_i c_0))) (Nat.le_of_ble_eq_true rfl) (fun H locs ls hM hS hl => ?_)
  replace hl : lvh ls 5 [(0, vr x0), (1, vi x1), (2, vi x2)] := hl
  unfold f_X6_allocate at hrun
  refine s_aload_n hx hb dX6_allocate_0 rfl (la hl 0 rfl) ?_
  refine s_aload_n hx hb dX6_allocate_1 rfl (la hl 0 rfl) ?_
  refine lv_iload_n hx hb dX6_allocate_2 rfl (la hl 1 rfl) ?_
  obtain ⟨u2, g2, hrun⟩ := bd hrun
  obtain ⟨r1, g1, hrun⟩ := bd hrun
  refine s_callV (n := 1) (rest := [vr x0]) [vi x1] hx hb hml hown hts hE hM hS (c_X6_isCache l D G base h r1.2 x0 x1 r1.1 i_x1 g1) kw_773 kw_770 kw_40 kw_772 kw_16 (by decide +kernel) ⟨Nat.le_of_ble_eq_true rfl, Nat.le_of_ble_eq_true rfl⟩ rfl rfl (by decide) g2 rfl hl.1.1 rfl (c8 (c_r c_0) (Nat.le_of_ble_eq_true rfl)) dX6_allocate_3 ⟨Nat.le_of_ble_eq_true rfl, Nat.le_of_ble_eq_true rfl⟩ (fun H locs i_r1 hM hS => ?_)
  refine W.eq (g2 := F0 m 6 ls [vi r1.1, vr x0]) rfl ?_
  refine s_if_ne (tgt := 13) hx hb dX6_allocate_6 (by decide) i_r1 (fun cd => ?_) (fun cd => ?_)
  · replace hrun := it_pos cd hrun
    refine lv_iload_n hx hb dX6_allocate_13 rfl (la hl 2 rfl) ?_
    refine lv_iconst (v := Int32.ofInt 0) hx hb dX6_allocate_14 rfl ?_
    refine lv_iconst (v := Int32.ofInt 3) hx hb dX6_allocate_15 rfl ?_
    obtain ⟨r3, g3, hrun⟩ := bd hrun
    refine s_callS (n := 3) (rest := [vr x0]) [vi x2, vi 0, vi 3] hx hb hml hown hts hE hM hS (c_X6_isIn l D G base r1.2 r3.2 x2 0 3 r3.1 i_x2 (by decide) (by decide) g3) kw_761 kw_759 kw_40 kw_760 (by decide +kernel) ⟨Nat.le_of_ble_eq_true rfl, Nat.le_of_ble_eq_true rfl⟩ rfl hl.1.1 rfl (c8 (c_r c_0) (Nat.le_of_ble_eq_true rfl)) dX6_allocate_16 ⟨Nat.le_of_ble_eq_true rfl, Nat.le_of_ble_eq_true rfl⟩ (fun H locs i_r3 hM hS => ?_)
    refine W.eq (g2 := F0 m 19 ls [vi r3.1, vr x0]) rfl ?_
    refine s_if_ne (tgt := 26) hx hb dX6_allocate_19 (by decide) i_r3 (fun cd => ?_) (fun cd => ?_)
    · replace hrun := it_pos cd hrun
      refine lv_iconst (v := Int32.ofInt 0) hx hb dX6_allocate_26 rfl ?_
      exact j27 r3.2 x0 x1 x2 x0 0 H locs ls i_x1 i_x2 (by decide) hM hS (lsub hl [0, 1, 2] rfl) hrun
    · replace hrun := it_neg cd hrun
      refine lv_iconst (v := Int32.ofInt 2) hx hb dX6_allocate_22 rfl ?_
      refine lv_goto (tgt := 27) hx hb dX6_allocate_23 (by decide) ?_
      exact j27 r3.2 x0 x1 x2 x0 2 H locs ls i_x1 i_x2 (by decide) hM hS (lsub hl [0, 1, 2] rfl) hrun
  · replace hrun := it_neg cd hrun
    refine lv_iconst (v := Int32.ofInt 1) hx hb dX6_allocate_9 rfl ?_
    refine lv_goto (tgt := 27) hx hb dX6_allocate_10 (by decide) ?_
    exact j27 r1.2 x0 x1 x2 x0 1 H locs ls i_x1 i_x2 (by decide) hM hS (lsub hl [0, 1, 2] rfl) hrun
def f_X6_isLive_j35 (h : Hp) (s0 : Int) : Option (Int × Hp) :=
  rtB s0 h
def f_X6_isLive_j34 (h : Hp) : Option (Int × Hp) :=
  f_X6_isLive_j35 h 0
def f_X6_isLive (h : Hp) (x0 x1 : Int) : Option (Int × Hp) :=
  Option.bind (f_X6_isIn h x1 0 262143) fun r1 =>
  if r1.1 = 0 then (
    f_X6_isLive_j34 r1.2
  ) else (
    Option.bind (irm x1 8) fun v2 =>
    if v2 ≠ 0 then (
      f_X6_isLive_j34 r1.2
    ) else (
      Option.bind (gtf r1.2 6 18 x0) fun v3 =>
      Option.bind (idv x1 8) fun v4 =>
      Option.bind (ald r1.2 8 v3 v4) fun v5 =>
      if v5 ≠ 2 then (
        f_X6_isLive_j34 r1.2
      ) else (
        f_X6_isLive_j35 r1.2 1
      )
    )
  )
abbrev w_X6_isLive : List Cond := Cond.code yX6_isLive cX6_isLive 2 (some .boolean) :: BW
abbrev rm_X6_isLive : Room := { frames := 1, cells := 0, slots := 0, locals := 22 }
set_option maxHeartbeats 4000000 in
set_option maxRecDepth 100000 in
theorem c_X6_isLive (l : Launch) (D : va_G) (G : Nat → ClassId) (base : Nat) (h h' : Hp) (x0 x1 : Int) (rv : Int) (i_x1 : inr x1) (hrun : f_X6_isLive h x0 x1 = some (rv, h')) : Met l yX6_isLive w_X6_isLive rm_X6_isLive (PC l D G base h [vr x0, vi x1]) (QR D G base (some (vi rv)) (inr rv) h') rm_X6_isLive.cells rm_X6_isLive.slots (Ab base) := by
  refine Met.ofW (cc := cX6_isLive) (maxL := 2) (ret := (some .boolean)) (by decide) rfl ?_
  intro p e s m args below meth c s₁ B hml hv
  obtain ⟨hargs, hE, hM⟩ := hv
  have hx := B.exec
  have hb := B.bytes
  have hr := B.returns
  have hts0 := atoms_spec (ws := w_X6_isLive) B.pre
  have hts : ∀ w ∈ BW, w.before args s = true := fun w hw => hts0 w (List.mem_cons_of_mem _ hw)
  have hown : s.vm.findClass RX6 = some m.cls := findClass_of_methodNamed B.named
  have hlocks := B.notSynchronized
  have j35 : ∀ (h : Hp) (s0 : Int) (H : Heap) (locs : List Loc) (ls : Array Slot), inr s0 → SM D G base h H → va_S (Ab base) s.heap H locs → lvh ls 2 [] → f_X6_isLive_j35 h s0 = some (rv, h') → W p l e (headSpec w_X6_isLive rm_X6_isLive).room s m args below meth c H locs 0 0 (QI D G base rv h' below args s 0 0) (F0 m 35 ls [vi s0]) := by
    intro h s0 H locs ls i_s0 hM hS hl hrun
    unfold f_X6_isLive_j35 at hrun
    exact s_zret hx hb hr hlocks hM hS i_s0 hrun (Nat.le_of_ble_eq_true rfl) (Nat.le_of_ble_eq_true rfl) dX6_isLive_35
  have j34 : ∀ (h : Hp) (H : Heap) (locs : List Loc) (ls : Array Slot), SM D G base h H → va_S (Ab base) s.heap H locs → lvh ls 2 [] → f_X6_isLive_j34 h = some (rv, h') → W p l e (headSpec w_X6_isLive rm_X6_isLive).room s m args below meth c H locs 0 0 (QI D G base rv h' below args s 0 0) (F0 m 34 ls []) := by
    intro h H locs ls hM hS hl hrun
    unfold f_X6_isLive_j34 at hrun
    refine lv_iconst (v := Int32.ofInt 0) hx hb dX6_isLive_34 rfl ?_
    exact j35 h 0 H locs ls (by decide) hM hS (lsub hl [] rfl) hrun
  refine s_entry hargs hM (c_r (c_i c_0)) (Nat.le_of_ble_eq_true rfl) (fun H locs ls hM hS hl => ?_)
  replace hl : lvh ls 2 [(0, vr x0), (1, vi x1)] := hl
  unfold f_X6_isLive at hrun
  refine lv_iload_n hx hb dX6_isLive_0 rfl (la hl 1 rfl) ?_
  refine lv_iconst (v := Int32.ofInt 0) hx hb dX6_isLive_1 rfl ?_
  refine s_ldc (n := 262143) hx hb hown (hts _ kw_850) (by decide) dX6_isLive_2 ?_
  obtain ⟨r1, g1, hrun⟩ := bd hrun
  refine s_callS (n := 3) (rest := []) [vi x1, vi 0, vi 262143] hx hb hml hown hts hE hM hS (c_X6_isIn l D G base h r1.2 x1 0 262143 r1.1 i_x1 (by decide) (by decide) g1) kw_761 kw_759 kw_40 kw_760 (by decide +kernel) ⟨Nat.le_of_ble_eq_true rfl, Nat.le_of_ble_eq_true rfl⟩ rfl hl.1.1 rfl (c8 c_0 (Nat.le_of_ble_eq_true rfl)) dX6_isLive_4 ⟨Nat.le_of_ble_eq_true rfl, Nat.le_of_ble_eq_true rfl⟩ (fun H locs i_r1 hM hS => ?_)
  refine W.eq (g2 := F0 m 7 ls [vi r1.1]) rfl ?_
  refine s_if_eq (tgt := 34) hx hb dX6_isLive_7 (by decide) i_r1 (fun cd => ?_) (fun cd => ?_)
  · replace hrun := it_pos cd hrun
    exact j34 r1.2 H locs ls hM hS (lsub hl [] rfl) hrun
  · replace hrun := it_neg cd hrun
    refine lv_iload_n hx hb dX6_isLive_10 rfl (la hl 1 rfl) ?_
    refine lv_bipush (v := Int32.ofInt 8) hx hb dX6_isLive_11 (by decide) ?_
    obtain ⟨v2, g2, hrun⟩ := bd hrun
    refine s_irem hx hb i_x1 (by decide) g2 dX6_isLive_13 ?_
    have i_v2 : inr v2 := inr_rm i_x1 g2
    refine s_if_ne (tgt := 34) hx hb dX6_isLive_14 (by decide) i_v2 (fun cd => ?_) (fun cd => ?_)
    · replace hrun := it_pos cd hrun
      exact j34 r1.2 H locs ls hM hS (lsub hl [] rfl) hrun
    · replace hrun := it_neg cd hrun
      refine s_aload_n hx hb dX6_isLive_17 rfl (la hl 0 rfl) ?_
      obtain ⟨v3, g3, hrun⟩ := bd hrun
      refine s_getfr hx hb hts kl_6 hown hE.1 hM (ci := 6) rfl (by decide) rfl (k := 18) (by decide) rfl (hts _ kw_686) g3 dX6_isLive_18 ?_
      refine lv_iload_n hx hb dX6_isLive_21 rfl (la hl 1 rfl) ?_
      refine lv_bipush (v := Int32.ofInt 8) hx hb dX6_isLive_22 (by decide) ?_
      obtain ⟨v4, g4, hrun⟩ := bd hrun
      refine s_idiv hx hb i_x1 (by decide) g4 dX6_isLive_24 ?_
      have i_v4 : inr v4 := inr_dv g4
      obtain ⟨v5, g5, hrun⟩ := bd hrun
      refine s_iald hx hb hE.1 hM i_v4 g5 dX6_isLive_25 ?_
      have i_v5 : inr v5 := ald_i hM g5 (by decide) (by decide)
      refine lv_iconst (v := Int32.ofInt 2) hx hb dX6_isLive_26 rfl ?_
      refine s_icmp_ne (tgt := 34) hx hb dX6_isLive_27 (by decide) i_v5 (by decide) (fun cd => ?_) (fun cd => ?_)
      · replace hrun := it_pos cd hrun
        exact j34 r1.2 H locs ls hM hS (lsub hl [] rfl) hrun
      · replace hrun := it_neg cd hrun
        refine lv_iconst (v := Int32.ofInt 1) hx hb dX6_isLive_30 rfl ?_
        refine lv_goto (tgt := 35) hx hb dX6_isLive_31 (by decide) ?_
        exact j35 r1.2 1 H locs ls (by decide) hM hS (lsub hl [] rfl) hrun
def f_X6_cacheAt (h : Hp) (x0 x1 : Int) : Option (Int × Hp) :=
  Option.bind (gtf h 6 14 x0) fun v1 =>
  Option.bind (gtf h 6 2 x0) fun v2 =>
  Option.bind (idv x1 1024) fun v3 =>
  Option.bind (ald h 8 v2 v3) fun v4 =>
  Option.bind (ald h 8 v1 v4) fun v5 =>
  some (v5, h)
abbrev w_X6_cacheAt : List Cond := Cond.code yX6_cacheAt cX6_cacheAt 2 (some .int) :: BW
abbrev rm_X6_cacheAt : Room := { frames := 0, cells := 0, slots := 0, locals := 0 }
set_option maxHeartbeats 4000000 in
set_option maxRecDepth 100000 in
theorem c_X6_cacheAt (l : Launch) (D : va_G) (G : Nat → ClassId) (base : Nat) (h h' : Hp) (x0 x1 : Int) (rv : Int) (i_x1 : inr x1) (hrun : f_X6_cacheAt h x0 x1 = some (rv, h')) : Met l yX6_cacheAt w_X6_cacheAt rm_X6_cacheAt (PC l D G base h [vr x0, vi x1]) (QR D G base (some (vi rv)) (inr rv) h') rm_X6_cacheAt.cells rm_X6_cacheAt.slots (Ab base) := by
  refine Met.ofW (cc := cX6_cacheAt) (maxL := 2) (ret := (some .int)) (by decide) rfl ?_
  intro p e s m args below meth c s₁ B hml hv
  obtain ⟨hargs, hE, hM⟩ := hv
  have hx := B.exec
  have hb := B.bytes
  have hr := B.returns
  have hts0 := atoms_spec (ws := w_X6_cacheAt) B.pre
  have hts : ∀ w ∈ BW, w.before args s = true := fun w hw => hts0 w (List.mem_cons_of_mem _ hw)
  have hown : s.vm.findClass RX6 = some m.cls := findClass_of_methodNamed B.named
  have hlocks := B.notSynchronized
  refine s_entry hargs hM (c_r (c_i c_0)) (Nat.le_of_ble_eq_true rfl) (fun H locs ls hM hS hl => ?_)
  replace hl : lvh ls 2 [(0, vr x0), (1, vi x1)] := hl
  unfold f_X6_cacheAt at hrun
  refine s_aload_n hx hb dX6_cacheAt_0 rfl (la hl 0 rfl) ?_
  obtain ⟨v1, g1, hrun⟩ := bd hrun
  refine s_getfr hx hb hts kl_6 hown hE.1 hM (ci := 6) rfl (by decide) rfl (k := 14) (by decide) rfl (hts _ kw_682) g1 dX6_cacheAt_1 ?_
  refine s_aload_n hx hb dX6_cacheAt_4 rfl (la hl 0 rfl) ?_
  obtain ⟨v2, g2, hrun⟩ := bd hrun
  refine s_getfr hx hb hts kl_6 hown hE.1 hM (ci := 6) rfl (by decide) rfl (k := 2) (by decide) rfl (hts _ kw_670) g2 dX6_cacheAt_5 ?_
  refine lv_iload_n hx hb dX6_cacheAt_8 rfl (la hl 1 rfl) ?_
  refine lv_sipush (v := Int32.ofInt 1024) hx hb dX6_cacheAt_9 (by decide) ?_
  obtain ⟨v3, g3, hrun⟩ := bd hrun
  refine s_idiv hx hb i_x1 (by decide) g3 dX6_cacheAt_12 ?_
  have i_v3 : inr v3 := inr_dv g3
  obtain ⟨v4, g4, hrun⟩ := bd hrun
  refine s_iald hx hb hE.1 hM i_v3 g4 dX6_cacheAt_13 ?_
  have i_v4 : inr v4 := ald_i hM g4 (by decide) (by decide)
  obtain ⟨v5, g5, hrun⟩ := bd hrun
  refine s_iald hx hb hE.1 hM i_v4 g5 dX6_cacheAt_14 ?_
  have i_v5 : inr v5 := ald_i hM g5 (by decide) (by decide)
  exact s_iret hx hb hr hlocks hM hS i_v5 hrun (Nat.le_of_ble_eq_true rfl) (Nat.le_of_ble_eq_true rfl) dX6_cacheAt_15
def f_X6_free_j276 (h : Hp) (x5 : Int) : Option (Int × Hp) :=
  some (x5, h)
def f_X6_free_j218 (h : Hp) (x0 x4 x5 x6 : Int) : Option (Int × Hp) :=
  Option.bind (gtf h 6 23 x0) fun v26 =>
  Option.bind (ald h 8 v26 x6) fun v27 =>
  if 4 ≤ v27 then (
    Option.bind (ckd h 6 x0) fun u29 =>
    Option.bind (f_X6_toSlab h x0 x4) fun r28 =>
    f_X6_free_j276 r28.2 x5
  ) else (
    Option.bind (gtf h 6 24 x0) fun v30 =>
    Option.bind (gtf h 6 23 x0) fun v31 =>
    Option.bind (ald h 8 v31 x6) fun v32 =>
    Option.bind (ast h 8 v30 (wr ((wr (4 * x6)) + v32)) x4) fun h33 =>
    Option.bind (gtf h33 6 23 x0) fun v34 =>
    Option.bind (ald h33 8 v34 x6) fun v35 =>
    Option.bind (ast h33 8 v34 x6 (wr (v35 + 1))) fun h36 =>
    Option.bind (gtf h36 6 18 x0) fun v37 =>
    Option.bind (ast h36 8 v37 x4 3) fun h38 =>
    f_X6_free_j276 h38 x5
  )
def f_X6_free_s142 (k142 : Hp → Int → Int → Int → Int → Int → Option (Int × Hp)) (h : Hp) (x0 x4 x5 x6 x7 : Int) : Option (Int × Hp) :=
  if 4 ≤ x7 then (
    Option.bind (gtf h 6 25 x0) fun v39 =>
    Option.bind (ald h 8 v39 x5) fun v40 =>
    Option.bind (ast h 8 v39 x5 (wr (v40 + 1))) fun h41 =>
    Option.bind (gtf h41 6 23 x0) fun v42 =>
    Option.bind (ast h41 8 v42 (wr (x6 + 1)) 0) fun h43 =>
    Option.bind (ckd h43 6 x0) fun u45 =>
    Option.bind (f_X6_swap h43 x0 x6) fun r44 =>
    f_X6_free_j218 r44.2 x0 x4 x5 x6
  ) else (
    Option.bind (gtf h 6 26 x0) fun v46 =>
    Option.bind (gtf h 6 25 x0) fun v47 =>
    Option.bind (ald h 8 v47 x5) fun v48 =>
    Option.bind (gtf h 6 24 x0) fun v49 =>
    Option.bind (ald h 8 v49 (wr ((wr ((wr (4 * x6)) + 4)) + x7))) fun v50 =>
    Option.bind (ast h 8 v46 (wr ((wr ((wr (12 * x5)) + (wr (4 * v48)))) + x7)) v50) fun h51 =>
    k142 h51 x0 x4 x5 x6 (wr (x7 + 1))
  )
def f_X6_free_b142 : Nat → Hp → Int → Int → Int → Int → Int → Option (Int × Hp)
  | 0, _, _, _, _, _, _ => none
  | n + 1, h, x0, x4, x5, x6, x7 => f_X6_free_s142 (f_X6_free_b142 n) h x0 x4 x5 x6 x7
def f_X6_free_j117 (h : Hp) (x0 x4 x5 x6 : Int) : Option (Int × Hp) :=
  Option.bind (gtf h 6 23 x0) fun v22 =>
  Option.bind (ald h 8 v22 x6) fun v23 =>
  if v23 ≠ 4 then (
    f_X6_free_j218 h x0 x4 x5 x6
  ) else (
    Option.bind (gtf h 6 25 x0) fun v24 =>
    Option.bind (ald h 8 v24 x5) fun v25 =>
    if 3 ≤ v25 then (
      f_X6_free_j218 h x0 x4 x5 x6
    ) else (
      f_X6_free_b142 fuel h x0 x4 x5 x6 0
    )
  )
def f_X6_free_j52 (h : Hp) (x0 x1 x2 s0 : Int) : Option (Int × Hp) :=
  Option.bind (ckd h 6 x0) fun u12 =>
  Option.bind (f_X6_refused h x0 s0) fun r11 =>
  if r11.1 = 0 then (
    Option.bind (idv x1 8) fun v13 =>
    Option.bind (ckd r11.2 6 x0) fun u15 =>
    Option.bind (f_X6_cacheAt r11.2 x0 x1) fun r14 =>
    Option.bind (gtf r14.2 6 23 x0) fun v16 =>
    Option.bind (ald r14.2 8 v16 (wr (2 * (wr ((wr (8 * x2)) + r14.1))))) fun v17 =>
    if v17 ≠ 4 then (
      f_X6_free_j117 r14.2 x0 v13 r14.1 (wr (2 * (wr ((wr (8 * x2)) + r14.1))))
    ) else (
      Option.bind (gtf r14.2 6 23 x0) fun v18 =>
      Option.bind (ald r14.2 8 v18 (wr ((wr (2 * (wr ((wr (8 * x2)) + r14.1)))) + 1))) fun v19 =>
      if 4 ≤ v19 then (
        f_X6_free_j117 r14.2 x0 v13 r14.1 (wr (2 * (wr ((wr (8 * x2)) + r14.1))))
      ) else (
        Option.bind (ckd r14.2 6 x0) fun u21 =>
        Option.bind (f_X6_swap r14.2 x0 (wr (2 * (wr ((wr (8 * x2)) + r14.1))))) fun r20 =>
        f_X6_free_j117 r20.2 x0 v13 r14.1 (wr (2 * (wr ((wr (8 * x2)) + r14.1))))
      )
    )
  ) else (
    some (0, r11.2)
  )
def f_X6_free (h : Hp) (x0 x1 x2 : Int) : Option (Int × Hp) :=
  Option.bind (ckd h 6 x0) fun u2 =>
  Option.bind (f_X6_isLive h x0 x1) fun r1 =>
  if r1.1 ≠ 0 then (
    Option.bind (f_X6_isIn r1.2 x2 0 3) fun r3 =>
    if r3.1 ≠ 0 then (
      Option.bind (gtf r3.2 6 20 x0) fun v4 =>
      Option.bind (idv x1 8) fun v5 =>
      Option.bind (ald r3.2 8 v4 v5) fun v6 =>
      Option.bind (gtf r3.2 6 8 x0) fun v7 =>
      Option.bind (ckd r3.2 6 x0) fun u9 =>
      Option.bind (f_X6_cacheAt r3.2 x0 x1) fun r8 =>
      Option.bind (ald r8.2 8 v7 r8.1) fun v10 =>
      if v6 = v10 then (
        f_X6_free_j52 r8.2 x0 x1 x2 0
      ) else (
        f_X6_free_j52 r8.2 x0 x1 x2 3
      )
    ) else (
      f_X6_free_j52 r3.2 x0 x1 x2 2
    )
  ) else (
    f_X6_free_j52 r1.2 x0 x1 x2 1
  )
abbrev w_X6_free : List Cond := Cond.code yX6_free cX6_free 8 (some .int) :: BW
abbrev rm_X6_free : Room := { frames := 3, cells := 0, slots := 0, locals := 72 }
set_option maxHeartbeats 4000000 in
set_option maxRecDepth 100000 in
theorem c_X6_free (l : Launch) (D : va_G) (G : Nat → ClassId) (base : Nat) (h h' : Hp) (x0 x1 x2 : Int) (rv : Int) (i_x1 : inr x1) (i_x2 : inr x2) (hrun : f_X6_free h x0 x1 x2 = some (rv, h')) : Met l yX6_free w_X6_free rm_X6_free (PC l D G base h [vr x0, vi x1, vi x2]) (QR D G base (some (vi rv)) (inr rv) h') rm_X6_free.cells rm_X6_free.slots (Ab base) := by
  refine Met.ofW (cc := cX6_free) (maxL := 8) (ret := (some .int)) (by decide) rfl ?_
  intro p e s m args below meth c s₁ B hml hv
  obtain ⟨hargs, hE, hM⟩ := hv
  have hx := B.exec
  have hb := B.bytes
  have hr := B.returns
  have hts0 := atoms_spec (ws := w_X6_free) B.pre
  have hts : ∀ w ∈ BW, w.before args s = true := fun w hw => hts0 w (List.mem_cons_of_mem _ hw)
  have hown : s.vm.findClass RX6 = some m.cls := findClass_of_methodNamed B.named
  have hlocks := B.notSynchronized
  have j276 : ∀ (h : Hp) (x5 : Int) (H : Heap) (locs : List Loc) (ls : Array Slot), inr x5 → SM D G base h H → va_S (Ab base) s.heap H locs → lvh ls 8 [(5, vi x5)] → f_X6_free_j276 h x5 = some (rv, h') → W p l e (headSpec w_X6_free rm_X6_free).room s m args below meth c H locs 0 0 (QI D G base rv h' below args s 0 0) (F0 m 276 ls []) := by
    intro h x5 H locs ls i_x5 hM hS hl hrun
    unfold f_X6_free_j276 at hrun
    refine lv_iload hx hb dX6_free_276 (la hl 0 rfl) ?_
    exact s_iret hx hb hr hlocks hM hS i_x5 hrun (Nat.le_of_ble_eq_true rfl) (Nat.le_of_ble_eq_true rfl) dX6_free_278
  have j218 : ∀ (h : Hp) (x0 x4 x5 x6 : Int) (H : Heap) (locs : List Loc) (ls : Array Slot), inr x4 → inr x5 → inr x6 → SM D G base h H → va_S (Ab base) s.heap H locs → lvh ls 8 [(0, vr x0), (4, vi x4), (5, vi x5), (6, vi x6)] → f_X6_free_j218 h x0 x4 x5 x6 = some (rv, h') → W p l e (headSpec w_X6_free rm_X6_free).room s m args below meth c H locs 0 0 (QI D G base rv h' below args s 0 0) (F0 m 218 ls []) := by
    intro h x0 x4 x5 x6 H locs ls i_x4 i_x5 i_x6 hM hS hl hrun
    unfold f_X6_free_j218 at hrun
    refine s_aload_n hx hb dX6_free_218 rfl (la hl 0 rfl) ?_
    obtain ⟨v26, g26, hrun⟩ := bd hrun
    refine s_getfr hx hb hts kl_6 hown hE.1 hM (ci := 6) rfl (by decide) rfl (k := 23) (by decide) rfl (hts _ kw_691) g26 dX6_free_219 ?_
    refine lv_iload hx hb dX6_free_222 (la hl 3 rfl) ?_
    obtain ⟨v27, g27, hrun⟩ := bd hrun
    refine s_iald hx hb hE.1 hM i_x6 g27 dX6_free_224 ?_
    have i_v27 : inr v27 := ald_i hM g27 (by decide) (by decide)
    refine lv_iconst (v := Int32.ofInt 4) hx hb dX6_free_225 rfl ?_
    refine s_icmp_ge (tgt := 270) hx hb dX6_free_226 (by decide) i_v27 (by decide) (fun cd => ?_) (fun cd => ?_)
    · replace hrun := it_pos cd hrun
      refine s_aload_n hx hb dX6_free_270 rfl (la hl 0 rfl) ?_
      refine lv_iload hx hb dX6_free_271 (la hl 1 rfl) ?_
      obtain ⟨u29, g29, hrun⟩ := bd hrun
      obtain ⟨r28, g28, hrun⟩ := bd hrun
      refine s_callV (n := 1) (rest := []) [vi x4] hx hb hml hown hts hE hM hS (c_X6_toSlab l D G base h r28.2 x0 x4 r28.1 i_x4 g28) kw_785 kw_782 kw_40 kw_784 kw_19 (by decide +kernel) ⟨Nat.le_of_ble_eq_true rfl, Nat.le_of_ble_eq_true rfl⟩ rfl rfl (by decide) g29 rfl hl.1.1 rfl (c8 c_0 (Nat.le_of_ble_eq_true rfl)) dX6_free_273 ⟨Nat.le_of_ble_eq_true rfl, Nat.le_of_ble_eq_true rfl⟩ (fun H locs i_r28 hM hS => ?_)
      refine W.eq (g2 := F0 m 276 ls []) rfl ?_
      exact j276 r28.2 x5 H locs ls i_x5 hM hS (lsub hl [2] rfl) hrun
    · replace hrun := it_neg cd hrun
      refine s_aload_n hx hb dX6_free_229 rfl (la hl 0 rfl) ?_
      obtain ⟨v30, g30, hrun⟩ := bd hrun
      refine s_getfr hx hb hts kl_6 hown hE.1 hM (ci := 6) rfl (by decide) rfl (k := 24) (by decide) rfl (hts _ kw_692) g30 dX6_free_230 ?_
      refine lv_iconst (v := Int32.ofInt 4) hx hb dX6_free_233 rfl ?_
      refine lv_iload hx hb dX6_free_234 (la hl 3 rfl) ?_
      refine s_imul hx hb dX6_free_236 ?_
      refine s_aload_n hx hb dX6_free_237 rfl (la hl 0 rfl) ?_
      obtain ⟨v31, g31, hrun⟩ := bd hrun
      refine s_getfr hx hb hts kl_6 hown hE.1 hM (ci := 6) rfl (by decide) rfl (k := 23) (by decide) rfl (hts _ kw_691) g31 dX6_free_238 ?_
      refine lv_iload hx hb dX6_free_241 (la hl 3 rfl) ?_
      obtain ⟨v32, g32, hrun⟩ := bd hrun
      refine s_iald hx hb hE.1 hM i_x6 g32 dX6_free_243 ?_
      have i_v32 : inr v32 := ald_i hM g32 (by decide) (by decide)
      refine s_iadd hx hb dX6_free_244 ?_
      refine lv_iload hx hb dX6_free_245 (la hl 1 rfl) ?_
      obtain ⟨h33, g33, hrun⟩ := bd hrun
      refine s_iast hx hb hE.1 hM hS (inr_wr _) i_x4 g33 dX6_free_247 (fun H locs hM hS => ?_)
      refine s_aload_n hx hb dX6_free_248 rfl (la hl 0 rfl) ?_
      obtain ⟨v34, g34, hrun⟩ := bd hrun
      refine s_getfr hx hb hts kl_6 hown hE.1 hM (ci := 6) rfl (by decide) rfl (k := 23) (by decide) rfl (hts _ kw_691) g34 dX6_free_249 ?_
      refine lv_iload hx hb dX6_free_252 (la hl 3 rfl) ?_
      refine lv_dup2_11 hx hb dX6_free_254 rfl (vr_cat _) ?_
      obtain ⟨v35, g35, hrun⟩ := bd hrun
      refine s_iald hx hb hE.1 hM i_x6 g35 dX6_free_255 ?_
      have i_v35 : inr v35 := ald_i hM g35 (by decide) (by decide)
      refine lv_iconst (v := Int32.ofInt 1) hx hb dX6_free_256 rfl ?_
      refine s_iadd hx hb dX6_free_257 ?_
      obtain ⟨h36, g36, hrun⟩ := bd hrun
      refine s_iast hx hb hE.1 hM hS i_x6 (inr_wr _) g36 dX6_free_258 (fun H locs hM hS => ?_)
      refine s_aload_n hx hb dX6_free_259 rfl (la hl 0 rfl) ?_
      obtain ⟨v37, g37, hrun⟩ := bd hrun
      refine s_getfr hx hb hts kl_6 hown hE.1 hM (ci := 6) rfl (by decide) rfl (k := 18) (by decide) rfl (hts _ kw_686) g37 dX6_free_260 ?_
      refine lv_iload hx hb dX6_free_263 (la hl 1 rfl) ?_
      refine lv_iconst (v := Int32.ofInt 3) hx hb dX6_free_265 rfl ?_
      obtain ⟨h38, g38, hrun⟩ := bd hrun
      refine s_iast hx hb hE.1 hM hS i_x4 (by decide) g38 dX6_free_266 (fun H locs hM hS => ?_)
      refine lv_goto (tgt := 276) hx hb dX6_free_267 (by decide) ?_
      exact j276 h38 x5 H locs ls i_x5 hM hS (lsub hl [2] rfl) hrun
  have lp142 : ∀ (n142 : Nat) (h : Hp) (x0 x4 x5 x6 x7 : Int) (H : Heap) (locs : List Loc) (ls : Array Slot), inr x4 → inr x5 → inr x6 → inr x7 → SM D G base h H → va_S (Ab base) s.heap H locs → lvh ls 8 [(0, vr x0), (4, vi x4), (5, vi x5), (6, vi x6), (7, vi x7)] → f_X6_free_b142 n142 h x0 x4 x5 x6 x7 = some (rv, h') → W p l e (headSpec w_X6_free rm_X6_free).room s m args below meth c H locs 0 0 (QI D G base rv h' below args s 0 0) (F0 m 142 ls []) := by
    intro n142
    induction n142 with
    | zero => intro h x0 x4 x5 x6 x7 H locs ls i_x4 i_x5 i_x6 i_x7 hM hS hl hrun; exact absurd hrun (fun q => nomatch (show (none : Option (Int × Hp)) = some (rv, h') from q))
    | succ n142 ih142 =>
      intro h x0 x4 x5 x6 x7 H locs ls i_x4 i_x5 i_x6 i_x7 hM hS hl hrun
      replace hrun : f_X6_free_s142 (f_X6_free_b142 n142) h x0 x4 x5 x6 x7 = some (rv, h') := hrun
      unfold f_X6_free_s142 at hrun
      refine lv_iload hx hb dX6_free_142 (la hl 4 rfl) ?_
      refine lv_iconst (v := Int32.ofInt 4) hx hb dX6_free_144 rfl ?_
      refine s_icmp_ge (tgt := 191) hx hb dX6_free_145 (by decide) i_x7 (by decide) (fun cd => ?_) (fun cd => ?_)
      · replace hrun := it_pos cd hrun
        refine s_aload_n hx hb dX6_free_191 rfl (la hl 0 rfl) ?_
        obtain ⟨v39, g39, hrun⟩ := bd hrun
        refine s_getfr hx hb hts kl_6 hown hE.1 hM (ci := 6) rfl (by decide) rfl (k := 25) (by decide) rfl (hts _ kw_693) g39 dX6_free_192 ?_
        refine lv_iload hx hb dX6_free_195 (la hl 2 rfl) ?_
        refine lv_dup2_11 hx hb dX6_free_197 rfl (vr_cat _) ?_
        obtain ⟨v40, g40, hrun⟩ := bd hrun
        refine s_iald hx hb hE.1 hM i_x5 g40 dX6_free_198 ?_
        have i_v40 : inr v40 := ald_i hM g40 (by decide) (by decide)
        refine lv_iconst (v := Int32.ofInt 1) hx hb dX6_free_199 rfl ?_
        refine s_iadd hx hb dX6_free_200 ?_
        obtain ⟨h41, g41, hrun⟩ := bd hrun
        refine s_iast hx hb hE.1 hM hS i_x5 (inr_wr _) g41 dX6_free_201 (fun H locs hM hS => ?_)
        refine s_aload_n hx hb dX6_free_202 rfl (la hl 0 rfl) ?_
        obtain ⟨v42, g42, hrun⟩ := bd hrun
        refine s_getfr hx hb hts kl_6 hown hE.1 hM (ci := 6) rfl (by decide) rfl (k := 23) (by decide) rfl (hts _ kw_691) g42 dX6_free_203 ?_
        refine lv_iload hx hb dX6_free_206 (la hl 3 rfl) ?_
        refine lv_iconst (v := Int32.ofInt 1) hx hb dX6_free_208 rfl ?_
        refine s_iadd hx hb dX6_free_209 ?_
        refine lv_iconst (v := Int32.ofInt 0) hx hb dX6_free_210 rfl ?_
        obtain ⟨h43, g43, hrun⟩ := bd hrun
        refine s_iast hx hb hE.1 hM hS (inr_wr _) (by decide) g43 dX6_free_211 (fun H locs hM hS => ?_)
        refine s_aload_n hx hb dX6_free_212 rfl (la hl 0 rfl) ?_
        refine lv_iload hx hb dX6_free_213 (la hl 3 rfl) ?_
        obtain ⟨u45, g45, hrun⟩ := bd hrun
        obtain ⟨r44, g44, hrun⟩ := bd hrun
        refine s_callV (n := 1) (rest := []) [vi x6] hx hb hml hown hts hE hM hS (c_X6_swap l D G base h43 r44.2 x0 x6 r44.1 i_x6 g44) kw_825 kw_822 kw_40 kw_824 kw_28 (by decide +kernel) ⟨Nat.le_of_ble_eq_true rfl, Nat.le_of_ble_eq_true rfl⟩ rfl rfl (by decide) g45 rfl hl.1.1 rfl (c8 c_0 (Nat.le_of_ble_eq_true rfl)) dX6_free_215 ⟨Nat.le_of_ble_eq_true rfl, Nat.le_of_ble_eq_true rfl⟩ (fun H locs i_r44 hM hS => ?_)
        refine W.eq (g2 := F0 m 218 ls []) rfl ?_
        exact j218 r44.2 x0 x4 x5 x6 H locs ls i_x4 i_x5 i_x6 hM hS (lsub hl [0, 1, 2, 3] rfl) hrun
      · replace hrun := it_neg cd hrun
        refine s_aload_n hx hb dX6_free_148 rfl (la hl 0 rfl) ?_
        obtain ⟨v46, g46, hrun⟩ := bd hrun
        refine s_getfr hx hb hts kl_6 hown hE.1 hM (ci := 6) rfl (by decide) rfl (k := 26) (by decide) rfl (hts _ kw_694) g46 dX6_free_149 ?_
        refine lv_bipush (v := Int32.ofInt 12) hx hb dX6_free_152 (by decide) ?_
        refine lv_iload hx hb dX6_free_154 (la hl 2 rfl) ?_
        refine s_imul hx hb dX6_free_156 ?_
        refine lv_iconst (v := Int32.ofInt 4) hx hb dX6_free_157 rfl ?_
        refine s_aload_n hx hb dX6_free_158 rfl (la hl 0 rfl) ?_
        obtain ⟨v47, g47, hrun⟩ := bd hrun
        refine s_getfr hx hb hts kl_6 hown hE.1 hM (ci := 6) rfl (by decide) rfl (k := 25) (by decide) rfl (hts _ kw_693) g47 dX6_free_159 ?_
        refine lv_iload hx hb dX6_free_162 (la hl 2 rfl) ?_
        obtain ⟨v48, g48, hrun⟩ := bd hrun
        refine s_iald hx hb hE.1 hM i_x5 g48 dX6_free_164 ?_
        have i_v48 : inr v48 := ald_i hM g48 (by decide) (by decide)
        refine s_imul hx hb dX6_free_165 ?_
        refine s_iadd hx hb dX6_free_166 ?_
        refine lv_iload hx hb dX6_free_167 (la hl 4 rfl) ?_
        refine s_iadd hx hb dX6_free_169 ?_
        refine s_aload_n hx hb dX6_free_170 rfl (la hl 0 rfl) ?_
        obtain ⟨v49, g49, hrun⟩ := bd hrun
        refine s_getfr hx hb hts kl_6 hown hE.1 hM (ci := 6) rfl (by decide) rfl (k := 24) (by decide) rfl (hts _ kw_692) g49 dX6_free_171 ?_
        refine lv_iconst (v := Int32.ofInt 4) hx hb dX6_free_174 rfl ?_
        refine lv_iload hx hb dX6_free_175 (la hl 3 rfl) ?_
        refine s_imul hx hb dX6_free_177 ?_
        refine lv_iconst (v := Int32.ofInt 4) hx hb dX6_free_178 rfl ?_
        refine s_iadd hx hb dX6_free_179 ?_
        refine lv_iload hx hb dX6_free_180 (la hl 4 rfl) ?_
        refine s_iadd hx hb dX6_free_182 ?_
        obtain ⟨v50, g50, hrun⟩ := bd hrun
        refine s_iald hx hb hE.1 hM (inr_wr _) g50 dX6_free_183 ?_
        have i_v50 : inr v50 := ald_i hM g50 (by decide) (by decide)
        obtain ⟨h51, g51, hrun⟩ := bd hrun
        refine s_iast hx hb hE.1 hM hS (inr_wr _) i_v50 g51 dX6_free_184 (fun H locs hM hS => ?_)
        refine t_iinc (lv' := [(7, vi (wr (x7 + 1))), (0, vr x0), (4, vi x4), (5, vi x5), (6, vi x6)]) hx hb dX6_free_185 hl (k := 4) rfl (by decide) rfl rfl (fun ls hl => ?_)
        refine lv_goto (tgt := 142) hx hb dX6_free_188 (by decide) ?_
        exact ih142 h51 x0 x4 x5 x6 (wr (x7 + 1)) H locs ls i_x4 i_x5 i_x6 (inr_wr _) hM hS (lsub hl [1, 2, 3, 4, 0] rfl) hrun
  have j117 : ∀ (h : Hp) (x0 x4 x5 x6 : Int) (H : Heap) (locs : List Loc) (ls : Array Slot), inr x4 → inr x5 → inr x6 → SM D G base h H → va_S (Ab base) s.heap H locs → lvh ls 8 [(0, vr x0), (4, vi x4), (5, vi x5), (6, vi x6)] → f_X6_free_j117 h x0 x4 x5 x6 = some (rv, h') → W p l e (headSpec w_X6_free rm_X6_free).room s m args below meth c H locs 0 0 (QI D G base rv h' below args s 0 0) (F0 m 117 ls []) := by
    intro h x0 x4 x5 x6 H locs ls i_x4 i_x5 i_x6 hM hS hl hrun
    unfold f_X6_free_j117 at hrun
    refine s_aload_n hx hb dX6_free_117 rfl (la hl 0 rfl) ?_
    obtain ⟨v22, g22, hrun⟩ := bd hrun
    refine s_getfr hx hb hts kl_6 hown hE.1 hM (ci := 6) rfl (by decide) rfl (k := 23) (by decide) rfl (hts _ kw_691) g22 dX6_free_118 ?_
    refine lv_iload hx hb dX6_free_121 (la hl 3 rfl) ?_
    obtain ⟨v23, g23, hrun⟩ := bd hrun
    refine s_iald hx hb hE.1 hM i_x6 g23 dX6_free_123 ?_
    have i_v23 : inr v23 := ald_i hM g23 (by decide) (by decide)
    refine lv_iconst (v := Int32.ofInt 4) hx hb dX6_free_124 rfl ?_
    refine s_icmp_ne (tgt := 218) hx hb dX6_free_125 (by decide) i_v23 (by decide) (fun cd => ?_) (fun cd => ?_)
    · replace hrun := it_pos cd hrun
      exact j218 h x0 x4 x5 x6 H locs ls i_x4 i_x5 i_x6 hM hS (lsub hl [0, 1, 2, 3] rfl) hrun
    · replace hrun := it_neg cd hrun
      refine s_aload_n hx hb dX6_free_128 rfl (la hl 0 rfl) ?_
      obtain ⟨v24, g24, hrun⟩ := bd hrun
      refine s_getfr hx hb hts kl_6 hown hE.1 hM (ci := 6) rfl (by decide) rfl (k := 25) (by decide) rfl (hts _ kw_693) g24 dX6_free_129 ?_
      refine lv_iload hx hb dX6_free_132 (la hl 2 rfl) ?_
      obtain ⟨v25, g25, hrun⟩ := bd hrun
      refine s_iald hx hb hE.1 hM i_x5 g25 dX6_free_134 ?_
      have i_v25 : inr v25 := ald_i hM g25 (by decide) (by decide)
      refine lv_iconst (v := Int32.ofInt 3) hx hb dX6_free_135 rfl ?_
      refine s_icmp_ge (tgt := 218) hx hb dX6_free_136 (by decide) i_v25 (by decide) (fun cd => ?_) (fun cd => ?_)
      · replace hrun := it_pos cd hrun
        exact j218 h x0 x4 x5 x6 H locs ls i_x4 i_x5 i_x6 hM hS (lsub hl [0, 1, 2, 3] rfl) hrun
      · replace hrun := it_neg cd hrun
        refine lv_iconst (v := Int32.ofInt 0) hx hb dX6_free_139 rfl ?_
        refine t_istore (lv' := [(7, vi 0), (0, vr x0), (4, vi x4), (5, vi x5), (6, vi x6)]) hx hb dX6_free_140 hl (by decide) rfl (fun ls hl => ?_)
        exact lp142 fuel h x0 x4 x5 x6 0 H locs ls i_x4 i_x5 i_x6 (by decide) hM hS (lsub hl [1, 2, 3, 4, 0] rfl) hrun
  have j52 : ∀ (h : Hp) (x0 x1 x2 s0 : Int) (H : Heap) (locs : List Loc) (ls : Array Slot), inr x1 → inr x2 → inr s0 → SM D G base h H → va_S (Ab base) s.heap H locs → lvh ls 8 [(0, vr x0), (1, vi x1), (2, vi x2)] → f_X6_free_j52 h x0 x1 x2 s0 = some (rv, h') → W p l e (headSpec w_X6_free rm_X6_free).room s m args below meth c H locs 0 0 (QI D G base rv h' below args s 0 0) (F0 m 52 ls [vi s0]) := by
    intro h x0 x1 x2 s0 H locs ls i_x1 i_x2 i_s0 hM hS hl hrun
    unfold f_X6_free_j52 at hrun
    refine t_istore_n (lv' := [(3, vi s0), (0, vr x0), (1, vi x1), (2, vi x2)]) hx hb dX6_free_52 rfl hl (by decide) rfl (fun ls hl => ?_)
    refine s_aload_n hx hb dX6_free_53 rfl (la hl 1 rfl) ?_
    refine lv_iload_n hx hb dX6_free_54 rfl (la hl 0 rfl) ?_
    obtain ⟨u12, g12, hrun⟩ := bd hrun
    obtain ⟨r11, g11, hrun⟩ := bd hrun
    refine s_callV (n := 1) (rest := []) [vi s0] hx hb hml hown hts hE hM hS (c_X6_refused l D G base h r11.2 x0 s0 r11.1 i_s0 g11) kw_765 kw_762 kw_40 kw_764 kw_15 (by decide +kernel) ⟨Nat.le_of_ble_eq_true rfl, Nat.le_of_ble_eq_true rfl⟩ rfl rfl (by decide) g12 rfl hl.1.1 rfl (c8 c_0 (Nat.le_of_ble_eq_true rfl)) dX6_free_55 ⟨Nat.le_of_ble_eq_true rfl, Nat.le_of_ble_eq_true rfl⟩ (fun H locs i_r11 hM hS => ?_)
    refine W.eq (g2 := F0 m 58 ls [vi r11.1]) rfl ?_
    refine s_if_eq (tgt := 63) hx hb dX6_free_58 (by decide) i_r11 (fun cd => ?_) (fun cd => ?_)
    · replace hrun := it_pos cd hrun
      refine lv_iload_n hx hb dX6_free_63 rfl (la hl 2 rfl) ?_
      refine lv_bipush (v := Int32.ofInt 8) hx hb dX6_free_64 (by decide) ?_
      obtain ⟨v13, g13, hrun⟩ := bd hrun
      refine s_idiv hx hb i_x1 (by decide) g13 dX6_free_66 ?_
      have i_v13 : inr v13 := inr_dv g13
      refine t_istore (lv' := [(4, vi v13), (3, vi s0), (0, vr x0), (1, vi x1), (2, vi x2)]) hx hb dX6_free_67 hl (by decide) rfl (fun ls hl => ?_)
      refine s_aload_n hx hb dX6_free_69 rfl (la hl 2 rfl) ?_
      refine lv_iload_n hx hb dX6_free_70 rfl (la hl 3 rfl) ?_
      obtain ⟨u15, g15, hrun⟩ := bd hrun
      obtain ⟨r14, g14, hrun⟩ := bd hrun
      refine s_callV (n := 1) (rest := []) [vi x1] hx hb hml hown hts hE hM hS (c_X6_cacheAt l D G base r11.2 r14.2 x0 x1 r14.1 i_x1 g14) kw_854 kw_851 kw_40 kw_853 kw_34 (by decide +kernel) ⟨Nat.le_of_ble_eq_true rfl, Nat.le_of_ble_eq_true rfl⟩ rfl rfl (by decide) g15 rfl hl.1.1 rfl (c8 c_0 (Nat.le_of_ble_eq_true rfl)) dX6_free_71 ⟨Nat.le_of_ble_eq_true rfl, Nat.le_of_ble_eq_true rfl⟩ (fun H locs i_r14 hM hS => ?_)
      refine W.eq (g2 := F0 m 74 ls [vi r14.1]) rfl ?_
      refine t_istore (lv' := [(5, vi r14.1), (4, vi v13), (3, vi s0), (0, vr x0), (1, vi x1), (2, vi x2)]) hx hb dX6_free_74 hl (by decide) rfl (fun ls hl => ?_)
      refine lv_iconst (v := Int32.ofInt 2) hx hb dX6_free_76 rfl ?_
      refine lv_bipush (v := Int32.ofInt 8) hx hb dX6_free_77 (by decide) ?_
      refine lv_iload_n hx hb dX6_free_79 rfl (la hl 5 rfl) ?_
      refine s_imul hx hb dX6_free_80 ?_
      refine lv_iload hx hb dX6_free_81 (la hl 0 rfl) ?_
      refine s_iadd hx hb dX6_free_83 ?_
      refine s_imul hx hb dX6_free_84 ?_
      refine t_istore (lv' := [(6, vi (wr (2 * (wr ((wr (8 * x2)) + r14.1))))), (5, vi r14.1), (4, vi v13), (3, vi s0), (0, vr x0), (1, vi x1), (2, vi x2)]) hx hb dX6_free_85 hl (by decide) rfl (fun ls hl => ?_)
      refine s_aload_n hx hb dX6_free_87 rfl (la hl 4 rfl) ?_
      obtain ⟨v16, g16, hrun⟩ := bd hrun
      refine s_getfr hx hb hts kl_6 hown hE.1 hM (ci := 6) rfl (by decide) rfl (k := 23) (by decide) rfl (hts _ kw_691) g16 dX6_free_88 ?_
      refine lv_iload hx hb dX6_free_91 (la hl 0 rfl) ?_
      obtain ⟨v17, g17, hrun⟩ := bd hrun
      refine s_iald hx hb hE.1 hM (inr_wr _) g17 dX6_free_93 ?_
      have i_v17 : inr v17 := ald_i hM g17 (by decide) (by decide)
      refine lv_iconst (v := Int32.ofInt 4) hx hb dX6_free_94 rfl ?_
      refine s_icmp_ne (tgt := 117) hx hb dX6_free_95 (by decide) i_v17 (by decide) (fun cd => ?_) (fun cd => ?_)
      · replace hrun := it_pos cd hrun
        exact j117 r14.2 x0 v13 r14.1 (wr (2 * (wr ((wr (8 * x2)) + r14.1)))) H locs ls i_v13 i_r14 (inr_wr _) hM hS (lsub hl [4, 2, 1, 0] rfl) hrun
      · replace hrun := it_neg cd hrun
        refine s_aload_n hx hb dX6_free_98 rfl (la hl 4 rfl) ?_
        obtain ⟨v18, g18, hrun⟩ := bd hrun
        refine s_getfr hx hb hts kl_6 hown hE.1 hM (ci := 6) rfl (by decide) rfl (k := 23) (by decide) rfl (hts _ kw_691) g18 dX6_free_99 ?_
        refine lv_iload hx hb dX6_free_102 (la hl 0 rfl) ?_
        refine lv_iconst (v := Int32.ofInt 1) hx hb dX6_free_104 rfl ?_
        refine s_iadd hx hb dX6_free_105 ?_
        obtain ⟨v19, g19, hrun⟩ := bd hrun
        refine s_iald hx hb hE.1 hM (inr_wr _) g19 dX6_free_106 ?_
        have i_v19 : inr v19 := ald_i hM g19 (by decide) (by decide)
        refine lv_iconst (v := Int32.ofInt 4) hx hb dX6_free_107 rfl ?_
        refine s_icmp_ge (tgt := 117) hx hb dX6_free_108 (by decide) i_v19 (by decide) (fun cd => ?_) (fun cd => ?_)
        · replace hrun := it_pos cd hrun
          exact j117 r14.2 x0 v13 r14.1 (wr (2 * (wr ((wr (8 * x2)) + r14.1)))) H locs ls i_v13 i_r14 (inr_wr _) hM hS (lsub hl [4, 2, 1, 0] rfl) hrun
        · replace hrun := it_neg cd hrun
          refine s_aload_n hx hb dX6_free_111 rfl (la hl 4 rfl) ?_
          refine lv_iload hx hb dX6_free_112 (la hl 0 rfl) ?_
          obtain ⟨u21, g21, hrun⟩ := bd hrun
          obtain ⟨r20, g20, hrun⟩ := bd hrun
          refine s_callV (n := 1) (rest := []) [vi (wr (2 * (wr ((wr (8 * x2)) + r14.1))))] hx hb hml hown hts hE hM hS (c_X6_swap l D G base r14.2 r20.2 x0 (wr (2 * (wr ((wr (8 * x2)) + r14.1)))) r20.1 (inr_wr _) g20) kw_825 kw_822 kw_40 kw_824 kw_28 (by decide +kernel) ⟨Nat.le_of_ble_eq_true rfl, Nat.le_of_ble_eq_true rfl⟩ rfl rfl (by decide) g21 rfl hl.1.1 rfl (c8 c_0 (Nat.le_of_ble_eq_true rfl)) dX6_free_114 ⟨Nat.le_of_ble_eq_true rfl, Nat.le_of_ble_eq_true rfl⟩ (fun H locs i_r20 hM hS => ?_)
          refine W.eq (g2 := F0 m 117 ls []) rfl ?_
          exact j117 r20.2 x0 v13 r14.1 (wr (2 * (wr ((wr (8 * x2)) + r14.1)))) H locs ls i_v13 i_r14 (inr_wr _) hM hS (lsub hl [4, 2, 1, 0] rfl) hrun
    · replace hrun := it_neg cd hrun
      refine lv_iconst (v := Int32.ofInt 0) hx hb dX6_free_61 rfl ?_
      exact s_iret hx hb hr hlocks hM hS (by decide) hrun (Nat.le_of_ble_eq_true rfl) (Nat.le_of_ble_eq_true rfl) dX6_free_62
  refine s_entry hargs hM (c_r (c_i (c_i c_0))) (Nat.le_of_ble_eq_true rfl) (fun H locs ls hM hS hl => ?_)
  replace hl : lvh ls 8 [(0, vr x0), (1, vi x1), (2, vi x2)] := hl
  unfold f_X6_free at hrun
  refine s_aload_n hx hb dX6_free_0 rfl (la hl 0 rfl) ?_
  refine lv_iload_n hx hb dX6_free_1 rfl (la hl 1 rfl) ?_
  obtain ⟨u2, g2, hrun⟩ := bd hrun
  obtain ⟨r1, g1, hrun⟩ := bd hrun
  refine s_callV (n := 1) (rest := []) [vi x1] hx hb hml hown hts hE hM hS (c_X6_isLive l D G base h r1.2 x0 x1 r1.1 i_x1 g1) kw_849 kw_846 kw_40 kw_848 kw_33 (by decide +kernel) ⟨Nat.le_of_ble_eq_true rfl, Nat.le_of_ble_eq_true rfl⟩ rfl rfl (by decide) g2 rfl hl.1.1 rfl (c8 c_0 (Nat.le_of_ble_eq_true rfl)) dX6_free_2 ⟨Nat.le_of_ble_eq_true rfl, Nat.le_of_ble_eq_true rfl⟩ (fun H locs i_r1 hM hS => ?_)
  refine W.eq (g2 := F0 m 5 ls [vi r1.1]) rfl ?_
  refine s_if_ne (tgt := 12) hx hb dX6_free_5 (by decide) i_r1 (fun cd => ?_) (fun cd => ?_)
  · replace hrun := it_pos cd hrun
    refine lv_iload_n hx hb dX6_free_12 rfl (la hl 2 rfl) ?_
    refine lv_iconst (v := Int32.ofInt 0) hx hb dX6_free_13 rfl ?_
    refine lv_iconst (v := Int32.ofInt 3) hx hb dX6_free_14 rfl ?_
    obtain ⟨r3, g3, hrun⟩ := bd hrun
    refine s_callS (n := 3) (rest := []) [vi x2, vi 0, vi 3] hx hb hml hown hts hE hM hS (c_X6_isIn l D G base r1.2 r3.2 x2 0 3 r3.1 i_x2 (by decide) (by decide) g3) kw_761 kw_759 kw_40 kw_760 (by decide +kernel) ⟨Nat.le_of_ble_eq_true rfl, Nat.le_of_ble_eq_true rfl⟩ rfl hl.1.1 rfl (c8 c_0 (Nat.le_of_ble_eq_true rfl)) dX6_free_15 ⟨Nat.le_of_ble_eq_true rfl, Nat.le_of_ble_eq_true rfl⟩ (fun H locs i_r3 hM hS => ?_)
    refine W.eq (g2 := F0 m 18 ls [vi r3.1]) rfl ?_
    refine s_if_ne (tgt := 25) hx hb dX6_free_18 (by decide) i_r3 (fun cd => ?_) (fun cd => ?_)
    · replace hrun := it_pos cd hrun
      refine s_aload_n hx hb dX6_free_25 rfl (la hl 0 rfl) ?_
      obtain ⟨v4, g4, hrun⟩ := bd hrun
      refine s_getfr hx hb hts kl_6 hown hE.1 hM (ci := 6) rfl (by decide) rfl (k := 20) (by decide) rfl (hts _ kw_688) g4 dX6_free_26 ?_
      refine lv_iload_n hx hb dX6_free_29 rfl (la hl 1 rfl) ?_
      refine lv_bipush (v := Int32.ofInt 8) hx hb dX6_free_30 (by decide) ?_
      obtain ⟨v5, g5, hrun⟩ := bd hrun
      refine s_idiv hx hb i_x1 (by decide) g5 dX6_free_32 ?_
      have i_v5 : inr v5 := inr_dv g5
      obtain ⟨v6, g6, hrun⟩ := bd hrun
      refine s_iald hx hb hE.1 hM i_v5 g6 dX6_free_33 ?_
      have i_v6 : inr v6 := ald_i hM g6 (by decide) (by decide)
      refine s_aload_n hx hb dX6_free_34 rfl (la hl 0 rfl) ?_
      obtain ⟨v7, g7, hrun⟩ := bd hrun
      refine s_getfr hx hb hts kl_6 hown hE.1 hM (ci := 6) rfl (by decide) rfl (k := 8) (by decide) rfl (hts _ kw_676) g7 dX6_free_35 ?_
      refine s_aload_n hx hb dX6_free_38 rfl (la hl 0 rfl) ?_
      refine lv_iload_n hx hb dX6_free_39 rfl (la hl 1 rfl) ?_
      obtain ⟨u9, g9, hrun⟩ := bd hrun
      obtain ⟨r8, g8, hrun⟩ := bd hrun
      refine s_callV (n := 1) (rest := [vr v7, vi v6]) [vi x1] hx hb hml hown hts hE hM hS (c_X6_cacheAt l D G base r3.2 r8.2 x0 x1 r8.1 i_x1 g8) kw_854 kw_851 kw_40 kw_853 kw_34 (by decide +kernel) ⟨Nat.le_of_ble_eq_true rfl, Nat.le_of_ble_eq_true rfl⟩ rfl rfl (by decide) g9 rfl hl.1.1 rfl (c8 (c_r (c_i c_0)) (Nat.le_of_ble_eq_true rfl)) dX6_free_40 ⟨Nat.le_of_ble_eq_true rfl, Nat.le_of_ble_eq_true rfl⟩ (fun H locs i_r8 hM hS => ?_)
      refine W.eq (g2 := F0 m 43 ls [vi r8.1, vr v7, vi v6]) rfl ?_
      obtain ⟨v10, g10, hrun⟩ := bd hrun
      refine s_iald hx hb hE.1 hM i_r8 g10 dX6_free_43 ?_
      have i_v10 : inr v10 := ald_i hM g10 (by decide) (by decide)
      refine s_icmp_eq (tgt := 51) hx hb dX6_free_44 (by decide) i_v6 i_v10 (fun cd => ?_) (fun cd => ?_)
      · replace hrun := it_pos cd hrun
        refine lv_iconst (v := Int32.ofInt 0) hx hb dX6_free_51 rfl ?_
        exact j52 r8.2 x0 x1 x2 0 H locs ls i_x1 i_x2 (by decide) hM hS (lsub hl [0, 1, 2] rfl) hrun
      · replace hrun := it_neg cd hrun
        refine lv_iconst (v := Int32.ofInt 3) hx hb dX6_free_47 rfl ?_
        refine lv_goto (tgt := 52) hx hb dX6_free_48 (by decide) ?_
        exact j52 r8.2 x0 x1 x2 3 H locs ls i_x1 i_x2 (by decide) hM hS (lsub hl [0, 1, 2] rfl) hrun
    · replace hrun := it_neg cd hrun
      refine lv_iconst (v := Int32.ofInt 2) hx hb dX6_free_21 rfl ?_
      refine lv_goto (tgt := 52) hx hb dX6_free_22 (by decide) ?_
      exact j52 r3.2 x0 x1 x2 2 H locs ls i_x1 i_x2 (by decide) hM hS (lsub hl [0, 1, 2] rfl) hrun
  · replace hrun := it_neg cd hrun
    refine lv_iconst (v := Int32.ofInt 1) hx hb dX6_free_8 rfl ?_
    refine lv_goto (tgt := 52) hx hb dX6_free_9 (by decide) ?_
    exact j52 r1.2 x0 x1 x2 1 H locs ls i_x1 i_x2 (by decide) hM hS (lsub hl [0, 1, 2] rfl) hrun
def f_X6_mark_j14 (h : Hp) (x0 x1 x2 s0 s1 : Int) : Option (Int × Hp) :=
  Option.bind (ckd h 6 s0) fun u4 =>
  Option.bind (f_X6_refused h s0 s1) fun r3 =>
  if r3.1 = 0 then (
    Option.bind (gtf r3.2 6 20 x0) fun v5 =>
    Option.bind (idv x1 8) fun v6 =>
    Option.bind (ald r3.2 8 v5 v6) fun v7 =>
    Option.bind (gtf r3.2 6 20 x0) fun v8 =>
    Option.bind (idv x1 8) fun v9 =>
    Option.bind (ast r3.2 8 v8 v9 x2) fun h10 =>
    some (v7, h10)
  ) else (
    some (0, r3.2)
  )
def f_X6_mark (h : Hp) (x0 x1 x2 : Int) : Option (Int × Hp) :=
  Option.bind (ckd h 6 x0) fun u2 =>
  Option.bind (f_X6_isLive h x0 x1) fun r1 =>
  if r1.1 = 0 then (
    f_X6_mark_j14 r1.2 x0 x1 x2 x0 1
  ) else (
    f_X6_mark_j14 r1.2 x0 x1 x2 x0 0
  )
abbrev w_X6_mark : List Cond := Cond.code yX6_mark cX6_mark 4 (some .int) :: BW
abbrev rm_X6_mark : Room := { frames := 2, cells := 0, slots := 0, locals := 43 }
set_option maxHeartbeats 4000000 in
set_option maxRecDepth 100000 in
theorem c_X6_mark (l : Launch) (D : va_G) (G : Nat → ClassId) (base : Nat) (h h' : Hp) (x0 x1 x2 : Int) (rv : Int) (i_x1 : inr x1) (i_x2 : inr x2) (hrun : f_X6_mark h x0 x1 x2 = some (rv, h')) : Met l yX6_mark w_X6_mark rm_X6_mark (PC l D G base h [vr x0, vi x1, vi x2]) (QR D G base (some (vi rv)) (inr rv) h') rm_X6_mark.cells rm_X6_mark.slots (Ab base) := by
  refine Met.ofW (cc := cX6_mark) (maxL := 4) (ret := (some .int)) (by decide) rfl ?_
  intro p e s m args below meth c s₁ B hml hv
  obtain ⟨hargs, hE, hM⟩ := hv
  have hx := B.exec
  have hb := B.bytes
  have hr := B.returns
  have hts0 := atoms_spec (ws := w_X6_mark) B.pre
  have hts : ∀ w ∈ BW, w.before args s = true := fun w hw => hts0 w (List.mem_cons_of_mem _ hw)
  have hown : s.vm.findClass RX6 = some m.cls := findClass_of_methodNamed B.named
  have hlocks := B.notSynchronized
  have j14 : ∀ (h : Hp) (x0 x1 x2 s0 s1 : Int) (H : Heap) (locs : List Loc) (ls : Array Slot), inr x1 → inr x2 → inr s1 → SM D G base h H → va_S (Ab base) s.heap H locs → lvh ls 4 [(0, vr x0), (1, vi x1), (2, vi x2)] → f_X6_mark_j14 h x0 x1 x2 s0 s1 = some (rv, h') → W p l e (headSpec w_X6_mark rm_X6_mark).room s m args below meth c H locs 0 0 (QI D G base rv h' below args s 0 0) (F0 m 14 ls [vi s1, vr s0]) := by
    intro h x0 x1 x2 s0 s1 H locs ls i_x1 i_x2 i_s1 hM hS hl hrun
    unfold f_X6_mark_j14 at hrun
    obtain ⟨u4, g4, hrun⟩ := bd hrun
    obtain ⟨r3, g3, hrun⟩ := bd hrun
    refine s_callV (n := 1) (rest := []) [vi s1] hx hb hml hown hts hE hM hS (c_X6_refused l D G base h r3.2 s0 s1 r3.1 i_s1 g3) kw_765 kw_762 kw_40 kw_764 kw_15 (by decide +kernel) ⟨Nat.le_of_ble_eq_true rfl, Nat.le_of_ble_eq_true rfl⟩ rfl rfl (by decide) g4 rfl hl.1.1 rfl (c8 c_0 (Nat.le_of_ble_eq_true rfl)) dX6_mark_14 ⟨Nat.le_of_ble_eq_true rfl, Nat.le_of_ble_eq_true rfl⟩ (fun H locs i_r3 hM hS => ?_)
    refine W.eq (g2 := F0 m 17 ls [vi r3.1]) rfl ?_
    refine s_if_eq (tgt := 22) hx hb dX6_mark_17 (by decide) i_r3 (fun cd => ?_) (fun cd => ?_)
    · replace hrun := it_pos cd hrun
      refine s_aload_n hx hb dX6_mark_22 rfl (la hl 0 rfl) ?_
      obtain ⟨v5, g5, hrun⟩ := bd hrun
      refine s_getfr hx hb hts kl_6 hown hE.1 hM (ci := 6) rfl (by decide) rfl (k := 20) (by decide) rfl (hts _ kw_688) g5 dX6_mark_23 ?_
      refine lv_iload_n hx hb dX6_mark_26 rfl (la hl 1 rfl) ?_
      refine lv_bipush (v := Int32.ofInt 8) hx hb dX6_mark_27 (by decide) ?_
      obtain ⟨v6, g6, hrun⟩ := bd hrun
      refine s_idiv hx hb i_x1 (by decide) g6 dX6_mark_29 ?_
      have i_v6 : inr v6 := inr_dv g6
      obtain ⟨v7, g7, hrun⟩ := bd hrun
      refine s_iald hx hb hE.1 hM i_v6 g7 dX6_mark_30 ?_
      have i_v7 : inr v7 := ald_i hM g7 (by decide) (by decide)
      refine t_istore_n (lv' := [(3, vi v7), (0, vr x0), (1, vi x1), (2, vi x2)]) hx hb dX6_mark_31 rfl hl (by decide) rfl (fun ls hl => ?_)
      refine s_aload_n hx hb dX6_mark_32 rfl (la hl 1 rfl) ?_
      obtain ⟨v8, g8, hrun⟩ := bd hrun
      refine s_getfr hx hb hts kl_6 hown hE.1 hM (ci := 6) rfl (by decide) rfl (k := 20) (by decide) rfl (hts _ kw_688) g8 dX6_mark_33 ?_
      refine lv_iload_n hx hb dX6_mark_36 rfl (la hl 2 rfl) ?_
      refine lv_bipush (v := Int32.ofInt 8) hx hb dX6_mark_37 (by decide) ?_
      obtain ⟨v9, g9, hrun⟩ := bd hrun
      refine s_idiv hx hb i_x1 (by decide) g9 dX6_mark_39 ?_
      have i_v9 : inr v9 := inr_dv g9
      refine lv_iload_n hx hb dX6_mark_40 rfl (la hl 3 rfl) ?_
      obtain ⟨h10, g10, hrun⟩ := bd hrun
      refine s_iast hx hb hE.1 hM hS i_v9 i_x2 g10 dX6_mark_41 (fun H locs hM hS => ?_)
      refine lv_iload_n hx hb dX6_mark_42 rfl (la hl 0 rfl) ?_
      exact s_iret hx hb hr hlocks hM hS i_v7 hrun (Nat.le_of_ble_eq_true rfl) (Nat.le_of_ble_eq_true rfl) dX6_mark_43
    · replace hrun := it_neg cd hrun
      refine lv_iconst (v := Int32.ofInt 0) hx hb dX6_mark_20 rfl ?_
      exact s_iret hx hb hr hlocks hM hS (by decide) hrun (Nat.le_of_ble_eq_true rfl) (Nat.le_of_ble_eq_true rfl) dX6_mark_21
  refine s_entry hargs hM (c_r (c_i (c_i c_0))) (Nat.le_of_ble_eq_true rfl) (fun H locs ls hM hS hl => ?_)
  replace hl : lvh ls 4 [(0, vr x0), (1, vi x1), (2, vi x2)] := hl
  unfold f_X6_mark at hrun
  refine s_aload_n hx hb dX6_mark_0 rfl (la hl 0 rfl) ?_
  refine s_aload_n hx hb dX6_mark_1 rfl (la hl 0 rfl) ?_
  refine lv_iload_n hx hb dX6_mark_2 rfl (la hl 1 rfl) ?_
  obtain ⟨u2, g2, hrun⟩ := bd hrun
  obtain ⟨r1, g1, hrun⟩ := bd hrun
  refine s_callV (n := 1) (rest := [vr x0]) [vi x1] hx hb hml hown hts hE hM hS (c_X6_isLive l D G base h r1.2 x0 x1 r1.1 i_x1 g1) kw_849 kw_846 kw_40 kw_848 kw_33 (by decide +kernel) ⟨Nat.le_of_ble_eq_true rfl, Nat.le_of_ble_eq_true rfl⟩ rfl rfl (by decide) g2 rfl hl.1.1 rfl (c8 (c_r c_0) (Nat.le_of_ble_eq_true rfl)) dX6_mark_3 ⟨Nat.le_of_ble_eq_true rfl, Nat.le_of_ble_eq_true rfl⟩ (fun H locs i_r1 hM hS => ?_)
  refine W.eq (g2 := F0 m 6 ls [vi r1.1, vr x0]) rfl ?_
  refine s_if_eq (tgt := 13) hx hb dX6_mark_6 (by decide) i_r1 (fun cd => ?_) (fun cd => ?_)
  · replace hrun := it_pos cd hrun
    refine lv_iconst (v := Int32.ofInt 1) hx hb dX6_mark_13 rfl ?_
    exact j14 r1.2 x0 x1 x2 x0 1 H locs ls i_x1 i_x2 (by decide) hM hS (lsub hl [0, 1, 2] rfl) hrun
  · replace hrun := it_neg cd hrun
    refine lv_iconst (v := Int32.ofInt 0) hx hb dX6_mark_9 rfl ?_
    refine lv_goto (tgt := 14) hx hb dX6_mark_10 (by decide) ?_
    exact j14 r1.2 x0 x1 x2 x0 0 H locs ls i_x1 i_x2 (by decide) hM hS (lsub hl [0, 1, 2] rfl) hrun
def f_X6_flush_s27 (k27 : Hp → Int → Int → Int → Int → Option (Int × Hp)) (h : Hp) (x0 x1 x2 x3 : Int) : Option (Int × Hp) :=
  Option.bind (gtf h 6 3 x0) fun v4 =>
  if v4 ≤ x3 then (
    some (x2, h)
  ) else (
    Option.bind (ckd h 6 x0) fun u6 =>
    Option.bind (f_X6_emptyHeld h x0 (wr (2 * (wr ((wr (8 * x1)) + x3))))) fun r5 =>
    Option.bind (ckd r5.2 6 x0) fun u8 =>
    Option.bind (f_X6_emptyHeld r5.2 x0 (wr ((wr (2 * (wr ((wr (8 * x1)) + x3)))) + 1))) fun r7 =>
    k27 r7.2 x0 x1 (wr ((wr (x2 + r5.1)) + r7.1)) (wr (x3 + 1))
  )
def f_X6_flush_b27 : Nat → Hp → Int → Int → Int → Int → Option (Int × Hp)
  | 0, _, _, _, _, _ => none
  | n + 1, h, x0, x1, x2, x3 => f_X6_flush_s27 (f_X6_flush_b27 n) h x0 x1 x2 x3
def f_X6_flush_j15 (h : Hp) (x0 x1 s0 s1 : Int) : Option (Int × Hp) :=
  Option.bind (ckd h 6 s0) fun u3 =>
  Option.bind (f_X6_refused h s0 s1) fun r2 =>
  if r2.1 = 0 then (
    f_X6_flush_b27 fuel r2.2 x0 x1 0 0
  ) else (
    some (0, r2.2)
  )
def f_X6_flush (h : Hp) (x0 x1 : Int) : Option (Int × Hp) :=
  Option.bind (f_X6_isIn h x1 0 3) fun r1 =>
  if r1.1 = 0 then (
    f_X6_flush_j15 r1.2 x0 x1 x0 1
  ) else (
    f_X6_flush_j15 r1.2 x0 x1 x0 0
  )
abbrev w_X6_flush : List Cond := Cond.code yX6_flush cX6_flush 5 (some .int) :: BW
abbrev rm_X6_flush : Room := { frames := 4, cells := 0, slots := 0, locals := 95 }
set_option maxHeartbeats 4000000 in
set_option maxRecDepth 100000 in
theorem c_X6_flush (l : Launch) (D : va_G) (G : Nat → ClassId) (base : Nat) (h h' : Hp) (x0 x1 : Int) (rv : Int) (i_x1 : inr x1) (hrun : f_X6_flush h x0 x1 = some (rv, h')) : Met l yX6_flush w_X6_flush rm_X6_flush (PC l D G base h [vr x0, vi x1]) (QR D G base (some (vi rv)) (inr rv) h') rm_X6_flush.cells rm_X6_flush.slots (Ab base) := by
  refine Met.ofW (cc := cX6_flush) (maxL := 5) (ret := (some .int)) (by decide) rfl ?_
  intro p e s m args below meth c s₁ B hml hv
  obtain ⟨hargs, hE, hM⟩ := hv
  have hx := B.exec
  have hb := B.bytes
  have hr := B.returns
  have hts0 := atoms_spec (ws := w_X6_flush) B.pre
  have hts : ∀ w ∈ BW, w.before args s = true := fun w hw => hts0 w (List.mem_cons_of_mem _ hw)
  have hown : s.vm.findClass RX6 = some m.cls := findClass_of_methodNamed B.named
  have hlocks := B.notSynchronized
  have lp27 : ∀ (n27 : Nat) (h : Hp) (x0 x1 x2 x3 : Int) (H : Heap) (locs : List Loc) (ls : Array Slot), inr x1 → inr x2 → inr x3 → SM D G base h H → va_S (Ab base) s.heap H locs → lvh ls 5 [(0, vr x0), (1, vi x1), (2, vi x2), (3, vi x3)] → f_X6_flush_b27 n27 h x0 x1 x2 x3 = some (rv, h') → W p l e (headSpec w_X6_flush rm_X6_flush).room s m args below meth c H locs 0 0 (QI D G base rv h' below args s 0 0) (F0 m 27 ls []) := by
    intro n27
    induction n27 with
    | zero => intro h x0 x1 x2 x3 H locs ls i_x1 i_x2 i_x3 hM hS hl hrun; exact absurd hrun (fun q => nomatch (show (none : Option (Int × Hp)) = some (rv, h') from q))
    | succ n27 ih27 =>
      intro h x0 x1 x2 x3 H locs ls i_x1 i_x2 i_x3 hM hS hl hrun
      replace hrun : f_X6_flush_s27 (f_X6_flush_b27 n27) h x0 x1 x2 x3 = some (rv, h') := hrun
      unfold f_X6_flush_s27 at hrun
      refine lv_iload_n hx hb dX6_flush_27 rfl (la hl 3 rfl) ?_
      refine s_aload_n hx hb dX6_flush_28 rfl (la hl 0 rfl) ?_
      obtain ⟨v4, g4, hrun⟩ := bd hrun
      refine s_getfi hx hb hts kl_6 hown hE.1 hM (ci := 6) rfl (by decide) rfl (k := 3) (by decide) rfl (hts _ kw_671) g4 dX6_flush_29 ?_
      have i_v4 : inr v4 := gtf_i hM g4 (by decide) rfl
      refine s_icmp_ge (tgt := 71) hx hb dX6_flush_32 (by decide) i_x3 i_v4 (fun cd => ?_) (fun cd => ?_)
      · replace hrun := it_pos cd hrun
        refine lv_iload_n hx hb dX6_flush_71 rfl (la hl 2 rfl) ?_
        exact s_iret hx hb hr hlocks hM hS i_x2 hrun (Nat.le_of_ble_eq_true rfl) (Nat.le_of_ble_eq_true rfl) dX6_flush_72
      · replace hrun := it_neg cd hrun
        refine lv_iconst (v := Int32.ofInt 2) hx hb dX6_flush_35 rfl ?_
        refine lv_bipush (v := Int32.ofInt 8) hx hb dX6_flush_36 (by decide) ?_
        refine lv_iload_n hx hb dX6_flush_38 rfl (la hl 1 rfl) ?_
        refine s_imul hx hb dX6_flush_39 ?_
        refine lv_iload_n hx hb dX6_flush_40 rfl (la hl 3 rfl) ?_
        refine s_iadd hx hb dX6_flush_41 ?_
        refine s_imul hx hb dX6_flush_42 ?_
        refine t_istore (lv' := [(4, vi (wr (2 * (wr ((wr (8 * x1)) + x3))))), (0, vr x0), (1, vi x1), (2, vi x2), (3, vi x3)]) hx hb dX6_flush_43 hl (by decide) rfl (fun ls hl => ?_)
        refine lv_iload_n hx hb dX6_flush_45 rfl (la hl 3 rfl) ?_
        refine s_aload_n hx hb dX6_flush_46 rfl (la hl 1 rfl) ?_
        refine lv_iload hx hb dX6_flush_47 (la hl 0 rfl) ?_
        obtain ⟨u6, g6, hrun⟩ := bd hrun
        obtain ⟨r5, g5, hrun⟩ := bd hrun
        refine s_callV (n := 1) (rest := [vi x2]) [vi (wr (2 * (wr ((wr (8 * x1)) + x3))))] hx hb hml hown hts hE hM hS (c_X6_emptyHeld l D G base h r5.2 x0 (wr (2 * (wr ((wr (8 * x1)) + x3)))) r5.1 (inr_wr _) g5) kw_781 kw_778 kw_40 kw_780 kw_18 (by decide +kernel) ⟨Nat.le_of_ble_eq_true rfl, Nat.le_of_ble_eq_true rfl⟩ rfl rfl (by decide) g6 rfl hl.1.1 rfl (c8 (c_i c_0) (Nat.le_of_ble_eq_true rfl)) dX6_flush_49 ⟨Nat.le_of_ble_eq_true rfl, Nat.le_of_ble_eq_true rfl⟩ (fun H locs i_r5 hM hS => ?_)
        refine W.eq (g2 := F0 m 52 ls [vi r5.1, vi x2]) rfl ?_
        refine s_iadd hx hb dX6_flush_52 ?_
        refine t_istore_n (lv' := [(2, vi (wr (x2 + r5.1))), (4, vi (wr (2 * (wr ((wr (8 * x1)) + x3))))), (0, vr x0), (1, vi x1), (3, vi x3)]) hx hb dX6_flush_53 rfl hl (by decide) rfl (fun ls hl => ?_)
        refine lv_iload_n hx hb dX6_flush_54 rfl (la hl 0 rfl) ?_
        refine s_aload_n hx hb dX6_flush_55 rfl (la hl 2 rfl) ?_
        refine lv_iload hx hb dX6_flush_56 (la hl 1 rfl) ?_
        refine lv_iconst (v := Int32.ofInt 1) hx hb dX6_flush_58 rfl ?_
        refine s_iadd hx hb dX6_flush_59 ?_
        obtain ⟨u8, g8, hrun⟩ := bd hrun
        obtain ⟨r7, g7, hrun⟩ := bd hrun
        refine s_callV (n := 1) (rest := [vi (wr (x2 + r5.1))]) [vi (wr ((wr (2 * (wr ((wr (8 * x1)) + x3)))) + 1))] hx hb hml hown hts hE hM hS (c_X6_emptyHeld l D G base r5.2 r7.2 x0 (wr ((wr (2 * (wr ((wr (8 * x1)) + x3)))) + 1)) r7.1 (inr_wr _) g7) kw_781 kw_778 kw_40 kw_780 kw_18 (by decide +kernel) ⟨Nat.le_of_ble_eq_true rfl, Nat.le_of_ble_eq_true rfl⟩ rfl rfl (by decide) g8 rfl hl.1.1 rfl (c8 (c_i c_0) (Nat.le_of_ble_eq_true rfl)) dX6_flush_60 ⟨Nat.le_of_ble_eq_true rfl, Nat.le_of_ble_eq_true rfl⟩ (fun H locs i_r7 hM hS => ?_)
        refine W.eq (g2 := F0 m 63 ls [vi r7.1, vi (wr (x2 + r5.1))]) rfl ?_
        refine s_iadd hx hb dX6_flush_63 ?_
        refine t_istore_n (lv' := [(2, vi (wr ((wr (x2 + r5.1)) + r7.1))), (4, vi (wr (2 * (wr ((wr (8 * x1)) + x3))))), (0, vr x0), (1, vi x1), (3, vi x3)]) hx hb dX6_flush_64 rfl hl (by decide) rfl (fun ls hl => ?_)
        refine t_iinc (lv' := [(3, vi (wr (x3 + 1))), (2, vi (wr ((wr (x2 + r5.1)) + r7.1))), (4, vi (wr (2 * (wr ((wr (8 * x1)) + x3))))), (0, vr x0), (1, vi x1)]) hx hb dX6_flush_65 hl (k := 4) rfl (by decide) rfl rfl (fun ls hl => ?_)
        refine lv_goto (tgt := 27) hx hb dX6_flush_68 (by decide) ?_
        exact ih27 r7.2 x0 x1 (wr ((wr (x2 + r5.1)) + r7.1)) (wr (x3 + 1)) H locs ls i_x1 (inr_wr _) (inr_wr _) hM hS (lsub hl [3, 4, 1, 0] rfl) hrun
  have j15 : ∀ (h : Hp) (x0 x1 s0 s1 : Int) (H : Heap) (locs : List Loc) (ls : Array Slot), inr x1 → inr s1 → SM D G base h H → va_S (Ab base) s.heap H locs → lvh ls 5 [(0, vr x0), (1, vi x1)] → f_X6_flush_j15 h x0 x1 s0 s1 = some (rv, h') → W p l e (headSpec w_X6_flush rm_X6_flush).room s m args below meth c H locs 0 0 (QI D G base rv h' below args s 0 0) (F0 m 15 ls [vi s1, vr s0]) := by
    intro h x0 x1 s0 s1 H locs ls i_x1 i_s1 hM hS hl hrun
    unfold f_X6_flush_j15 at hrun
    obtain ⟨u3, g3, hrun⟩ := bd hrun
    obtain ⟨r2, g2, hrun⟩ := bd hrun
    refine s_callV (n := 1) (rest := []) [vi s1] hx hb hml hown hts hE hM hS (c_X6_refused l D G base h r2.2 s0 s1 r2.1 i_s1 g2) kw_765 kw_762 kw_40 kw_764 kw_15 (by decide +kernel) ⟨Nat.le_of_ble_eq_true rfl, Nat.le_of_ble_eq_true rfl⟩ rfl rfl (by decide) g3 rfl hl.1.1 rfl (c8 c_0 (Nat.le_of_ble_eq_true rfl)) dX6_flush_15 ⟨Nat.le_of_ble_eq_true rfl, Nat.le_of_ble_eq_true rfl⟩ (fun H locs i_r2 hM hS => ?_)
    refine W.eq (g2 := F0 m 18 ls [vi r2.1]) rfl ?_
    refine s_if_eq (tgt := 23) hx hb dX6_flush_18 (by decide) i_r2 (fun cd => ?_) (fun cd => ?_)
    · replace hrun := it_pos cd hrun
      refine lv_iconst (v := Int32.ofInt 0) hx hb dX6_flush_23 rfl ?_
      refine t_istore_n (lv' := [(2, vi 0), (0, vr x0), (1, vi x1)]) hx hb dX6_flush_24 rfl hl (by decide) rfl (fun ls hl => ?_)
      refine lv_iconst (v := Int32.ofInt 0) hx hb dX6_flush_25 rfl ?_
      refine t_istore_n (lv' := [(3, vi 0), (2, vi 0), (0, vr x0), (1, vi x1)]) hx hb dX6_flush_26 rfl hl (by decide) rfl (fun ls hl => ?_)
      exact lp27 fuel r2.2 x0 x1 0 0 H locs ls i_x1 (by decide) (by decide) hM hS (lsub hl [2, 3, 1, 0] rfl) hrun
    · replace hrun := it_neg cd hrun
      refine lv_iconst (v := Int32.ofInt 0) hx hb dX6_flush_21 rfl ?_
      exact s_iret hx hb hr hlocks hM hS (by decide) hrun (Nat.le_of_ble_eq_true rfl) (Nat.le_of_ble_eq_true rfl) dX6_flush_22
  refine s_entry hargs hM (c_r (c_i c_0)) (Nat.le_of_ble_eq_true rfl) (fun H locs ls hM hS hl => ?_)
  replace hl : lvh ls 5 [(0, vr x0), (1, vi x1)] := hl
  unfold f_X6_flush at hrun
  refine s_aload_n hx hb dX6_flush_0 rfl (la hl 0 rfl) ?_
  refine lv_iload_n hx hb dX6_flush_1 rfl (la hl 1 rfl) ?_
  refine lv_iconst (v := Int32.ofInt 0) hx hb dX6_flush_2 rfl ?_
  refine lv_iconst (v := Int32.ofInt 3) hx hb dX6_flush_3 rfl ?_
  obtain ⟨r1, g1, hrun⟩ := bd hrun
  refine s_callS (n := 3) (rest := [vr x0]) [vi x1, vi 0, vi 3] hx hb hml hown hts hE hM hS (c_X6_isIn l D G base h r1.2 x1 0 3 r1.1 i_x1 (by decide) (by decide) g1) kw_761 kw_759 kw_40 kw_760 (by decide +kernel) ⟨Nat.le_of_ble_eq_true rfl, Nat.le_of_ble_eq_true rfl⟩ rfl hl.1.1 rfl (c8 (c_r c_0) (Nat.le_of_ble_eq_true rfl)) dX6_flush_4 ⟨Nat.le_of_ble_eq_true rfl, Nat.le_of_ble_eq_true rfl⟩ (fun H locs i_r1 hM hS => ?_)
  refine W.eq (g2 := F0 m 7 ls [vi r1.1, vr x0]) rfl ?_
  refine s_if_eq (tgt := 14) hx hb dX6_flush_7 (by decide) i_r1 (fun cd => ?_) (fun cd => ?_)
  · replace hrun := it_pos cd hrun
    refine lv_iconst (v := Int32.ofInt 1) hx hb dX6_flush_14 rfl ?_
    exact j15 r1.2 x0 x1 x0 1 H locs ls i_x1 (by decide) hM hS (lsub hl [0, 1] rfl) hrun
  · replace hrun := it_neg cd hrun
    refine lv_iconst (v := Int32.ofInt 0) hx hb dX6_flush_10 rfl ?_
    refine lv_goto (tgt := 15) hx hb dX6_flush_11 (by decide) ?_
    exact j15 r1.2 x0 x1 x0 0 H locs ls i_x1 (by decide) hM hS (lsub hl [0, 1] rfl) hrun
def f_X6_empty_j29 (h : Hp) (s0 : Int) : Option (Int × Hp) :=
  some (s0, h)
def f_X6_empty_j14 (h : Hp) (x0 x1 s0 s1 : Int) : Option (Int × Hp) :=
  Option.bind (ckd h 6 s0) fun u4 =>
  Option.bind (f_X6_refused h s0 s1) fun r3 =>
  if r3.1 = 0 then (
    Option.bind (ckd r3.2 6 x0) fun u6 =>
    Option.bind (f_X6_emptyDepot r3.2 x0 x1) fun r5 =>
    f_X6_empty_j29 r5.2 r5.1
  ) else (
    f_X6_empty_j29 r3.2 0
  )
def f_X6_empty (h : Hp) (x0 x1 : Int) : Option (Int × Hp) :=
  Option.bind (ckd h 6 x0) fun u2 =>
  Option.bind (f_X6_isCache h x0 x1) fun r1 =>
  if r1.1 = 0 then (
    f_X6_empty_j14 r1.2 x0 x1 x0 1
  ) else (
    f_X6_empty_j14 r1.2 x0 x1 x0 0
  )
abbrev w_X6_empty : List Cond := Cond.code yX6_empty cX6_empty 2 (some .int) :: BW
abbrev rm_X6_empty : Room := { frames := 4, cells := 0, slots := 0, locals := 95 }
set_option maxHeartbeats 4000000 in
set_option maxRecDepth 100000 in
theorem c_X6_empty (l : Launch) (D : va_G) (G : Nat → ClassId) (base : Nat) (h h' : Hp) (x0 x1 : Int) (rv : Int) (i_x1 : inr x1) (hrun : f_X6_empty h x0 x1 = some (rv, h')) : Met l yX6_empty w_X6_empty rm_X6_empty (PC l D G base h [vr x0, vi x1]) (QR D G base (some (vi rv)) (inr rv) h') rm_X6_empty.cells rm_X6_empty.slots (Ab base) := by
  refine Met.ofW (cc := cX6_empty) (maxL := 2) (ret := (some .int)) (by decide) rfl ?_
  intro p e s m args below meth c s₁ B hml hv
  obtain ⟨hargs, hE, hM⟩ := hv
  have hx := B.exec
  have hb := B.bytes
  have hr := B.returns
  have hts0 := atoms_spec (ws := w_X6_empty) B.pre
  have hts : ∀ w ∈ BW, w.before args s = true := fun w hw => hts0 w (List.mem_cons_of_mem _ hw)
  have hown : s.vm.findClass RX6 = some m.cls := findClass_of_methodNamed B.named
  have hlocks := B.notSynchronized
  have j29 : ∀ (h : Hp) (s0 : Int) (H : Heap) (locs : List Loc) (ls : Array Slot), inr s0 → SM D G base h H → va_S (Ab base) s.heap H locs → lvh ls 2 [] → f_X6_empty_j29 h s0 = some (rv, h') → W p l e (headSpec w_X6_empty rm_X6_empty).room s m args below meth c H locs 0 0 (QI D G base rv h' below args s 0 0) (F0 m 29 ls [vi s0]) := by
    intro h s0 H locs ls i_s0 hM hS hl hrun
    unfold f_X6_empty_j29 at hrun
    exact s_iret hx hb hr hlocks hM hS i_s0 hrun (Nat.le_of_ble_eq_true rfl) (Nat.le_of_ble_eq_true rfl) dX6_empty_29
  have j14 : ∀ (h : Hp) (x0 x1 s0 s1 : Int) (H : Heap) (locs : List Loc) (ls : Array Slot), inr x1 → inr s1 → SM D G base h H → va_S (Ab base) s.heap H locs → lvh ls 2 [(0, vr x0), (1, vi x1)] → f_X6_empty_j14 h x0 x1 s0 s1 = some (rv, h') → W p l e (headSpec w_X6_empty rm_X6_empty).room s m args below meth c H locs 0 0 (QI D G base rv h' below args s 0 0) (F0 m 14 ls [vi s1, vr s0]) := by
    intro h x0 x1 s0 s1 H locs ls i_x1 i_s1 hM hS hl hrun
    unfold f_X6_empty_j14 at hrun
    obtain ⟨u4, g4, hrun⟩ := bd hrun
    obtain ⟨r3, g3, hrun⟩ := bd hrun
    refine s_callV (n := 1) (rest := []) [vi s1] hx hb hml hown hts hE hM hS (c_X6_refused l D G base h r3.2 s0 s1 r3.1 i_s1 g3) kw_765 kw_762 kw_40 kw_764 kw_15 (by decide +kernel) ⟨Nat.le_of_ble_eq_true rfl, Nat.le_of_ble_eq_true rfl⟩ rfl rfl (by decide) g4 rfl hl.1.1 rfl (c8 c_0 (Nat.le_of_ble_eq_true rfl)) dX6_empty_14 ⟨Nat.le_of_ble_eq_true rfl, Nat.le_of_ble_eq_true rfl⟩ (fun H locs i_r3 hM hS => ?_)
    refine W.eq (g2 := F0 m 17 ls [vi r3.1]) rfl ?_
    refine s_if_eq (tgt := 24) hx hb dX6_empty_17 (by decide) i_r3 (fun cd => ?_) (fun cd => ?_)
    · replace hrun := it_pos cd hrun
      refine s_aload_n hx hb dX6_empty_24 rfl (la hl 0 rfl) ?_
      refine lv_iload_n hx hb dX6_empty_25 rfl (la hl 1 rfl) ?_
      obtain ⟨u6, g6, hrun⟩ := bd hrun
      obtain ⟨r5, g5, hrun⟩ := bd hrun
      refine s_callV (n := 1) (rest := []) [vi x1] hx hb hml hown hts hE hM hS (c_X6_emptyDepot l D G base r3.2 r5.2 x0 x1 r5.1 i_x1 g5) kw_805 kw_802 kw_40 kw_804 kw_24 (by decide +kernel) ⟨Nat.le_of_ble_eq_true rfl, Nat.le_of_ble_eq_true rfl⟩ rfl rfl (by decide) g6 rfl hl.1.1 rfl (c8 c_0 (Nat.le_of_ble_eq_true rfl)) dX6_empty_26 ⟨Nat.le_of_ble_eq_true rfl, Nat.le_of_ble_eq_true rfl⟩ (fun H locs i_r5 hM hS => ?_)
      refine W.eq (g2 := F0 m 29 ls [vi r5.1]) rfl ?_
      exact j29 r5.2 r5.1 H locs ls i_r5 hM hS (lsub hl [] rfl) hrun
    · replace hrun := it_neg cd hrun
      refine lv_iconst (v := Int32.ofInt 0) hx hb dX6_empty_20 rfl ?_
      refine lv_goto (tgt := 29) hx hb dX6_empty_21 (by decide) ?_
      exact j29 r3.2 0 H locs ls (by decide) hM hS (lsub hl [] rfl) hrun
  refine s_entry hargs hM (c_r (c_i c_0)) (Nat.le_of_ble_eq_true rfl) (fun H locs ls hM hS hl => ?_)
  replace hl : lvh ls 2 [(0, vr x0), (1, vi x1)] := hl
  unfold f_X6_empty at hrun
  refine s_aload_n hx hb dX6_empty_0 rfl (la hl 0 rfl) ?_
  refine s_aload_n hx hb dX6_empty_1 rfl (la hl 0 rfl) ?_
  refine lv_iload_n hx hb dX6_empty_2 rfl (la hl 1 rfl) ?_
  obtain ⟨u2, g2, hrun⟩ := bd hrun
  obtain ⟨r1, g1, hrun⟩ := bd hrun
  refine s_callV (n := 1) (rest := [vr x0]) [vi x1] hx hb hml hown hts hE hM hS (c_X6_isCache l D G base h r1.2 x0 x1 r1.1 i_x1 g1) kw_773 kw_770 kw_40 kw_772 kw_16 (by decide +kernel) ⟨Nat.le_of_ble_eq_true rfl, Nat.le_of_ble_eq_true rfl⟩ rfl rfl (by decide) g2 rfl hl.1.1 rfl (c8 (c_r c_0) (Nat.le_of_ble_eq_true rfl)) dX6_empty_3 ⟨Nat.le_of_ble_eq_true rfl, Nat.le_of_ble_eq_true rfl⟩ (fun H locs i_r1 hM hS => ?_)
  refine W.eq (g2 := F0 m 6 ls [vi r1.1, vr x0]) rfl ?_
  refine s_if_eq (tgt := 13) hx hb dX6_empty_6 (by decide) i_r1 (fun cd => ?_) (fun cd => ?_)
  · replace hrun := it_pos cd hrun
    refine lv_iconst (v := Int32.ofInt 1) hx hb dX6_empty_13 rfl ?_
    exact j14 r1.2 x0 x1 x0 1 H locs ls i_x1 (by decide) hM hS (lsub hl [0, 1] rfl) hrun
  · replace hrun := it_neg cd hrun
    refine lv_iconst (v := Int32.ofInt 0) hx hb dX6_empty_9 rfl ?_
    refine lv_goto (tgt := 14) hx hb dX6_empty_10 (by decide) ?_
    exact j14 r1.2 x0 x1 x0 0 H locs ls i_x1 (by decide) hM hS (lsub hl [0, 1] rfl) hrun
def f_X6_reap (h : Hp) (x0 : Int) : Option (Int × Hp) :=
  Option.bind (ptf h 6 0 x0 0) fun h1 =>
  Option.bind (ckd h1 6 x0) fun u3 =>
  Option.bind (f_X6_reapAll h1 x0) fun r2 =>
  some (r2.1, r2.2)
abbrev w_X6_reap : List Cond := Cond.code yX6_reap cX6_reap 1 (some .int) :: BW
abbrev rm_X6_reap : Room := { frames := 3, cells := 0, slots := 0, locals := 71 }
set_option maxHeartbeats 4000000 in
set_option maxRecDepth 100000 in
theorem c_X6_reap (l : Launch) (D : va_G) (G : Nat → ClassId) (base : Nat) (h h' : Hp) (x0 : Int) (rv : Int) (hrun : f_X6_reap h x0 = some (rv, h')) : Met l yX6_reap w_X6_reap rm_X6_reap (PC l D G base h [vr x0]) (QR D G base (some (vi rv)) (inr rv) h') rm_X6_reap.cells rm_X6_reap.slots (Ab base) := by
  refine Met.ofW (cc := cX6_reap) (maxL := 1) (ret := (some .int)) (by decide) rfl ?_
  intro p e s m args below meth c s₁ B hml hv
  obtain ⟨hargs, hE, hM⟩ := hv
  have hx := B.exec
  have hb := B.bytes
  have hr := B.returns
  have hts0 := atoms_spec (ws := w_X6_reap) B.pre
  have hts : ∀ w ∈ BW, w.before args s = true := fun w hw => hts0 w (List.mem_cons_of_mem _ hw)
  have hown : s.vm.findClass RX6 = some m.cls := findClass_of_methodNamed B.named
  have hlocks := B.notSynchronized
  refine s_entry hargs hM (c_r c_0) (Nat.le_of_ble_eq_true rfl) (fun H locs ls hM hS hl => ?_)
  replace hl : lvh ls 1 [(0, vr x0)] := hl
  unfold f_X6_reap at hrun
  refine s_aload_n hx hb dX6_reap_0 rfl (la hl 0 rfl) ?_
  refine lv_iconst (v := Int32.ofInt 0) hx hb dX6_reap_1 rfl ?_
  obtain ⟨h1, g1, hrun⟩ := bd hrun
  refine s_put (b := false) hx hb hts kl_6 tyX6 tyX6_ok nmX6 hown hE.1 hM hS (ci := 6) rfl (by decide) rfl (k := 0) (by decide) rfl (hts _ kw_668) rfl (vp_nar_int _) rfl (fun _ => (by decide)) g1 dX6_reap_2 (fun H locs hM hS => ?_)
  refine s_aload_n hx hb dX6_reap_5 rfl (la hl 0 rfl) ?_
  obtain ⟨u3, g3, hrun⟩ := bd hrun
  obtain ⟨r2, g2, hrun⟩ := bd hrun
  refine s_callV (n := 0) (rest := []) [] hx hb hml hown hts hE hM hS (c_X6_reapAll l D G base h1 r2.2 x0 r2.1 g2) kw_841 kw_838 kw_40 kw_840 kw_32 (by decide +kernel) ⟨Nat.le_of_ble_eq_true rfl, Nat.le_of_ble_eq_true rfl⟩ rfl rfl (by decide) g3 rfl hl.1.1 rfl (c8 c_0 (Nat.le_of_ble_eq_true rfl)) dX6_reap_6 ⟨Nat.le_of_ble_eq_true rfl, Nat.le_of_ble_eq_true rfl⟩ (fun H locs i_r2 hM hS => ?_)
  refine W.eq (g2 := F0 m 9 ls [vi r2.1]) rfl ?_
  exact s_iret hx hb hr hlocks hM hS i_r2 hrun (Nat.le_of_ble_eq_true rfl) (Nat.le_of_ble_eq_true rfl) dX6_reap_9
