section
variable {p : Program} {l : Launch} {e : Env} {R : Room} {s : State} {m : MethodId} {args : Array Value} {below : List Frame} {meth : Method} {c : Code} {H : Heap} {locs : List Loc} {cells slots : Nat} {Q : State → Prop}
variable {cc : ByteArray} {pc : Nat} {ls : Array Slot} {rest : List Value} {D : va_G} {G : Nat → ClassId} {base : Nat} {h h' : Hp} {H0 : Heap}
theorem s_iadd (hx : p.tables.exec = Jvm.exec) (hb : c.code = cc) {x y : Int} (hdg : decode cc pc = .ok (.iadd, 1)) (k : W p l e R s m args below meth c H locs cells slots Q (F0 m (pc + 1) ls (vi (wr (x + y)) :: rest))) : W p l e R s m args below meth c H locs cells slots Q (F0 m pc ls (vi y :: vi x :: rest)) := by
  refine lv_iadd hx hb hdg ?_
  have e1 : Int32.ofInt x + Int32.ofInt y = Int32.ofInt (wr (x + y)) := by rw [ofI_wr, Int32.ofInt_add]
  rw [e1]; exact k
theorem s_isub (hx : p.tables.exec = Jvm.exec) (hb : c.code = cc) {x y : Int} (hdg : decode cc pc = .ok (.isub, 1)) (k : W p l e R s m args below meth c H locs cells slots Q (F0 m (pc + 1) ls (vi (wr (x - y)) :: rest))) : W p l e R s m args below meth c H locs cells slots Q (F0 m pc ls (vi y :: vi x :: rest)) := by
  refine lv_isub hx hb hdg ?_
  have e1 : Int32.ofInt x - Int32.ofInt y = Int32.ofInt (wr (x - y)) := by rw [ofI_wr, Int32.ofInt_sub]
  rw [e1]; exact k
theorem s_imul (hx : p.tables.exec = Jvm.exec) (hb : c.code = cc) {x y : Int} (hdg : decode cc pc = .ok (.imul, 1)) (k : W p l e R s m args below meth c H locs cells slots Q (F0 m (pc + 1) ls (vi (wr (x * y)) :: rest))) : W p l e R s m args below meth c H locs cells slots Q (F0 m pc ls (vi y :: vi x :: rest)) := by
  refine lv_imul hx hb hdg ?_
  have e1 : Int32.ofInt x * Int32.ofInt y = Int32.ofInt (wr (x * y)) := by rw [ofI_wr, Int32.ofInt_mul]
  rw [e1]; exact k
theorem s_ineg (hx : p.tables.exec = Jvm.exec) (hb : c.code = cc) {x : Int} (hdg : decode cc pc = .ok (.ineg, 1)) (k : W p l e R s m args below meth c H locs cells slots Q (F0 m (pc + 1) ls (vi (wr (-x)) :: rest))) : W p l e R s m args below meth c H locs cells slots Q (F0 m pc ls (vi x :: rest)) := by
  refine lv_ineg hx hb hdg ?_
  have e1 : -Int32.ofInt x = Int32.ofInt (wr (-x)) := by rw [ofI_wr, Int32.ofInt_neg]
  rw [e1]; exact k
theorem s_ishl (hx : p.tables.exec = Jvm.exec) (hb : c.code = cc) {x y : Int} (hdg : decode cc pc = .ok (.ishl, 1)) (k : W p l e R s m args below meth c H locs cells slots Q (F0 m (pc + 1) ls (vi (ish x y) :: rest))) : W p l e R s m args below meth c H locs cells slots Q (F0 m pc ls (vi y :: vi x :: rest)) := by
  refine lv_ishl hx hb hdg ?_
  have e1 : Int32.ofInt x <<< (Int32.ofInt y &&& 31) = Int32.ofInt (ish x y) := (Int32.ofInt_toInt _).symm
  rw [e1]; exact k
theorem s_iand (hx : p.tables.exec = Jvm.exec) (hb : c.code = cc) {x y : Int} (hdg : decode cc pc = .ok (.iand, 1)) (k : W p l e R s m args below meth c H locs cells slots Q (F0 m (pc + 1) ls (vi (ian x y) :: rest))) : W p l e R s m args below meth c H locs cells slots Q (F0 m pc ls (vi y :: vi x :: rest)) := by
  refine lv_iand hx hb hdg ?_
  have e1 : Int32.ofInt x &&& Int32.ofInt y = Int32.ofInt (ian x y) := (Int32.ofInt_toInt _).symm
  rw [e1]; exact k
theorem s_ixor (hx : p.tables.exec = Jvm.exec) (hb : c.code = cc) {x y : Int} (hdg : decode cc pc = .ok (.ixor, 1)) (k : W p l e R s m args below meth c H locs cells slots Q (F0 m (pc + 1) ls (vi (ixr x y) :: rest))) : W p l e R s m args below meth c H locs cells slots Q (F0 m pc ls (vi y :: vi x :: rest)) := by
  refine lv_ixor hx hb hdg ?_
  have e1 : Int32.ofInt x ^^^ Int32.ofInt y = Int32.ofInt (ixr x y) := (Int32.ofInt_toInt _).symm
  rw [e1]; exact k
theorem s_idiv (hx : p.tables.exec = Jvm.exec) (hb : c.code = cc) {x y z : Int} (ix : inr x) (iy : inr y) (g : idv x y = some z) (hdg : decode cc pc = .ok (.idiv, 1)) (k : W p l e R s m args below meth c H locs cells slots Q (F0 m (pc + 1) ls (vi z :: rest))) : W p l e R s m args below meth c H locs cells slots Q (F0 m pc ls (vi y :: vi x :: rest)) := by
  unfold idv at g
  split at g
  · cases g
  · rename_i hy
    cases g
    refine lv_idiv hx hb hdg (fun q => hy ((ofI_inj iy i_0).mp q)) ?_
    have e1 : Int32.ofInt x / Int32.ofInt y = Int32.ofInt (wr (x.tdiv y)) := by
      rw [ofI_wr]
      exact (Int32.ofInt_tdiv (show Int32.minValue.toInt ≤ x from ix.1) (show x ≤ Int32.maxValue.toInt from ix.2) (show Int32.minValue.toInt ≤ y from iy.1) (show y ≤ Int32.maxValue.toInt from iy.2)).symm
    rw [e1]; exact k
theorem s_irem (hx : p.tables.exec = Jvm.exec) (hb : c.code = cc) {x y z : Int} (ix : inr x) (iy : inr y) (g : irm x y = some z) (hdg : decode cc pc = .ok (.irem, 1)) (k : W p l e R s m args below meth c H locs cells slots Q (F0 m (pc + 1) ls (vi z :: rest))) : W p l e R s m args below meth c H locs cells slots Q (F0 m pc ls (vi y :: vi x :: rest)) := by
  unfold irm at g
  split at g
  · cases g
  · rename_i hy
    cases g
    refine lv_irem hx hb hdg (fun q => hy ((ofI_inj iy i_0).mp q)) ?_
    have e1 : Int32.ofInt x - Int32.ofInt x / Int32.ofInt y * Int32.ofInt y = Int32.ofInt (x.tmod y) := by
      rw [Int.tmod_def, Int32.ofInt_sub, Int32.ofInt_mul, Int32.ofInt_tdiv (show Int32.minValue.toInt ≤ x from ix.1) (show x ≤ Int32.maxValue.toInt from ix.2) (show Int32.minValue.toInt ≤ y from iy.1) (show y ≤ Int32.maxValue.toInt from iy.2), Int32.mul_comm (Int32.ofInt y)]
    rw [e1]; exact k
/-! branches -/
theorem s_icmp_eq (hx : p.tables.exec = Jvm.exec) (hb : c.code = cc) {x y : Int} {off : Int} {tgt : Nat} (hdg : decode cc pc = .ok (.if_icmp .eq off, 3)) (ht : (pc : Int) + off = (tgt : Int)) (ix : inr x) (iy : inr y) (kt : x = y → W p l e R s m args below meth c H locs cells slots Q (F0 m tgt ls rest)) (kf : ¬ x = y → W p l e R s m args below meth c H locs cells slots Q (F0 m (pc + 3) ls rest)) : W p l e R s m args below meth c H locs cells slots Q (F0 m pc ls (vi y :: vi x :: rest)) :=
  lv_icmp_eq hx hb hdg ht (fun q => kt ((ofI_inj ix iy).mp q)) (fun q => kf (fun z => q ((ofI_inj ix iy).mpr z)))
theorem s_icmp_ne (hx : p.tables.exec = Jvm.exec) (hb : c.code = cc) {x y : Int} {off : Int} {tgt : Nat} (hdg : decode cc pc = .ok (.if_icmp .ne off, 3)) (ht : (pc : Int) + off = (tgt : Int)) (ix : inr x) (iy : inr y) (kt : x ≠ y → W p l e R s m args below meth c H locs cells slots Q (F0 m tgt ls rest)) (kf : ¬ x ≠ y → W p l e R s m args below meth c H locs cells slots Q (F0 m (pc + 3) ls rest)) : W p l e R s m args below meth c H locs cells slots Q (F0 m pc ls (vi y :: vi x :: rest)) := by
  refine lv_icmp_ne hx hb hdg ht (fun q => ?_) (fun q => ?_)
  · exact kt (fun z => absurd ((ofI_inj ix iy).mpr z) q)
  · exact kf (fun z => z (by first | exact (ofI_inj ix iy).mp q | exact (ofI_inj ix iy).mp (Classical.byContradiction q)))
theorem s_icmp_lt (hx : p.tables.exec = Jvm.exec) (hb : c.code = cc) {x y : Int} {off : Int} {tgt : Nat} (hdg : decode cc pc = .ok (.if_icmp .lt off, 3)) (ht : (pc : Int) + off = (tgt : Int)) (ix : inr x) (iy : inr y) (kt : x < y → W p l e R s m args below meth c H locs cells slots Q (F0 m tgt ls rest)) (kf : ¬ x < y → W p l e R s m args below meth c H locs cells slots Q (F0 m (pc + 3) ls rest)) : W p l e R s m args below meth c H locs cells slots Q (F0 m pc ls (vi y :: vi x :: rest)) :=
  lv_icmp_lt hx hb hdg ht (fun q => kt ((ofI_lt ix iy).mp q)) (fun q => kf (fun z => q ((ofI_lt ix iy).mpr z)))
theorem s_icmp_ge (hx : p.tables.exec = Jvm.exec) (hb : c.code = cc) {x y : Int} {off : Int} {tgt : Nat} (hdg : decode cc pc = .ok (.if_icmp .ge off, 3)) (ht : (pc : Int) + off = (tgt : Int)) (ix : inr x) (iy : inr y) (kt : y ≤ x → W p l e R s m args below meth c H locs cells slots Q (F0 m tgt ls rest)) (kf : ¬ y ≤ x → W p l e R s m args below meth c H locs cells slots Q (F0 m (pc + 3) ls rest)) : W p l e R s m args below meth c H locs cells slots Q (F0 m pc ls (vi y :: vi x :: rest)) :=
  lv_icmp_ge hx hb hdg ht (fun q => kt ((ofI_le iy ix).mp q)) (fun q => kf (fun z => q ((ofI_le iy ix).mpr z)))
theorem s_icmp_gt (hx : p.tables.exec = Jvm.exec) (hb : c.code = cc) {x y : Int} {off : Int} {tgt : Nat} (hdg : decode cc pc = .ok (.if_icmp .gt off, 3)) (ht : (pc : Int) + off = (tgt : Int)) (ix : inr x) (iy : inr y) (kt : y < x → W p l e R s m args below meth c H locs cells slots Q (F0 m tgt ls rest)) (kf : ¬ y < x → W p l e R s m args below meth c H locs cells slots Q (F0 m (pc + 3) ls rest)) : W p l e R s m args below meth c H locs cells slots Q (F0 m pc ls (vi y :: vi x :: rest)) :=
  lv_icmp_gt hx hb hdg ht (fun q => kt ((ofI_lt iy ix).mp q)) (fun q => kf (fun z => q ((ofI_lt iy ix).mpr z)))
theorem s_icmp_le (hx : p.tables.exec = Jvm.exec) (hb : c.code = cc) {x y : Int} {off : Int} {tgt : Nat} (hdg : decode cc pc = .ok (.if_icmp .le off, 3)) (ht : (pc : Int) + off = (tgt : Int)) (ix : inr x) (iy : inr y) (kt : x ≤ y → W p l e R s m args below meth c H locs cells slots Q (F0 m tgt ls rest)) (kf : ¬ x ≤ y → W p l e R s m args below meth c H locs cells slots Q (F0 m (pc + 3) ls rest)) : W p l e R s m args below meth c H locs cells slots Q (F0 m pc ls (vi y :: vi x :: rest)) :=
  lv_icmp_le hx hb hdg ht (fun q => kt ((ofI_le ix iy).mp q)) (fun q => kf (fun z => q ((ofI_le ix iy).mpr z)))
theorem s_if_eq (hx : p.tables.exec = Jvm.exec) (hb : c.code = cc) {x : Int} {off : Int} {tgt : Nat} (hdg : decode cc pc = .ok (.ifCond .eq off, 3)) (ht : (pc : Int) + off = (tgt : Int)) (ix : inr x) (kt : x = 0 → W p l e R s m args below meth c H locs cells slots Q (F0 m tgt ls rest)) (kf : ¬ x = 0 → W p l e R s m args below meth c H locs cells slots Q (F0 m (pc + 3) ls rest)) : W p l e R s m args below meth c H locs cells slots Q (F0 m pc ls (vi x :: rest)) :=
  lv_if_eq hx hb hdg ht (fun q => kt ((ofI_inj ix i_0).mp q)) (fun q => kf (fun z => q ((ofI_inj ix i_0).mpr z)))
theorem s_if_ne (hx : p.tables.exec = Jvm.exec) (hb : c.code = cc) {x : Int} {off : Int} {tgt : Nat} (hdg : decode cc pc = .ok (.ifCond .ne off, 3)) (ht : (pc : Int) + off = (tgt : Int)) (ix : inr x) (kt : x ≠ 0 → W p l e R s m args below meth c H locs cells slots Q (F0 m tgt ls rest)) (kf : ¬ x ≠ 0 → W p l e R s m args below meth c H locs cells slots Q (F0 m (pc + 3) ls rest)) : W p l e R s m args below meth c H locs cells slots Q (F0 m pc ls (vi x :: rest)) := by
  refine lv_if_ne hx hb hdg ht (fun q => ?_) (fun q => ?_)
  · exact kt (fun z => absurd ((ofI_inj ix i_0).mpr z) q)
  · exact kf (fun z => z (by first | exact (ofI_inj ix i_0).mp q | exact (ofI_inj ix i_0).mp (Classical.byContradiction q)))
theorem s_if_lt (hx : p.tables.exec = Jvm.exec) (hb : c.code = cc) {x : Int} {off : Int} {tgt : Nat} (hdg : decode cc pc = .ok (.ifCond .lt off, 3)) (ht : (pc : Int) + off = (tgt : Int)) (ix : inr x) (kt : x < 0 → W p l e R s m args below meth c H locs cells slots Q (F0 m tgt ls rest)) (kf : ¬ x < 0 → W p l e R s m args below meth c H locs cells slots Q (F0 m (pc + 3) ls rest)) : W p l e R s m args below meth c H locs cells slots Q (F0 m pc ls (vi x :: rest)) :=
  lv_if_lt hx hb hdg ht (fun q => kt ((ofI_lt ix i_0).mp q)) (fun q => kf (fun z => q ((ofI_lt ix i_0).mpr z)))
theorem s_if_ge (hx : p.tables.exec = Jvm.exec) (hb : c.code = cc) {x : Int} {off : Int} {tgt : Nat} (hdg : decode cc pc = .ok (.ifCond .ge off, 3)) (ht : (pc : Int) + off = (tgt : Int)) (ix : inr x) (kt : 0 ≤ x → W p l e R s m args below meth c H locs cells slots Q (F0 m tgt ls rest)) (kf : ¬ 0 ≤ x → W p l e R s m args below meth c H locs cells slots Q (F0 m (pc + 3) ls rest)) : W p l e R s m args below meth c H locs cells slots Q (F0 m pc ls (vi x :: rest)) :=
  lv_if_ge hx hb hdg ht (fun q => kt ((ofI_le i_0 ix).mp q)) (fun q => kf (fun z => q ((ofI_le i_0 ix).mpr z)))
theorem s_if_gt (hx : p.tables.exec = Jvm.exec) (hb : c.code = cc) {x : Int} {off : Int} {tgt : Nat} (hdg : decode cc pc = .ok (.ifCond .gt off, 3)) (ht : (pc : Int) + off = (tgt : Int)) (ix : inr x) (kt : 0 < x → W p l e R s m args below meth c H locs cells slots Q (F0 m tgt ls rest)) (kf : ¬ 0 < x → W p l e R s m args below meth c H locs cells slots Q (F0 m (pc + 3) ls rest)) : W p l e R s m args below meth c H locs cells slots Q (F0 m pc ls (vi x :: rest)) :=
  lv_if_gt hx hb hdg ht (fun q => kt ((ofI_lt i_0 ix).mp q)) (fun q => kf (fun z => q ((ofI_lt i_0 ix).mpr z)))
theorem s_if_le (hx : p.tables.exec = Jvm.exec) (hb : c.code = cc) {x : Int} {off : Int} {tgt : Nat} (hdg : decode cc pc = .ok (.ifCond .le off, 3)) (ht : (pc : Int) + off = (tgt : Int)) (ix : inr x) (kt : x ≤ 0 → W p l e R s m args below meth c H locs cells slots Q (F0 m tgt ls rest)) (kf : ¬ x ≤ 0 → W p l e R s m args below meth c H locs cells slots Q (F0 m (pc + 3) ls rest)) : W p l e R s m args below meth c H locs cells slots Q (F0 m pc ls (vi x :: rest)) :=
  lv_if_le hx hb hdg ht (fun q => kt ((ofI_le ix i_0).mp q)) (fun q => kf (fun z => q ((ofI_le ix i_0).mpr z)))
theorem s_ifnull (hx : p.tables.exec = Jvm.exec) (hb : c.code = cc) {x : Int} {off : Int} {tgt : Nat} (hdg : decode cc pc = .ok (.ifnull off, 3)) (ht : (pc : Int) + off = (tgt : Int)) (kt : x < 0 → W p l e R s m args below meth c H locs cells slots Q (F0 m tgt ls rest)) (kf : ¬ x < 0 → W p l e R s m args below meth c H locs cells slots Q (F0 m (pc + 3) ls rest)) : W p l e R s m args below meth c H locs cells slots Q (F0 m pc ls (vr x :: rest)) := by
  by_cases h0 : x < 0
  · rw [vr_neg h0]; exact lv_ifnullN hx hb hdg ht (kt h0)
  · rw [vr_pos (by omega)]; exact lv_ifnull hx hb hdg (kf h0)
theorem s_ifnonnull (hx : p.tables.exec = Jvm.exec) (hb : c.code = cc) {x : Int} {off : Int} {tgt : Nat} (hdg : decode cc pc = .ok (.ifnonnull off, 3)) (ht : (pc : Int) + off = (tgt : Int)) (kt : 0 ≤ x → W p l e R s m args below meth c H locs cells slots Q (F0 m tgt ls rest)) (kf : ¬ 0 ≤ x → W p l e R s m args below meth c H locs cells slots Q (F0 m (pc + 3) ls rest)) : W p l e R s m args below meth c H locs cells slots Q (F0 m pc ls (vr x :: rest)) := by
  by_cases h0 : 0 ≤ x
  · rw [vr_pos h0]; exact lv_ifnonnull hx hb hdg ht (kt h0)
  · rw [vr_neg (by omega)]; exact lv_ifnonnullN hx hb hdg (kf h0)
/-! references in locals -/
theorem s_aload_n (hx : p.tables.exec = Jvm.exec) (hb : c.code = cc) {k : Fin 4} {i : Nat} {x : Int} (hdg : decode cc pc = .ok (.aload_n k, 1)) (hi : (k : Nat) = i) (hl : ls[i]? = some (.val (vr x))) (kk : W p l e R s m args below meth c H locs cells slots Q (F0 m (pc + 1) ls (vr x :: rest))) : W p l e R s m args below meth c H locs cells slots Q (F0 m pc ls rest) := by
  by_cases h0 : x < 0
  · rw [vr_neg h0] at hl kk; exact lv_aload_nN hx hb hdg hi hl kk
  · rw [vr_pos (by omega)] at hl kk; exact lv_aload_n hx hb hdg hi hl kk
theorem s_aload (hx : p.tables.exec = Jvm.exec) (hb : c.code = cc) {i : Nat} {x : Int} (hdg : decode cc pc = .ok (.aload i, 2)) (hl : ls[i]? = some (.val (vr x))) (kk : W p l e R s m args below meth c H locs cells slots Q (F0 m (pc + 2) ls (vr x :: rest))) : W p l e R s m args below meth c H locs cells slots Q (F0 m pc ls rest) := by
  by_cases h0 : x < 0
  · rw [vr_neg h0] at hl kk; exact lv_aloadN hx hb hdg hl kk
  · rw [vr_pos (by omega)] at hl kk; exact lv_aload hx hb hdg hl kk
theorem s_astore_n (hx : p.tables.exec = Jvm.exec) (hb : c.code = cc) {k : Fin 4} {i nL : Nat} {x : Int} {lv lv' : List (Nat × Value)} (hdg : decode cc pc = .ok (.astore_n k, 1)) (hi : (k : Nat) = i) (hh : lv_has ls nL lv) (hn : i < nL) (hl : (i, vr x) :: lv.filter (fun q => !(q.1 == i) && !(q.1 + 1 == i && q.2.category == 2)) = lv') (kk : ∀ ls' : Array Slot, lv_has ls' nL lv' → W p l e R s m args below meth c H locs cells slots Q (F0 m (pc + 1) ls' rest)) : W p l e R s m args below meth c H locs cells slots Q (F0 m pc ls (vr x :: rest)) := by
  by_cases h0 : x < 0
  · rw [vr_neg h0] at hl ⊢; exact lv_astore_nN hx hb hdg hi hh hn hl kk
  · rw [vr_pos (by omega)] at hl ⊢; exact lv_astore_n hx hb hdg hi hh hn hl kk
theorem s_astore (hx : p.tables.exec = Jvm.exec) (hb : c.code = cc) {i nL : Nat} {x : Int} {lv lv' : List (Nat × Value)} (hdg : decode cc pc = .ok (.astore i, 2)) (hh : lv_has ls nL lv) (hn : i < nL) (hl : (i, vr x) :: lv.filter (fun q => !(q.1 == i) && !(q.1 + 1 == i && q.2.category == 2)) = lv') (kk : ∀ ls' : Array Slot, lv_has ls' nL lv' → W p l e R s m args below meth c H locs cells slots Q (F0 m (pc + 2) ls' rest)) : W p l e R s m args below meth c H locs cells slots Q (F0 m pc ls (vr x :: rest)) := by
  by_cases h0 : x < 0
  · rw [vr_neg h0] at hl ⊢; exact lv_astoreN hx hb hdg hh hn hl kk
  · rw [vr_pos (by omega)] at hl ⊢; exact lv_astore hx hb hdg hh hn hl kk
theorem vr_cat (x : Int) : (vr x).category = 1 := by
  by_cases h0 : x < 0
  · rw [vr_neg h0]; rfl
  · rw [vr_pos (by omega)]; rfl
theorem s_null (hx : p.tables.exec = Jvm.exec) (hb : c.code = cc) (hdg : decode cc pc = .ok (.aconst_null, 1)) (kk : W p l e R s m args below meth c H locs cells slots Q (F0 m (pc + 1) ls (vr (-1) :: rest))) : W p l e R s m args below meth c H locs cells slots Q (F0 m pc ls rest) := lv_null hx hb hdg (by rw [vr_neg (by decide)] at kk; exact kk)
theorem s_iinc (hx : p.tables.exec = Jvm.exec) (hb : c.code = cc) {i nL k : Nat} {n x : Int} {lv lv' : List (Nat × Value)} (hdg : decode cc pc = .ok (.iinc i n, 3)) (hh : lv_has ls nL lv) (hk : lv[k]? = some (i, vi x)) (hn : i < nL) (hl : (i, vi (wr (x + n))) :: lv.filter (fun q => !(q.1 == i) && !(q.1 + 1 == i && q.2.category == 2)) = lv') (kk : ∀ ls' : Array Slot, lv_has ls' nL lv' → W p l e R s m args below meth c H locs cells slots Q (F0 m (pc + 3) ls' rest)) : W p l e R s m args below meth c H locs cells slots Q (F0 m pc ls rest) :=
  lv_iinc hx hb hdg hh hk (by rw [ofI_wr, Int32.ofInt_add]) hn hl kk
/-! fields -/
theorem ix_1 {α : Type} (a : α) : [a][0]? = some a := rfl
theorem fs_at {ci k : Nat} {f : Nat → Int} {b : Bool} (hk : k < (tyTab.getD ci []).length) (hr : rfT ci k = b) : ((tyTab.getD ci []).mapIdx (fun j b => vv b (f j)))[k]? = some (vv b (f k)) := by
  rw [List.getElem?_mapIdx]
  have h1 : (tyTab.getD ci [])[k]? = some b := by
    unfold rfT at hr
    rw [List.getD_eq_getElem?_getD, List.getElem?_eq_getElem hk] at hr
    rw [List.getElem?_eq_getElem hk]
    exact congrArg some hr
  rw [h1]; rfl
theorem fs_set {ci k : Nat} {f : Nat → Int} {b : Bool} {v : Int} (hr : rfT ci k = b) (hk : k < (tyTab.getD ci []).length) : ((tyTab.getD ci []).mapIdx (fun j b => vv b (f j))).set k (vv b v) = (tyTab.getD ci []).mapIdx (fun j b => vv b (if j = k then v else f j)) := by
  apply List.ext_getElem?
  intro i
  by_cases hi : i = k
  · subst hi
    rw [List.getElem?_set_self (by rw [List.length_mapIdx]; exact hk), fs_at hk hr, if_pos rfl]
  · rw [List.getElem?_set_ne (fun q => hi q.symm), List.getElem?_mapIdx, List.getElem?_mapIdx]
    simp only [if_neg hi]
theorem s_getfi (hx : p.tables.exec = Jvm.exec) (hb : c.code = cc) {own C : String} {T : u_T} {N ci index : Nat} (hts : ∀ w ∈ BW, w.before args s = true) (hin : ∀ w ∈ u_ws C T N, w ∈ BW) (hown : s.vm.findClass own = some m.cls) (hV : va_K D vwCl (tysG G) s) (hM : SM D G base h H) (hc : vwCl[ci]? = some (C, T, N)) (hci : ci ≤ 6) (hNl : (tyTab.getD ci []).length = N) {k : Nat} (hk : k < N) (hr : rfT ci k = false) (hlink : (Cond.fieldLink own index (T k).1 (T k).2.1 (T k).2.2.1).before args s = true) {a v : Int} (g : gtf h ci k a = some v) (hdg : decode cc pc = .ok (.getfield index, 3)) (kk : W p l e R s m args below meth c H locs cells slots Q (F0 m (pc + 3) ls (vi v :: rest))) : W p l e R s m args below meth c H locs cells slots Q (F0 m pc ls (vr a :: rest)) := by
  obtain ⟨h1, h2, h3⟩ := gtf_s g
  rw [vr_pos h1]
  refine va_get (v := vi v) hx hb hts hin hown hV (hM.obj h2 hci) 0 (ix_1 _) hc k hk hlink (fun _ q => q) ?_ hdg kk
  rw [fs_at (by rw [hNl]; exact hk) hr, h3]; rfl
theorem s_getfr (hx : p.tables.exec = Jvm.exec) (hb : c.code = cc) {own C : String} {T : u_T} {N ci index : Nat} (hts : ∀ w ∈ BW, w.before args s = true) (hin : ∀ w ∈ u_ws C T N, w ∈ BW) (hown : s.vm.findClass own = some m.cls) (hV : va_K D vwCl (tysG G) s) (hM : SM D G base h H) (hc : vwCl[ci]? = some (C, T, N)) (hci : ci ≤ 6) (hNl : (tyTab.getD ci []).length = N) {k : Nat} (hk : k < N) (hr : rfT ci k = true) (hlink : (Cond.fieldLink own index (T k).1 (T k).2.1 (T k).2.2.1).before args s = true) {a v : Int} (g : gtf h ci k a = some v) (hdg : decode cc pc = .ok (.getfield index, 3)) (kk : W p l e R s m args below meth c H locs cells slots Q (F0 m (pc + 3) ls (vr v :: rest))) : W p l e R s m args below meth c H locs cells slots Q (F0 m pc ls (vr a :: rest)) := by
  obtain ⟨h1, h2, h3⟩ := gtf_s g
  rw [vr_pos h1]
  refine va_get (v := vr v) hx hb hts hin hown hV (hM.obj h2 hci) 0 (ix_1 _) hc k hk hlink (fun _ q => q) ?_ hdg kk
  rw [fs_at (by rw [hNl]; exact hk) hr, h3]; rfl
/-- what a store into a field leaves -/
theorem set_at {ci k a N : Nat} {v : Int} {b : Bool} {C : String} {T : u_T} {H1 : Heap} {cell : Cell} (hk0 : hK h a = ci + 1) (hci : ci ≤ 6) (hNl : (tyTab.getD ci []).length = N) (hk : k < N) (hr : rfT ci k = b) (hc : vwCl[ci]? = some (C, T, N)) (hap : ∀ x y, x < N → y < N → x ≠ y → (D.2 ci) x ≠ (D.2 ci) y) (q2 : cell.cls = D.1 ci) (q3 : cell.vm = .none) (q4 : ∀ k, k < N → cell.slots[(D.2 ci) k]? = some (vp_V ((tyTab.getD ci []).mapIdx (fun j b => vv b (hF h a j))) k)) (e1 : H1[a]? = some (cell.setSlot (D.2 ci k) (vv b v))) : va_at D vwCl (a, encE G (hset h a k v) a) H1 := by
  have e0 : encE G (hset h a k v) a = .inr (ci, ((tyTab.getD ci []).mapIdx (fun j b => vv b (hF h a j))).set k (vv b v)) := by
    have hk1 : hK (hset h a k v) a = ci + 1 := hk0
    unfold encE
    rw [if_pos (by omega), hk1, fs_set hr (by rw [hNl]; exact hk)]
    have : ∀ j, hF (hset h a k v) a j = if j = k then v else hF h a j := fun j => by
      show (if a = a ∧ j = k then v else hF h a j) = _
      simp
    simp only [this]; rfl
  rw [e0]
  exact ⟨_, hc, t_OB.to (V := updV (vp_V ((tyTab.getD ci []).mapIdx (fun j b => vv b (hF h a j)))) k (vv b v)) ⟨_, e1, q2, q3, t_set q4 hap hk (vv b v)⟩ (fun j _ => vp_updV_set (by rw [List.length_mapIdx, hNl]; exact hk) (vv b v) j)⟩
theorem s_put (hx : p.tables.exec = Jvm.exec) (hb : c.code = cc) {own C : String} {T : u_T} {N ci index : Nat} (hts : ∀ w ∈ BW, w.before args s = true) (hin : ∀ w ∈ u_ws C T N, w ∈ BW) (ty0 : Nat → FieldType) (hty : ∀ k, k < N → parseFieldDescriptor (T k).2.2.1 = some (ty0 k)) (hnm : ∀ a, a < N → ∀ b, b < N → a ≠ b → (T a).2.1 ≠ (T b).2.1) (hown : s.vm.findClass own = some m.cls) (hV : va_K D vwCl (tysG G) s) (hM : SM D G base h H) (hS : va_S (fun q => base ≤ q) H0 H locs) (hc : vwCl[ci]? = some (C, T, N)) (hci : ci ≤ 6) (hNl : (tyTab.getD ci []).length = N) {k : Nat} (hk : k < N) {b : Bool} (hr : rfT ci k = b) (hlink : (Cond.fieldLink own index (T k).1 (T k).2.1 (T k).2.2.1).before args s = true) (hfin : (T k).2.2.2 = false) {a v : Int} (hn : narrow (ty0 k) (vv b v) = vv b v) (hfit : fits (ty0 k) (vv b v) = true) (hv : b = false → inr v) (g : ptf h ci k a v = some h') (hdg : decode cc pc = .ok (.putfield index, 3)) (kk : ∀ (H1 : Heap) (locs1 : List Loc), SM D G base h' H1 → va_S (fun q => base ≤ q) H0 H1 locs1 → W p l e R s m args below meth c H1 locs1 cells slots Q (F0 m (pc + 3) ls rest)) : W p l e R s m args below meth c H locs cells slots Q (F0 m pc ls (vv b v :: vr a :: rest)) := by
  obtain ⟨h1, h2, h3⟩ := ptf_s g
  rw [vr_pos h1]
  have hap := va_apart (own := own) hts hin ty0 hty hnm hV hc
  obtain ⟨r, h4, cell, q1, q2, q3, q4⟩ := hM.obj h2 hci 0 _ (ix_1 _)
  have hr2 : r = (C, T, N) := Option.some.inj (h4.symm.trans hc)
  subst hr2
  obtain ⟨hS1, hfc, kC, hkC, hkind⟩ := hV.1 ci _ hc
  obtain ⟨cf, kf, fi, f, hi, hsl⟩ := hS1 k hk
  have hlay := hts _ (hin _ (u_in_lay hk))
  unfold u_lay at hlay
  rw [if_neg (by rw [hfin]; decide)] at hlay
  have hst := (u_facts hfc hkC (u_lays hts hin hk) hi).1
  have h6 := u_store hfc hkC hkind hlay hi (hty k hk) hn hfit
  refine W.putK hx hb (f := f) ⟨hown, hlink, ⟨_, _, _, hi⟩, hst⟩ (by rw [q2]; exact h6) q1 q3 (by rw [hsl]; exact k2_hasslot (q4 k hk)) rfl rfl hdg fun H' e1 e2 e3 => ?_
  rw [hsl] at e1 ⊢
  refine kk H' _ ?_ (hS.put e2 e3 (hM.2.2 _ (by rw [h2]; omega)).1)
  rw [h3]
  refine hM.set (by rw [h2]; omega) e2 e3 (fun q => hv ?_) (set_at h2 hci hNl hk hr hc hap q2 q3 q4 e1)
  rw [h2, isI, if_pos (by omega), show ci + 1 - 1 = ci from rfl, hr] at q
  cases b
  · rfl
  · cases q
theorem s_putF (hx : p.tables.exec = Jvm.exec) (hb : c.code = cc) {own C : String} {T : u_T} {N ci index : Nat} (hts : ∀ w ∈ BW, w.before args s = true) (hin : ∀ w ∈ u_ws C T N, w ∈ BW) (ty0 : Nat → FieldType) (hty : ∀ k, k < N → parseFieldDescriptor (T k).2.2.1 = some (ty0 k)) (hnm : ∀ a, a < N → ∀ b, b < N → a ≠ b → (T a).2.1 ≠ (T b).2.1) (hown : s.vm.findClass own = some m.cls) (hV : va_K D vwCl (tysG G) s) (hM : SM D G base h H) (hS : va_S (fun q => base ≤ q) H0 H locs) (hc : vwCl[ci]? = some (C, T, N)) (hci : ci ≤ 6) (hNl : (tyTab.getD ci []).length = N) {k : Nat} (hk : k < N) {b : Bool} (hr : rfT ci k = b) (hlink : (Cond.fieldLink own index (T k).1 (T k).2.1 (T k).2.2.1).before args s = true) (hfin : (T k).2.2.2 = true) (hin2 : meth.name = "<init>") (hdecl : (T k).1 = own) {a v : Int} (hn : narrow (ty0 k) (vv b v) = vv b v) (hfit : fits (ty0 k) (vv b v) = true) (hv : b = false → inr v) (g : ptf h ci k a v = some h') (hdg : decode cc pc = .ok (.putfield index, 3)) (kk : ∀ (H1 : Heap) (locs1 : List Loc), SM D G base h' H1 → va_S (fun q => base ≤ q) H0 H1 locs1 → W p l e R s m args below meth c H1 locs1 cells slots Q (F0 m (pc + 3) ls rest)) : W p l e R s m args below meth c H locs cells slots Q (F0 m pc ls (vv b v :: vr a :: rest)) := by
  obtain ⟨h1, h2, h3⟩ := ptf_s g
  rw [vr_pos h1]
  have hap := va_apart (own := own) hts hin ty0 hty hnm hV hc
  obtain ⟨r, h4, cell, q1, q2, q3, q4⟩ := hM.obj h2 hci 0 _ (ix_1 _)
  have hr2 : r = (C, T, N) := Option.some.inj (h4.symm.trans hc)
  subst hr2
  obtain ⟨hS1, hfc, kC, hkC, hkind⟩ := hV.1 ci _ hc
  obtain ⟨cf, kf, fi, f, hi, hsl⟩ := hS1 k hk
  have hlay := hts _ (hin _ (u_in_lay hk))
  unfold u_lay at hlay
  rw [if_pos hfin] at hlay
  have hst := (u_facts hfc hkC (u_lays hts hin hk) hi).1
  have hcf : m.cls = cf := by
    obtain ⟨_, _, c', _, _, _, -, -, hf', -, -, -, hown2, -⟩ := Cond.laysFinal_spec hlay
    have e1 : c' = cf := by have := hi.symm.trans hf'; simp at this; exact this.1.symm
    rw [hdecl] at hown2
    rw [← e1]; exact Option.some.inj (hown.symm.trans hown2)
  have h6 := u_fits hfc hkC hkind (Or.inr hlay) hi (hty k hk) hn hfit
  refine W.putFinK hx hb hown hlink hi hst hcf hin2 (by rw [q2]; exact h6) q1 q3 (by rw [hsl]; exact k2_hasslot (q4 k hk)) rfl rfl hdg fun H' e1 e2 e3 => ?_
  rw [hsl] at e1 ⊢
  refine kk H' _ ?_ (hS.put e2 e3 (hM.2.2 _ (by rw [h2]; omega)).1)
  rw [h3]
  refine hM.set (by rw [h2]; omega) e2 e3 (fun q => hv ?_) (set_at h2 hci hNl hk hr hc hap q2 q3 q4 e1)
  rw [h2, isI, if_pos (by omega), show ci + 1 - 1 = ci from rfl, hr] at q
  cases b
  · rfl
  · cases q
end
