/-! locals, all of one word; entry; small rows -/
def lvh (ls : Array Slot) (nL : Nat) (l : List (Nat × Value)) : Prop := lv_has ls nL l ∧ ∀ q ∈ l, q.2.category = 1
theorem la {ls : Array Slot} {nL : Nat} {l : List (Nat × Value)} (h : lvh ls nL l) (k : Nat) {i : Nat} {v : Value} (hk : l[k]? = some (i, v)) : ls[i]? = some (.val v) := lv_at h.1 k hk
theorem lsub {ls : Array Slot} {nL : Nat} {l l' : List (Nat × Value)} (h : lvh ls nL l) (ks : List Nat) (hl : lv_pick l ks = l') : lvh ls nL l' := by
  refine ⟨lv_sub h.1 ks hl, fun q hq => ?_⟩
  rw [← hl] at hq
  obtain ⟨i, -, hi⟩ := List.mem_filterMap.mp hq
  exact h.2 q (List.mem_of_getElem? hi)
def ixl : Nat → List Value → List (Nat × Value)
  | _, [] => []
  | i, v :: vs => (i, v) :: ixl (i + 1) vs
theorem lv_args_ix : ∀ (vs : List Value) (i : Nat), (∀ v ∈ vs, v.category = 1) → lv_args i vs = ixl i vs
  | [], _, _ => rfl
  | v :: vs, i, h => by
    have h1 := h v List.mem_cons_self
    have h2 := lv_args_ix vs (i + 1) (fun w hw => h w (List.mem_cons_of_mem _ hw))
    simp [lv_args, ixl, h1, h2]
theorem ixl_cat : ∀ (vs : List Value) (i : Nat), (∀ v ∈ vs, v.category = 1) → ∀ q ∈ ixl i vs, q.2.category = 1
  | [], _, _, q, hq => by cases hq
  | v :: vs, i, h, q, hq => by
    rcases List.mem_cons.mp hq with rfl | hq
    · exact h v List.mem_cons_self
    · exact ixl_cat vs (i + 1) (fun w hw => h w (List.mem_cons_of_mem _ hw)) q hq
theorem lg_sl_len : ∀ (vs : List Value), (∀ v ∈ vs, v.category = 1) → (lg_sl vs).length = vs.length
  | [], _ => rfl
  | v :: vs, h => by
    have h1 := h v List.mem_cons_self
    have h2 := lg_sl_len vs (fun w hw => h w (List.mem_cons_of_mem _ hw))
    have h3 : lg_sl (v :: vs) = [Slot.val v] ++ lg_sl vs := by simp [lg_sl, h1]
    rw [h3, List.length_append, h2]; simp; omega
theorem vi_cat (x : Int) : (vi x).category = 1 := rfl
theorem c_r {x : Int} {l : List Value} (h : ∀ v ∈ l, v.category = 1) : ∀ v ∈ vr x :: l, v.category = 1 := List.forall_mem_cons.mpr ⟨vr_cat x, h⟩
theorem c_i {x : Int} {l : List Value} (h : ∀ v ∈ l, v.category = 1) : ∀ v ∈ vi x :: l, v.category = 1 := List.forall_mem_cons.mpr ⟨rfl, h⟩
theorem c_0 : ∀ v ∈ ([] : List Value), v.category = 1 := fun _ h => absurd h List.not_mem_nil
theorem cat_sum : ∀ (l : List Value), (∀ v ∈ l, v.category = 1) → (l.map fun v => v.category).sum = l.length
  | [], _ => rfl
  | v :: l, h => by
    have h2 := cat_sum l (fun w hw => h w (List.mem_cons_of_mem _ hw))
    have h1 := h v List.mem_cons_self
    simp [h1, h2]; omega
theorem c8 {l : List Value} (h : ∀ v ∈ l, v.category = 1) (h8 : l.length ≤ 8) : (l.map fun v => v.category).sum ≤ 8 := by rw [cat_sum l h]; exact h8
theorem cN {l : List Value} {a b : Nat} (h : ∀ v ∈ l, v.category = 1) (h8 : l.length + a ≤ b) : (l.map fun v => v.category).sum + a ≤ b := by rw [cat_sum l h]; exact h8
theorem nar_o {n : String} (z : Int) : narrow (.object n) (vr z) = vr z := by show narrow _ (va_rf (rO z)) = va_rf (rO z); cases rO z <;> rfl
theorem nar_a {t : FieldType} (z : Int) : narrow (.array t) (vr z) = vr z := by show narrow _ (va_rf (rO z)) = va_rf (rO z); cases rO z <;> rfl
theorem fit_o {n : String} (z : Int) : fits (.object n) (vr z) = true := by show fits _ (va_rf (rO z)) = _; cases rO z <;> rfl
theorem fit_a {t : FieldType} (z : Int) : fits (.array t) (vr z) = true := by show fits _ (va_rf (rO z)) = _; cases rO z <;> rfl
abbrev fuel : Nat := 40000
section
variable {p : Program} {l : Launch} {e : Env} {R : Room} {s : State} {m : MethodId} {args : Array Value} {below : List Frame} {meth : Method} {c : Code} {H : Heap} {locs : List Loc} {cells slots : Nat} {Q : State → Prop}
variable {cc : ByteArray} {pc nL : Nat} {ls : Array Slot} {rest : List Value}
theorem s_entry {D : va_G} {G : Nat → ClassId} {base : Nat} {h : Hp} {vs : List Value} {n : Nat} (ha : args = vs.toArray) (hM : SM D G base h s.heap) (hc : ∀ v ∈ vs, v.category = 1) (hn : vs.length ≤ n) (kk : ∀ (H : Heap) (locs : List Loc) (ls : Array Slot), SM D G base h H → va_S (Ab base) s.heap H locs → lvh ls n (ixl 0 vs) → W p l e R s m args below meth c H locs cells slots Q (F0 m 0 ls [])) : W p l e R s m args below meth c s.heap [] cells slots Q (entryFrame m args n) := by
  have h1 : entryFrame m args n = F0 m 0 ((lg_sl vs ++ List.replicate (n - (lg_sl vs).length) Slot.unset).toArray) [] := by rw [ha]; exact lg_entry_eq m vs n
  rw [h1]
  have h2 := lv_entry vs (n := n) (by rw [lg_sl_len vs hc]; exact hn)
  rw [lv_args_ix vs 0 hc] at h2
  exact kk _ _ _ hM va_S.rf ⟨h2, ixl_cat vs 0 hc⟩
theorem flt1 {lv : List (Nat × Value)} {i : Nat} (h : ∀ q ∈ lv, q.2.category = 1) : lv.filter (fun q => !(q.1 == i) && !(q.1 + 1 == i && q.2.category == 2)) = lv.filter (fun q => !(q.1 == i)) := by
  apply List.filter_congr
  intro q hq
  simp [h q hq]
theorem lvh_st {ls' : Array Slot} {lv lv' : List (Nat × Value)} {i : Nat} {v : Value} (hh : lvh ls nL lv) (hv : v.category = 1) (hl : (i, v) :: lv.filter (fun q => !(q.1 == i)) = lv') (h : lv_has ls' nL lv') : lvh ls' nL lv' := by
  refine ⟨h, fun q hq => ?_⟩
  rw [← hl] at hq
  rcases List.mem_cons.mp hq with rfl | hq
  · exact hv
  · exact hh.2 q (List.mem_filter.mp hq).1
theorem t_istore_n (hx : p.tables.exec = Jvm.exec) (hb : c.code = cc) {k : Fin 4} {i : Nat} {x : Int} {lv lv' : List (Nat × Value)} (hdg : decode cc pc = .ok (.istore_n k, 1)) (hi : (k : Nat) = i) (hh : lvh ls nL lv) (hn : i < nL) (hl : (i, vi x) :: lv.filter (fun q => !(q.1 == i)) = lv') (kk : ∀ ls' : Array Slot, lvh ls' nL lv' → W p l e R s m args below meth c H locs cells slots Q (F0 m (pc + 1) ls' rest)) : W p l e R s m args below meth c H locs cells slots Q (F0 m pc ls (vi x :: rest)) :=
  lv_istore_n hx hb hdg hi hh.1 hn (by rw [flt1 hh.2]; exact hl) (fun ls' h => kk ls' (lvh_st hh rfl hl h))
theorem t_istore (hx : p.tables.exec = Jvm.exec) (hb : c.code = cc) {i : Nat} {x : Int} {lv lv' : List (Nat × Value)} (hdg : decode cc pc = .ok (.istore i, 2)) (hh : lvh ls nL lv) (hn : i < nL) (hl : (i, vi x) :: lv.filter (fun q => !(q.1 == i)) = lv') (kk : ∀ ls' : Array Slot, lvh ls' nL lv' → W p l e R s m args below meth c H locs cells slots Q (F0 m (pc + 2) ls' rest)) : W p l e R s m args below meth c H locs cells slots Q (F0 m pc ls (vi x :: rest)) :=
  lv_istore hx hb hdg hh.1 hn (by rw [flt1 hh.2]; exact hl) (fun ls' h => kk ls' (lvh_st hh rfl hl h))
theorem t_astore_n (hx : p.tables.exec = Jvm.exec) (hb : c.code = cc) {k : Fin 4} {i : Nat} {x : Int} {lv lv' : List (Nat × Value)} (hdg : decode cc pc = .ok (.astore_n k, 1)) (hi : (k : Nat) = i) (hh : lvh ls nL lv) (hn : i < nL) (hl : (i, vr x) :: lv.filter (fun q => !(q.1 == i)) = lv') (kk : ∀ ls' : Array Slot, lvh ls' nL lv' → W p l e R s m args below meth c H locs cells slots Q (F0 m (pc + 1) ls' rest)) : W p l e R s m args below meth c H locs cells slots Q (F0 m pc ls (vr x :: rest)) :=
  s_astore_n hx hb hdg hi hh.1 hn (by rw [flt1 hh.2]; exact hl) (fun ls' h => kk ls' (lvh_st hh (vr_cat x) hl h))
theorem t_astore (hx : p.tables.exec = Jvm.exec) (hb : c.code = cc) {i : Nat} {x : Int} {lv lv' : List (Nat × Value)} (hdg : decode cc pc = .ok (.astore i, 2)) (hh : lvh ls nL lv) (hn : i < nL) (hl : (i, vr x) :: lv.filter (fun q => !(q.1 == i)) = lv') (kk : ∀ ls' : Array Slot, lvh ls' nL lv' → W p l e R s m args below meth c H locs cells slots Q (F0 m (pc + 2) ls' rest)) : W p l e R s m args below meth c H locs cells slots Q (F0 m pc ls (vr x :: rest)) :=
  s_astore hx hb hdg hh.1 hn (by rw [flt1 hh.2]; exact hl) (fun ls' h => kk ls' (lvh_st hh (vr_cat x) hl h))
theorem t_iinc (hx : p.tables.exec = Jvm.exec) (hb : c.code = cc) {i k : Nat} {n x y : Int} {lv lv' : List (Nat × Value)} (hdg : decode cc pc = .ok (.iinc i n, 3)) (hh : lvh ls nL lv) (hk : lv[k]? = some (i, vi x)) (hn : i < nL) (hy : wr (x + n) = y) (hl : (i, vi y) :: lv.filter (fun q => !(q.1 == i)) = lv') (kk : ∀ ls' : Array Slot, lvh ls' nL lv' → W p l e R s m args below meth c H locs cells slots Q (F0 m (pc + 3) ls' rest)) : W p l e R s m args below meth c H locs cells slots Q (F0 m pc ls rest) := by
  subst hy
  exact s_iinc hx hb hdg hh.1 hk hn (by rw [flt1 hh.2]; exact hl) (fun ls' h => kk ls' (lvh_st hh rfl hl h))
theorem s_ldc (hx : p.tables.exec = Jvm.exec) (hb : c.code = cc) {own : String} {index : Nat} {v : Int32} {n : Int} (hown : s.vm.findClass own = some m.cls) (hc : (Cond.constant own index v).before args s = true) (hv : v = Int32.ofInt n) (hdg : decode cc pc = .ok (.ldc index, 2)) (kk : W p l e R s m args below meth c H locs cells slots Q (F0 m (pc + 2) ls (vi n :: rest))) : W p l e R s m args below meth c H locs cells slots Q (F0 m pc ls rest) := by
  subst hv
  exact lv_ldc hx hb hown hc hdg kk
theorem s_acmp_ne (hx : p.tables.exec = Jvm.exec) (hb : c.code = cc) {x y : Int} {off : Int} {tgt : Nat} (hdg : decode cc pc = .ok (.if_acmp .ne off, 3)) (ht : (pc : Int) + off = (tgt : Int)) (kt : ¬ rO x = rO y → W p l e R s m args below meth c H locs cells slots Q (F0 m tgt ls rest)) (kf : ¬ ¬ rO x = rO y → W p l e R s m args below meth c H locs cells slots Q (F0 m (pc + 3) ls rest)) : W p l e R s m args below meth c H locs cells slots Q (F0 m pc ls (vr y :: vr x :: rest)) :=
  lv_acmp_ne hx hb hdg ht kt (fun q => kf (fun z => z q))
theorem s_tsw (hx : p.tables.exec = Jvm.exec) (hb : c.code = cc) {dflt lo hi : Int} {offs : Array Int} {len : Nat} {x k : Int} {off : Int} {tgt : Nat} (ix : inr x) (hk : x = k) (hdg : decode cc pc = .ok (.tableswitch dflt lo hi offs, len)) (h1 : lo ≤ k) (h2 : k ≤ hi) (ho : offs[(k - lo).toNat]? = some off) (ht : (pc : Int) + off = (tgt : Int)) (kk : W p l e R s m args below meth c H locs cells slots Q (F0 m tgt ls rest)) : W p l e R s m args below meth c H locs cells slots Q (F0 m pc ls (vi x :: rest)) := by
  subst hk
  exact lv_tableIn hx hb hdg (by rw [ti_of ix]; omega) (by rw [ti_of ix]; omega) (by rw [ti_of ix]; exact ho) ht kk
theorem s_tswD (hx : p.tables.exec = Jvm.exec) (hb : c.code = cc) {dflt lo hi : Int} {offs : Array Int} {len : Nat} {x : Int} {tgt : Nat} (ix : inr x) (hdg : decode cc pc = .ok (.tableswitch dflt lo hi offs, len)) (hd : x < lo ∨ hi < x) (ht : (pc : Int) + dflt = (tgt : Int)) (kk : W p l e R s m args below meth c H locs cells slots Q (F0 m tgt ls rest)) : W p l e R s m args below meth c H locs cells slots Q (F0 m pc ls (vi x :: rest)) :=
  lv_tableOut hx hb hdg (by rw [ti_of ix]; exact hd) ht kk
end
abbrev QI (D : va_G) (G : Nat → ClassId) (base : Nat) (rv : Int) (h' : Hp) (below : List Frame) (args : Array Value) (s : State) (mc ms : Nat) : State → Prop := MQ below (QR D G base (some (vi rv)) (inr rv) h') args s mc ms (Ab base)
abbrev QV (D : va_G) (G : Nat → ClassId) (base : Nat) (rv : Int) (h' : Hp) (below : List Frame) (args : Array Value) (s : State) (mc ms : Nat) : State → Prop := MQ below (QR D G base none True h') args s mc ms (Ab base)
abbrev QF (D : va_G) (G : Nat → ClassId) (base : Nat) (rv : Int) (h' : Hp) (below : List Frame) (args : Array Value) (s : State) (mc ms : Nat) : State → Prop := MQ below (QR D G base (some (vr rv)) True h') args s mc ms (Ab base)
