/-! for the law's own small methods -/
def QL (D : va_G) (G : Nat → ClassId) (base : Nat) (kv : Int) (h' : Hp) : Array Value → State → Outcome → State → Prop := fun _ st oc t => oc = .returned (some (vi kv)) ∧ (∃ k, hN h' ≤ k ∧ SM D G base (hsN h' k) t.heap) ∧ va_F (Ab base) st t
def XF : String → State → State → Prop := fun _ _ _ => False
abbrev QLx (D : va_G) (G : Nat → ClassId) (base : Nat) (kv : Int) (h' : Hp) (below : List Frame) (args : Array Value) (s : State) (mc ms : Nat) : State → Prop := vx_MQ below (QL D G base kv h') XF args s mc ms (Ab base)
theorem hsN_self (h : Hp) : hsN h (hN h) = h := rfl
theorem i2l_eq {z : Int} (hz : inr z) : (Int32.ofInt z).toInt64 = Int64.ofInt z := Int32.toInt64_ofInt (show Int32.minValue.toInt ≤ z from hz.1) (show z ≤ Int32.maxValue.toInt from hz.2)
theorem vr_nat (n : Nat) : vr (n : Int) = .ref n := by rw [vr_pos (by omega)]; rfl
section
variable {p : Program} {l : Launch} {e : Env} {R : Room} {s : State} {m : MethodId} {args : Array Value} {below : List Frame} {meth : Method} {c : Code} {H : Heap} {locs : List Loc} {cells slots : Nat} {Q : State → Prop}
variable {cc : ByteArray} {pc nL : Nat} {ls : Array Slot} {rest : List Value} {D : va_G} {G : Nat → ClassId} {base : Nat} {h h' : Hp} {H0 : Heap}
theorem s_i2l (hx : p.tables.exec = Jvm.exec) (hb : c.code = cc) {z : Int} (iz : inr z) (hdg : decode cc pc = .ok (.i2l, 1)) (kk : W p l e R s m args below meth c H locs cells slots Q (F0 m (pc + 1) ls (vl z :: rest))) : W p l e R s m args below meth c H locs cells slots Q (F0 m pc ls (vi z :: rest)) := lv_i2l hx hb hdg (i2l_eq iz) kk
theorem s_lcret {mc ms : Nat} {v : Int} {k : Nat} (hx : p.tables.exec = Jvm.exec) (hb : c.code = cc) (hr : meth.sig.returnType = some .int) (hlocks : meth.locks = false) (hkn : hN h ≤ k) (hM : SM D G base (hsN h k) H) (hS : va_S (Ab base) s.heap H locs) (hc : cells ≤ mc) (hs : slots ≤ ms) (hdg : decode cc pc = .ok (.ireturn, 1)) : W p l e R s m args below meth c H locs cells slots (QLx D G base v h below args s mc ms) (F0 m pc ls [vi v]) :=
  W.widen hc hs (vx_ret (W.iret hx hb hr (fun t ht hW => ⟨rfl, ⟨k, hkn, by rw [ht]; exact hM⟩, hS.F ht⟩) hS.2.2 hdg hlocks))
theorem csw_of {own : String} {index : Nat} {y : MethodName} {bytes : ByteArray} {maxL n : Nat} {ret : Option FieldType} {hh : List (Nat × Nat × Nat × Nat)} {rm : Room} (hts : ∀ w ∈ BW, w.before args s = true) (hcode : Cond.codeWith y bytes maxL ret hh ∈ BW) (hl : Cond.methodLink own index y ∈ BW) (hini : Cond.initialized y.cls ∈ BW) (hst : Cond.static y ∈ BW) (hd : y.cls ≠ "java/lang/invoke/MethodHandle" ∧ y.cls ≠ "java/lang/invoke/VarHandle" ∧ (parseMethodDescriptor y.desc).map (fun d => d.parameters.length) = some n) (hR : rm.frames + 1 ≤ R.frames ∧ 8 + (maxL + 11) + rm.locals ≤ R.locals) : vx_CSW R s args own index y bytes maxL ret hh (Cond.codeWith y bytes maxL ret hh :: BW) rm rm.cells rm.slots n := by
  refine ⟨⟨rfl, rfl, hR.1, hR.2, fun w hw a' U hW => ?_, List.mem_cons_self⟩, hts _ hcode, hts _ hini, ⟨hd.1, hd.2.1⟩, fun sig h9 => ?_, hts _ hl, hts _ hst⟩
  · rcases List.mem_cons.mp hw with rfl | hw
    · exact bw_warm hts _ hcode a' U hW
    · exact bw_warm hts _ hw a' U hW
  · have h8 := hd.2.2
    rw [h9] at h8
    exact (Option.some.inj h8).symm
theorem s_callL {own : String} {index : Nat} {y : MethodName} {bytes : ByteArray} {maxL n : Nat} {ret : Option FieldType} {hh : List (Nat × Nat × Nat × Nat)} {rm : Room} {kv : Int} (As : List Value) {st0 : List Value} (hx : p.tables.exec = Jvm.exec) (hb : c.code = cc) (hml : c.maxLocals = nL) (hown : s.vm.findClass own = some m.cls) (hts : ∀ w ∈ BW, w.before args s = true) (hE : EV l D G base s) (hM : SM D G base h H) (hS : va_S (Ab base) s.heap H locs)
    (hMet : vx_Met l y (Cond.codeWith y bytes maxL ret hh :: BW) rm (PC l D G base h As) (QL D G base kv h') XF rm.cells rm.slots (Ab base))
    (hcode : Cond.codeWith y bytes maxL ret hh ∈ BW) (hl : Cond.methodLink own index y ∈ BW) (hini : Cond.initialized y.cls ∈ BW) (hsta : Cond.static y ∈ BW) (hd : y.cls ≠ "java/lang/invoke/MethodHandle" ∧ y.cls ≠ "java/lang/invoke/VarHandle" ∧ (parseMethodDescriptor y.desc).map (fun d => d.parameters.length) = some n) (hR : rm.frames + 1 ≤ R.frames ∧ 8 + (maxL + 11) + rm.locals ≤ R.locals)
    (hn : As.length = n) (hlz : ls.size = nL) (hst : st0 = As.reverse ++ rest) (hW : (rest.map fun v => v.category).sum ≤ 8) (hdg : decode cc pc = .ok (.invokestatic index, 3)) (hf : cells + rm.cells ≤ R.cells ∧ slots + rm.slots ≤ R.slots)
    (kk : ∀ (H1 : Heap) (locs1 : List Loc) (k : Nat), hN h' ≤ k → SM D G base (hsN h' k) H1 → va_S (Ab base) s.heap H1 locs1 → W p l e R s m args below meth c H1 locs1 (cells + rm.cells) (slots + rm.slots) Q (F0 m (pc + 3) ls (vi kv :: rest))) : W p l e R s m args below meth c H locs cells slots Q (F0 m pc ls st0) := by
  have hr := vx_runSX (l := l) (e := e) (below := below) (meth := meth) (locs := locs) (cells := cells) (slots := slots) (As := As) (rest := rest) (g := F0 m pc ls st0) ⟨hx, hb, hml, hown, hts⟩ hMet (csw_of hts hcode hl hini hsta hd hR) (preS_of hE hM hS) rfl hn hlz hst (lv_room hW) hdg hf
  intro T hT X
  rcases hr T hT X with ⟨v, st₀, t, T', L, h0, X', hL, e1, e2, ⟨hv, ⟨k, hkn, hM⟩, hF⟩, st⟩ | ⟨q, st₀, t, T', L, E, ce, h0, X', hL, e1, e2, hF, -⟩
  · cases hv
    obtain ⟨k1, k2, k3⟩ := vx_keep (A0 := Ab base) (A1 := Ab base) (free := Ab base) h0 e1 hS (fun _ _ z => z) (fun _ z => z) hL hF
    obtain ⟨t2, a1, b1⟩ := kk T'.heap (locs ++ L) k hkn (by rw [e1]; exact hM) k3 T' rfl X'
    exact ⟨t2, st t2 a1, b1⟩
  · exact absurd hF id
def lcm (x y : Int) : Int := if x < y then -1 else if x = y then 0 else 1
theorem inr_cm (x y : Int) : inr (lcm x y) := by
  unfold lcm
  split
  · decide
  · split <;> decide
theorem t64 {z : Int} (hz : inr z) : (Int64.ofInt z).toInt = z := Int64.toInt_ofInt_of_le (by have := hz.1; omega) (by have := hz.2; omega)
theorem s_lcmp (hx : p.tables.exec = Jvm.exec) (hb : c.code = cc) {x y : Int} (ix : inr x) (iy : inr y) (hdg : decode cc pc = .ok (.lcmp, 1)) (kk : W p l e R s m args below meth c H locs cells slots Q (F0 m (pc + 1) ls (vi (lcm x y) :: rest))) : W p l e R s m args below meth c H locs cells slots Q (F0 m pc ls (vl y :: vl x :: rest)) := by
  refine W.lcmp hx hb hdg ?_
  have e1 : lg_cmp (Int64.ofInt x) (Int64.ofInt y) = Int32.ofInt (lcm x y) := by
    have h1 : Int64.ofInt x < Int64.ofInt y ↔ x < y := by rw [Int64.lt_iff_toInt_lt, t64 ix, t64 iy]
    have h3 : Int64.ofInt y < Int64.ofInt x ↔ y < x := by rw [Int64.lt_iff_toInt_lt, t64 ix, t64 iy]
    have h2 : Int64.ofInt x = Int64.ofInt y ↔ x = y := by rw [← Int64.toInt_inj, t64 ix, t64 iy]
    unfold lg_cmp lcm
    by_cases c1 : x < y
    · have c4 : ¬ y < x := by omega
      have c5 : ¬ x = y := by omega
      simp [h1, h2, h3, c1, c4, c5]
    · by_cases c2 : x = y
      · simp [h1, h2, h3, c2]
      · have c3 : y < x := by omega
        simp [h1, h2, h3, c1, c2, c3]
  rw [e1]; exact kk
/-- the script -/
theorem s_sld {A : Nat → Prop} {b L : Nat} {xs : Nat → Int32} (hx : p.tables.exec = Jvm.exec) (hb : c.code = cc) (hX : va_X b L xs s H0) (hbl : b < H0.size) (hbA : ¬ A b) (hS : va_S A H0 H locs) {t : Nat} {z : Int} (hz : z = (t : Int)) (ht : t < L) (hL : L ≤ 2560) (hdg : decode cc pc = .ok (.iaload, 1)) (kk : W p l e R s m args below meth c H locs cells slots Q (F0 m (pc + 1) ls (vi (xs t).toInt :: rest))) : W p l e R s m args below meth c H locs cells slots Q (F0 m pc ls (vi z :: vr (b : Int) :: rest)) := by
  subst hz
  have hi : inr (t : Int) := by constructor <;> omega
  rw [vr_nat]
  refine va_sld hx hb hX hbl hbA hS (in_of hi (by omega) (by omega)) hdg ?_
  rw [ofI_cl hi]
  have e1 : vi (xs t).toInt = .int (xs t) := by show Value.int (Int32.ofInt (xs t).toInt) = _; rw [Int32.ofInt_toInt]
  rw [e1] at kk
  exact kk
theorem s_slen {A : Nat → Prop} {b L : Nat} {xs : Nat → Int32} (hx : p.tables.exec = Jvm.exec) (hb : c.code = cc) (hX : va_X b L xs s H0) (hbl : b < H0.size) (hbA : ¬ A b) (hS : va_S A H0 H locs) (hdg : decode cc pc = .ok (.arraylength, 1)) (kk : W p l e R s m args below meth c H locs cells slots Q (F0 m (pc + 1) ls (vi (L : Int) :: rest))) : W p l e R s m args below meth c H locs cells slots Q (F0 m pc ls (vr (b : Int) :: rest)) := by
  rw [vr_nat]
  exact va_slen hx hb hX hbl hbA hS hdg kk
end
