/-- what the tables and the statics say, that the words of BW don't: carried by every contract -/
def STR : List (Nat × String) := [(30, "no such size"), (35, "no such align"), (37, "no such order of a slab"), (43, "a slab would have no object"), (225, "no such cache"), (61, "an object of it is live"), (227, "no such processor"), (107, "no live object begins there"), (116, "its mark is not the tag"), (184, "no such fact of a cache"), (186, "no such list"), (194, "no slab lies there"), (205, "no such fact of a slab"), (215, "no such fact of a magazine"), (217, "no such order")]
abbrev exE : String := "java/util/NoSuchElementException"
abbrev exA : String := "java/lang/IllegalArgumentException"
abbrev exS : String := "java/lang/IllegalStateException"
abbrev inS (c : String) : MethodName := ⟨c, "<init>", "(Ljava/lang/String;)V"⟩
def XV (l : Launch) (base : Nat) (U : State) : Prop :=
  l.stackTraces = false ∧ (va_Nw (.declares (inS "java/lang/RuntimeException")) U ∧ va_Nw (.declares (inS "java/lang/Exception")) U ∧ va_Nw (.declares (inS "java/lang/Throwable")) U) ∧ (va_Nw (.castable exE exE) U ∧ va_Nw (.castable exA exA) U ∧ va_Nw (.castable exS exS) U) ∧ (va_Nc exA exE U ∧ va_Nc exS exE U ∧ va_Nc exS exA U) ∧ (vx_Zq Bundle.tN "UNASSIGNED_STACK" Bundle.steD (fun q => base ≤ q) U U.heap ∧ vx_Zq Bundle.tN "SUPPRESSED_SENTINEL" Bundle.listD (fun q => base ≤ q) U U.heap) ∧ ∀ q ∈ STR, ∃ sa, vk_R RX5 q.1 q.2 sa U
def EV (l : Launch) (D : va_G) (G : Nat → ClassId) (base : Nat) (U : State) : Prop :=
  va_K D vwCl (tysG G) U ∧ base ≤ U.heap.size ∧ (va_Nw (.methodLinkNest RX1 45 yX5_roundedUp RX5) U ∧ va_Nw (.methodLinkNest RX1 58 yX4_init RX5) U ∧ va_Nw (.methodLinkNest RX1 59 yX2_init RX5) U) ∧ (va_AO RX3 U ∧ va_AO RX1 U ∧ va_AO RX4 U ∧ va_AO RX2 U) ∧ XV l base U
theorem XV.go {l : Launch} {base : Nat} {s U : State} (hk : ∀ q : Nat, q < s.heap.size → ¬ base ≤ q → U.heap[q]? = s.heap[q]?) (hW : s.WarmedH U.vm) (h : XV l base s) : XV l base U := by
  obtain ⟨h1, ⟨a1, a2, a3⟩, ⟨b1, b2, b3⟩, ⟨c1, c2, c3⟩, ⟨d1, d2⟩, hs⟩ := h
  exact ⟨h1, ⟨va_Nw.warmD hW a1, va_Nw.warmD hW a2, va_Nw.warmD hW a3⟩, ⟨va_Nw.warmC hW b1, va_Nw.warmC hW b2, va_Nw.warmC hW b3⟩, ⟨va_Nc.moved hW.alike c1, va_Nc.moved hW.alike c2, va_Nc.moved hW.alike c3⟩, ⟨(vx_Zq.moved hW.alike d1).kept hk, (vx_Zq.moved hW.alike d2).kept hk⟩, fun q hq => (hs q hq).imp (fun sa h => vk_R.warm hW h)⟩
theorem XV.blind {l : Launch} {base : Nat} {s U : State} (hh : U.heap = s.heap) (hv : U.vm = s.vm) (h : XV l base s) : XV l base U := by
  obtain ⟨h1, ⟨a1, a2, a3⟩, ⟨b1, b2, b3⟩, ⟨c1, c2, c3⟩, ⟨d1, d2⟩, hs⟩ := h
  have ha : s.vm.Alike U.vm := by rw [hv]; exact Vm.Alike.refl _
  exact ⟨h1, ⟨va_Nw.same rfl hv.symm a1, va_Nw.same rfl hv.symm a2, va_Nw.same rfl hv.symm a3⟩, ⟨va_Nw.same rfl hv.symm b1, va_Nw.same rfl hv.symm b2, va_Nw.same rfl hv.symm b3⟩, ⟨va_Nc.moved ha c1, va_Nc.moved ha c2, va_Nc.moved ha c3⟩, ⟨by rw [hh]; exact vx_Zq.moved ha d1, by rw [hh]; exact vx_Zq.moved ha d2⟩, fun q hq => (hs q hq).imp (fun sa h => vk_R.same hv h)⟩
theorem EV.go {l : Launch} {D : va_G} {G : Nat → ClassId} {base : Nat} {s U : State} {H : Heap} {locs : List Loc} (hE : EV l D G base s) (hS : va_S (fun q => base ≤ q) s.heap H locs) (hU : U.heap = H) (hW : s.WarmedH U.vm) : EV l D G base U := by
  obtain ⟨h1, h2, ⟨h3, h4, h5⟩, ⟨h6, h7, h8, h9⟩, hx⟩ := hE
  exact ⟨va_K.moved hW.alike h1, by rw [hU]; exact Nat.le_trans h2 hS.1, ⟨va_Nw.warmM hW h3, va_Nw.warmM hW h4, va_Nw.warmM hW h5⟩, ⟨va_AO.moved hW.alike h6, va_AO.moved hW.alike h7, va_AO.moved hW.alike h8, va_AO.moved hW.alike h9⟩, hx.go (fun q a b => by rw [hU]; exact hS.2.1 q a b) hW⟩
theorem EV.blind {l : Launch} {D : va_G} {G : Nat → ClassId} {base : Nat} {U : State} (hE : EV l D G base U) (g : JFrame) (mk : MethodId) (a : Array Value) : EV l D G base (U.calling g mk a) := by
  obtain ⟨h1, h2, ⟨h3, h4, h5⟩, ⟨h6, h7, h8, h9⟩, hx⟩ := hE
  exact ⟨va_K.moved (u := U) (U := U.calling g mk a) (Vm.Alike.refl U.vm) h1, h2, ⟨va_Nw.same (u := U) rfl rfl h3, va_Nw.same (u := U) rfl rfl h4, va_Nw.same (u := U) rfl rfl h5⟩, ⟨va_AO.moved (u := U) (Vm.Alike.refl U.vm) h6, va_AO.moved (u := U) (Vm.Alike.refl U.vm) h7, va_AO.moved (u := U) (Vm.Alike.refl U.vm) h8, va_AO.moved (u := U) (Vm.Alike.refl U.vm) h9⟩, hx.blind rfl rfl⟩
abbrev Ab (base : Nat) : Nat → Prop := fun q => base ≤ q
def PC (l : Launch) (D : va_G) (G : Nat → ClassId) (base : Nat) (h : Hp) (av : List Value) : Array Value → State → Prop := va_Pc av (fun U => EV l D G base U ∧ SM D G base h U.heap)
def QR (D : va_G) (G : Nat → ClassId) (base : Nat) (ro : Option Value) (P : Prop) (h' : Hp) : Array Value → State → Outcome → State → Prop := fun _ st oc t => oc = .returned ro ∧ P ∧ SM D G base h' t.heap ∧ va_F (Ab base) st t
theorem PC.blind {l : Launch} {D : va_G} {G : Nat → ClassId} {base : Nat} {h : Hp} {av : List Value} : FrameBlind (PC l D G base h av) := fun a U g mk q => ⟨q.1, q.2.1.blind g mk a, q.2.2⟩
section
variable {p : Program} {l : Launch} {e : Env} {R : Room} {s : State} {m : MethodId} {args : Array Value} {below : List Frame} {meth : Method} {c : Code} {H : Heap} {locs : List Loc} {cells slots : Nat} {Q : State → Prop}
variable {cc : ByteArray} {pc nL : Nat} {ls : Array Slot} {rest : List Value} {D : va_G} {G : Nat → ClassId} {base : Nat} {h h' : Hp} {H0 : Heap}
theorem preS_of {av : List Value} (hE : EV l D G base s) (hM : SM D G base h H) (hS : va_S (Ab base) s.heap H locs) : PreS s H (PC l D G base h av) av :=
  ⟨PC.blind, fun U hU hW => ⟨rfl, hE.go hS hU hW, by rw [hU]; exact hM⟩⟩
theorem s_run {st0 : List Value} {a : Array Value} {mc ms : Nat} {ro : Option Value} {P : Prop} (hr : va_Run p l e R s m args below meth c H locs cells slots mc ms (F0 m pc ls st0) rest (QR D G base ro P h' a) (Ab base)) (hS : va_S (Ab base) H0 H locs) (kk : ∀ (H1 : Heap) (locs1 : List Loc), P → SM D G base h' H1 → va_S (Ab base) H0 H1 locs1 → W p l e R s m args below meth c H1 locs1 (cells + mc) (slots + ms) Q (F0 m (pc + 3) ls (ro.toList ++ rest))) : W p l e R s m args below meth c H locs cells slots Q (F0 m pc ls st0) := by
  intro T hT X
  obtain ⟨v, st₀, t, T', L, h0, X', hL, e1, e2, ⟨hv, hP, hM, hF⟩, st⟩ := hr T hT X
  cases hv
  obtain ⟨k1, k2, k3⟩ := vx_keep (A0 := Ab base) (A1 := Ab base) (free := Ab base) h0 e1 hS (fun _ _ z => z) (fun _ z => z) hL hF
  obtain ⟨t2, a1, b1⟩ := kk T'.heap (locs ++ L) hP (by rw [e1]; exact hM) k3 T' rfl X'
  exact ⟨t2, st t2 a1, b1⟩
theorem bw_warm (hts : ∀ w ∈ BW, w.before args s = true) : ∀ w ∈ BW, ∀ (a' : Array Value) (U : State), s.WarmedH U.vm → w.before a' U = true := fun w hw a' U hW => word_at hW (good_of_word (bw_good hw)) (hts w hw)
theorem cb_of {own : String} {index : Nat} {y : MethodName} {bytes : ByteArray} {maxL n : Nat} {ret : Option FieldType} {rm : Room} (hts : ∀ w ∈ BW, w.before args s = true) (hcode : Cond.code y bytes maxL ret ∈ BW) (hl : Cond.methodLink own index y ∈ BW) (hini : Cond.initialized y.cls ∈ BW) (hd : y.cls ≠ "java/lang/invoke/MethodHandle" ∧ y.cls ≠ "java/lang/invoke/VarHandle" ∧ (parseMethodDescriptor y.desc).map (fun d => d.parameters.length) = some n) (hR : rm.frames + 1 ≤ R.frames ∧ 8 + (maxL + 11) + rm.locals ≤ R.locals) : CallB R s args own index y bytes maxL ret (Cond.code y bytes maxL ret :: BW) rm rm.cells rm.slots n := by
  refine ⟨rfl, rfl, hR.1, hR.2, fun w hw a' U hW => ?_, List.mem_cons_self, hts _ hcode, hts _ hini, ⟨hd.1, hd.2.1⟩, fun sig h9 => ?_, hts _ hl⟩
  · rcases List.mem_cons.mp hw with rfl | hw
    · exact bw_warm hts _ hcode a' U hW
    · exact bw_warm hts _ hw a' U hW
  · have h8 := hd.2.2
    rw [h9] at h8
    exact (Option.some.inj h8).symm
theorem cn_of {own host : String} {index : Nat} {y : MethodName} {bytes : ByteArray} {maxL n : Nat} {ret : Option FieldType} {rm : Room} (hts : ∀ w ∈ BW, w.before args s = true) (hcode : Cond.code y bytes maxL ret ∈ BW) (hl : va_Nw (.methodLinkNest own index y host) s) (hini : Cond.initialized y.cls ∈ BW) (hd : y.cls ≠ "java/lang/invoke/MethodHandle" ∧ y.cls ≠ "java/lang/invoke/VarHandle" ∧ (parseMethodDescriptor y.desc).map (fun d => d.parameters.length) = some n) (hR : rm.frames + 1 ≤ R.frames ∧ 8 + (maxL + 11) + rm.locals ≤ R.locals) : va_CN R s args own index y host bytes maxL ret (Cond.code y bytes maxL ret :: BW) rm rm.cells rm.slots n := by
  refine ⟨⟨rfl, rfl, hR.1, hR.2, fun w hw a' U hW => ?_, List.mem_cons_self⟩, hts _ hcode, hts _ hini, ⟨hd.1, hd.2.1⟩, fun sig h9 => ?_, va_Nw.use rfl hl⟩
  · rcases List.mem_cons.mp hw with rfl | hw
    · exact bw_warm hts _ hcode a' U hW
    · exact bw_warm hts _ hw a' U hW
  · have h8 := hd.2.2
    rw [h9] at h8
    exact (Option.some.inj h8).symm
theorem s_callV {own C : String} {index ci : Nat} {y : MethodName} {bytes : ByteArray} {maxL n : Nat} {ret : Option FieldType} {rm : Room} {ro : Option Value} {P : Prop} {a : Int} {u : Unit} (As : List Value) {st0 : List Value} {q : vw_C} (hx : p.tables.exec = Jvm.exec) (hb : c.code = cc) (hml : c.maxLocals = nL) (hown : s.vm.findClass own = some m.cls) (hts : ∀ w ∈ BW, w.before args s = true) (hE : EV l D G base s) (hM : SM D G base h H) (hS : va_S (Ab base) s.heap H locs)
    (hMet : Met l y (Cond.code y bytes maxL ret :: BW) rm (PC l D G base h (vr a :: As)) (QR D G base ro P h') rm.cells rm.slots (Ab base))
    (hcode : Cond.code y bytes maxL ret ∈ BW) (hl : Cond.methodLink own index y ∈ BW) (hini : Cond.initialized y.cls ∈ BW) (hin : Cond.instanceMethod y ∈ BW) (hsel : Cond.selects C y y ∈ BW) (hd : y.cls ≠ "java/lang/invoke/MethodHandle" ∧ y.cls ≠ "java/lang/invoke/VarHandle" ∧ (parseMethodDescriptor y.desc).map (fun d => d.parameters.length) = some n) (hR : rm.frames + 1 ≤ R.frames ∧ 8 + (maxL + 11) + rm.locals ≤ R.locals)
    (hc : vwCl[ci]? = some q) (hq : q.1 = C) (hci : ci ≤ 6) (g : ckd h ci a = some u) (hn : As.length = n) (hlz : ls.size = nL) (hst : st0 = As.reverse ++ vr a :: rest) (hW : (rest.map fun v => v.category).sum ≤ 8) (hdg : decode cc pc = .ok (.invokevirtual index, 3)) (hf : cells + rm.cells ≤ R.cells ∧ slots + rm.slots ≤ R.slots)
    (kk : ∀ (H1 : Heap) (locs1 : List Loc), P → SM D G base h' H1 → va_S (Ab base) s.heap H1 locs1 → W p l e R s m args below meth c H1 locs1 (cells + rm.cells) (slots + rm.slots) Q (F0 m (pc + 3) ls (ro.toList ++ rest))) : W p l e R s m args below meth c H locs cells slots Q (F0 m pc ls st0) := by
  obtain ⟨g1, g2⟩ := ckd_s g
  subst hq
  rw [vr_pos g1] at hMet hst
  refine s_run (va_runV (As := As) (rest := rest) ⟨hx, hb, hml, hown, hts⟩ hMet ⟨cb_of hts hcode hl hini hd hR, hts _ hin, hts _ hsel⟩ ⟨PC.blind, va_recv hE.1 (hM.obj g2 hci) hc (ix_1 _), fun U hU hW => ⟨rfl, hE.go hS hU hW, by rw [hU]; exact hM⟩⟩ rfl hn hlz hst (lv_room hW) hdg hf) hS kk
theorem s_callS {own : String} {index : Nat} {y : MethodName} {bytes : ByteArray} {maxL n : Nat} {ret : Option FieldType} {rm : Room} {ro : Option Value} {P : Prop} (As : List Value) {st0 : List Value} (hx : p.tables.exec = Jvm.exec) (hb : c.code = cc) (hml : c.maxLocals = nL) (hown : s.vm.findClass own = some m.cls) (hts : ∀ w ∈ BW, w.before args s = true) (hE : EV l D G base s) (hM : SM D G base h H) (hS : va_S (Ab base) s.heap H locs)
    (hMet : Met l y (Cond.code y bytes maxL ret :: BW) rm (PC l D G base h As) (QR D G base ro P h') rm.cells rm.slots (Ab base))
    (hcode : Cond.code y bytes maxL ret ∈ BW) (hl : Cond.methodLink own index y ∈ BW) (hini : Cond.initialized y.cls ∈ BW) (hsta : Cond.static y ∈ BW) (hd : y.cls ≠ "java/lang/invoke/MethodHandle" ∧ y.cls ≠ "java/lang/invoke/VarHandle" ∧ (parseMethodDescriptor y.desc).map (fun d => d.parameters.length) = some n) (hR : rm.frames + 1 ≤ R.frames ∧ 8 + (maxL + 11) + rm.locals ≤ R.locals)
    (hn : As.length = n) (hlz : ls.size = nL) (hst : st0 = As.reverse ++ rest) (hW : (rest.map fun v => v.category).sum ≤ 8) (hdg : decode cc pc = .ok (.invokestatic index, 3)) (hf : cells + rm.cells ≤ R.cells ∧ slots + rm.slots ≤ R.slots)
    (kk : ∀ (H1 : Heap) (locs1 : List Loc), P → SM D G base h' H1 → va_S (Ab base) s.heap H1 locs1 → W p l e R s m args below meth c H1 locs1 (cells + rm.cells) (slots + rm.slots) Q (F0 m (pc + 3) ls (ro.toList ++ rest))) : W p l e R s m args below meth c H locs cells slots Q (F0 m pc ls st0) :=
  s_run (va_runS (As := As) (rest := rest) ⟨hx, hb, hml, hown, hts⟩ hMet ⟨cb_of hts hcode hl hini hd hR, hts _ hsta⟩ (preS_of hE hM hS) rfl hn hlz hst (lv_room hW) hdg hf) hS kk
theorem s_callSN {own host : String} {index : Nat} {y : MethodName} {bytes : ByteArray} {maxL n : Nat} {ret : Option FieldType} {rm : Room} {ro : Option Value} {P : Prop} (As : List Value) {st0 : List Value} (hx : p.tables.exec = Jvm.exec) (hb : c.code = cc) (hml : c.maxLocals = nL) (hown : s.vm.findClass own = some m.cls) (hts : ∀ w ∈ BW, w.before args s = true) (hE : EV l D G base s) (hM : SM D G base h H) (hS : va_S (Ab base) s.heap H locs)
    (hMet : Met l y (Cond.code y bytes maxL ret :: BW) rm (PC l D G base h As) (QR D G base ro P h') rm.cells rm.slots (Ab base))
    (hcode : Cond.code y bytes maxL ret ∈ BW) (hl : va_Nw (.methodLinkNest own index y host) s) (hini : Cond.initialized y.cls ∈ BW) (hsta : Cond.static y ∈ BW) (hd : y.cls ≠ "java/lang/invoke/MethodHandle" ∧ y.cls ≠ "java/lang/invoke/VarHandle" ∧ (parseMethodDescriptor y.desc).map (fun d => d.parameters.length) = some n) (hR : rm.frames + 1 ≤ R.frames ∧ 8 + (maxL + 11) + rm.locals ≤ R.locals)
    (hn : As.length = n) (hlz : ls.size = nL) (hst : st0 = As.reverse ++ rest) (hW : (rest.map fun v => v.category).sum ≤ 8) (hdg : decode cc pc = .ok (.invokestatic index, 3)) (hf : cells + rm.cells ≤ R.cells ∧ slots + rm.slots ≤ R.slots)
    (kk : ∀ (H1 : Heap) (locs1 : List Loc), P → SM D G base h' H1 → va_S (Ab base) s.heap H1 locs1 → W p l e R s m args below meth c H1 locs1 (cells + rm.cells) (slots + rm.slots) Q (F0 m (pc + 3) ls (ro.toList ++ rest))) : W p l e R s m args below meth c H locs cells slots Q (F0 m pc ls st0) :=
  s_run (va_runSN (As := As) (rest := rest) ⟨hx, hb, hml, hown, hts⟩ hMet ⟨cn_of hts hcode hl hini hd hR, hts _ hsta, trivial⟩ (preS_of hE hM hS) rfl hn hlz hst (lv_room hW) hdg hf) hS kk
theorem s_callI {own : String} {index ci : Nat} {y : MethodName} {bytes : ByteArray} {maxL n : Nat} {rm : Room} {ro : Option Value} {P : Prop} {a : Int} {u : Unit} (As : List Value) {st0 : List Value} (hx : p.tables.exec = Jvm.exec) (hb : c.code = cc) (hml : c.maxLocals = nL) (hown : s.vm.findClass own = some m.cls) (hts : ∀ w ∈ BW, w.before args s = true) (hE : EV l D G base s) (hM : SM D G base h H) (hS : va_S (Ab base) s.heap H locs)
    (hMet : Met l y (Cond.code y bytes maxL none :: BW) rm (PC l D G base h (vr a :: As)) (QR D G base ro P h') rm.cells rm.slots (Ab base))
    (hcode : Cond.code y bytes maxL none ∈ BW) (hl : Cond.methodLink own index y ∈ BW) (hini : Cond.initialized y.cls ∈ BW) (hin : Cond.instanceMethod y ∈ BW) (hy : y.name = "<init>") (hd : y.cls ≠ "java/lang/invoke/MethodHandle" ∧ y.cls ≠ "java/lang/invoke/VarHandle" ∧ (parseMethodDescriptor y.desc).map (fun d => d.parameters.length) = some n) (hR : rm.frames + 1 ≤ R.frames ∧ 8 + (maxL + 11) + rm.locals ≤ R.locals)
    (g : ckd h ci a = some u) (hn : As.length = n) (hlz : ls.size = nL) (hst : st0 = As.reverse ++ vr a :: rest) (hW : (rest.map fun v => v.category).sum ≤ 8) (hdg : decode cc pc = .ok (.invokespecial index, 3)) (hf : cells + rm.cells ≤ R.cells ∧ slots + rm.slots ≤ R.slots)
    (kk : ∀ (H1 : Heap) (locs1 : List Loc), P → SM D G base h' H1 → va_S (Ab base) s.heap H1 locs1 → W p l e R s m args below meth c H1 locs1 (cells + rm.cells) (slots + rm.slots) Q (F0 m (pc + 3) ls (ro.toList ++ rest))) : W p l e R s m args below meth c H locs cells slots Q (F0 m pc ls st0) := by
  obtain ⟨g1, g2⟩ := ckd_s g
  rw [vr_pos g1] at hMet hst
  exact s_run (va_runI (As := As) (rest := rest) ⟨hx, hb, hml, hown, hts⟩ hMet ⟨cb_of hts hcode hl hini hd hR, hy, hts _ hin⟩ (preS_of hE hM hS) rfl hn hlz hst (lv_room hW) hdg hf) hS kk
theorem s_callIN {own host : String} {index ci : Nat} {y : MethodName} {bytes : ByteArray} {maxL n : Nat} {rm : Room} {ro : Option Value} {P : Prop} {a : Int} {u : Unit} (As : List Value) {st0 : List Value} (hx : p.tables.exec = Jvm.exec) (hb : c.code = cc) (hml : c.maxLocals = nL) (hown : s.vm.findClass own = some m.cls) (hts : ∀ w ∈ BW, w.before args s = true) (hE : EV l D G base s) (hM : SM D G base h H) (hS : va_S (Ab base) s.heap H locs)
    (hMet : Met l y (Cond.code y bytes maxL none :: BW) rm (PC l D G base h (vr a :: As)) (QR D G base ro P h') rm.cells rm.slots (Ab base))
    (hcode : Cond.code y bytes maxL none ∈ BW) (hl : va_Nw (.methodLinkNest own index y host) s) (hini : Cond.initialized y.cls ∈ BW) (hin : Cond.instanceMethod y ∈ BW) (hy : y.name = "<init>") (hd : y.cls ≠ "java/lang/invoke/MethodHandle" ∧ y.cls ≠ "java/lang/invoke/VarHandle" ∧ (parseMethodDescriptor y.desc).map (fun d => d.parameters.length) = some n) (hR : rm.frames + 1 ≤ R.frames ∧ 8 + (maxL + 11) + rm.locals ≤ R.locals)
    (g : ckd h ci a = some u) (hn : As.length = n) (hlz : ls.size = nL) (hst : st0 = As.reverse ++ vr a :: rest) (hW : (rest.map fun v => v.category).sum ≤ 8) (hdg : decode cc pc = .ok (.invokespecial index, 3)) (hf : cells + rm.cells ≤ R.cells ∧ slots + rm.slots ≤ R.slots)
    (kk : ∀ (H1 : Heap) (locs1 : List Loc), P → SM D G base h' H1 → va_S (Ab base) s.heap H1 locs1 → W p l e R s m args below meth c H1 locs1 (cells + rm.cells) (slots + rm.slots) Q (F0 m (pc + 3) ls (ro.toList ++ rest))) : W p l e R s m args below meth c H locs cells slots Q (F0 m pc ls st0) := by
  obtain ⟨g1, g2⟩ := ckd_s g
  rw [vr_pos g1] at hMet hst
  exact s_run (va_runIN (As := As) (rest := rest) ⟨hx, hb, hml, hown, hts⟩ hMet ⟨cn_of hts hcode hl hini hd hR, hy, hts _ hin⟩ (preS_of hE hM hS) rfl hn hlz hst (lv_room hW) hdg hf) hS kk
theorem s_objInit {own : String} {idx ci : Nat} {a : Int} {u : Unit} (hx : p.tables.exec = Jvm.exec) (hb : c.code = cc) (hml : c.maxLocals = nL) (hown : s.vm.findClass own = some m.cls) (hts : ∀ w ∈ BW, w.before args s = true) (hl : Cond.methodLink own idx objectInit ∈ BW) (hin : Cond.instanceMethod objectInit ∈ BW) (hcode : Cond.code objectInit ⟨#[0xb1]⟩ 1 none ∈ BW) (g : ckd h ci a = some u) (hlz : ls.size = nL) (hdg : decode cc pc = .ok (.invokespecial idx, 3)) (hfr : 1 ≤ R.frames) (hlo : (rest.map fun v => v.category).sum + 12 ≤ R.locals) (kk : W p l e R s m args below meth c H locs cells slots Q (F0 m (pc + 3) ls rest)) : W p l e R s m args below meth c H locs cells slots Q (F0 m pc ls (vr a :: rest)) := by
  rw [vr_pos (ckd_s g).1]
  refine W.objInit hx hb hown (hts _ hl) (hts _ hin) (hts _ hcode) rfl (by rw [hml]; exact hlz) rfl hdg hfr ?_ ?_
  · have h0 : (F0 m pc ls (Value.ref a.toNat :: rest)).monitorRoom = 0 := by first | rfl | simp [JFrame.monitorRoom]
    rw [h0]; omega
  · exact W.eq (g2 := F0 m (pc + 3) ls rest) rfl kk
def imn (x y : Int) : Int := if y < x then y else x
def imx (x y : Int) : Int := if x < y then y else x
theorem inr_mn {x y : Int} (hx : inr x) (hy : inr y) : inr (imn x y) := by unfold imn; split <;> assumption
theorem inr_mx {x y : Int} (hx : inr x) (hy : inr y) : inr (imx x y) := by unfold imx; split <;> assumption
theorem s_min {own : String} {index : Nat} {x y : Int} (hx : p.tables.exec = Jvm.exec) (hb : c.code = cc) (hml : c.maxLocals = nL) (hlz : ls.size = nL) (hown : s.vm.findClass own = some m.cls) (hts : ∀ w ∈ BW, w.before args s = true) (hl : Cond.methodLink own index Lib.Math.min.name ∈ BW) (hst : Cond.static Lib.Math.min.name ∈ BW) (hini : Cond.initialized "java/lang/Math" ∈ BW) (hcode : Cond.code Lib.Math.min.name Lib.Math.min.code 2 (some .int) ∈ BW) (hfr : 1 ≤ R.frames) (hlo : (rest.map fun v => v.category).sum + 13 ≤ R.locals) (hc : cells ≤ R.cells) (hs : slots ≤ R.slots) (ix : inr x) (iy : inr y) (hdg : decode cc pc = .ok (.invokestatic index, 3)) (kk : W p l e R s m args below meth c H locs cells slots Q (F0 m (pc + 3) ls (vi (imn x y) :: rest))) : W p l e R s m args below meth c H locs cells slots Q (F0 m pc ls (vi y :: vi x :: rest)) := by
  refine va_mmin hx hb (by rw [hml]; exact hlz.symm) hown (hts _ hl) (hts _ hst) (hts _ hini) (hts _ hcode) hfr hlo hc hs hdg ?_
  have e1 : (if Int32.ofInt y < Int32.ofInt x then Int32.ofInt y else Int32.ofInt x) = Int32.ofInt (imn x y) := by
    unfold imn
    by_cases h1 : y < x
    · rw [if_pos h1, if_pos ((ofI_lt iy ix).mpr h1)]
    · rw [if_neg h1, if_neg (fun q => h1 ((ofI_lt iy ix).mp q))]
  rw [e1]; exact kk
theorem s_max {own : String} {index : Nat} {x y : Int} (hx : p.tables.exec = Jvm.exec) (hb : c.code = cc) (hml : c.maxLocals = nL) (hlz : ls.size = nL) (hown : s.vm.findClass own = some m.cls) (hts : ∀ w ∈ BW, w.before args s = true) (hl : Cond.methodLink own index Lib.Math.max.name ∈ BW) (hst : Cond.static Lib.Math.max.name ∈ BW) (hini : Cond.initialized "java/lang/Math" ∈ BW) (hcode : Cond.code Lib.Math.max.name Lib.Math.max.code 2 (some .int) ∈ BW) (hfr : 1 ≤ R.frames) (hlo : (rest.map fun v => v.category).sum + 13 ≤ R.locals) (hc : cells ≤ R.cells) (hs : slots ≤ R.slots) (ix : inr x) (iy : inr y) (hdg : decode cc pc = .ok (.invokestatic index, 3)) (kk : W p l e R s m args below meth c H locs cells slots Q (F0 m (pc + 3) ls (vi (imx x y) :: rest))) : W p l e R s m args below meth c H locs cells slots Q (F0 m pc ls (vi y :: vi x :: rest)) := by
  refine va_mmax hx hb (by rw [hml]; exact hlz.symm) hown (hts _ hl) (hts _ hst) (hts _ hini) (hts _ hcode) hfr hlo hc hs hdg ?_
  have e1 : (if Int32.ofInt x < Int32.ofInt y then Int32.ofInt y else Int32.ofInt x) = Int32.ofInt (imx x y) := by
    unfold imx
    by_cases h1 : x < y
    · rw [if_pos h1, if_pos ((ofI_lt ix iy).mpr h1)]
    · rw [if_neg h1, if_neg (fun q => h1 ((ofI_lt ix iy).mp q))]
  rw [e1]; exact kk
/-! ends -/
theorem s_iret {mc ms : Nat} {v rv : Int} (hx : p.tables.exec = Jvm.exec) (hb : c.code = cc) (hr : meth.sig.returnType = some .int) (hlocks : meth.locks = false) (hM : SM D G base h H) (hS : va_S (Ab base) s.heap H locs) (hv : inr v) (hrun : some (v, h) = some (rv, h')) (hc : cells ≤ mc) (hs : slots ≤ ms) (hdg : decode cc pc = .ok (.ireturn, 1)) : W p l e R s m args below meth c H locs cells slots (MQ below (QR D G base (some (vi rv)) (inr rv) h') args s mc ms (Ab base)) (F0 m pc ls [vi v]) := by
  cases hrun
  exact W.widen hc hs (W.iret hx hb hr (fun t ht hW => ⟨rfl, hv, by rw [ht]; exact hM, hS.F ht⟩) hS.2.2 hdg hlocks)
def rtB (v : Int) (h : Hp) : Option (Int × Hp) := if v = 0 ∨ v = 1 then some (v, h) else none
theorem s_zret {mc ms : Nat} {v rv : Int} (hx : p.tables.exec = Jvm.exec) (hb : c.code = cc) (hr : meth.sig.returnType = some .boolean) (hlocks : meth.locks = false) (hM : SM D G base h H) (hS : va_S (Ab base) s.heap H locs) (hv : inr v) (hrun : rtB v h = some (rv, h')) (hc : cells ≤ mc) (hs : slots ≤ ms) (hdg : decode cc pc = .ok (.ireturn, 1)) : W p l e R s m args below meth c H locs cells slots (MQ below (QR D G base (some (vi rv)) (inr rv) h') args s mc ms (Ab base)) (F0 m pc ls [vi v]) := by
  unfold rtB at hrun
  split at hrun
  · rename_i h0
    cases hrun
    refine W.widen hc hs (W.zret hx hb hr ?_ (fun t ht hW => ⟨rfl, hv, by rw [ht]; exact hM, hS.F ht⟩) hS.2.2 hdg hlocks)
    rcases h0 with rfl | rfl <;> decide
  · cases hrun
theorem s_vret {mc ms : Nat} {rv : Int} (hx : p.tables.exec = Jvm.exec) (hb : c.code = cc) (hr : meth.sig.returnType = none) (hlocks : meth.locks = false) (hM : SM D G base h H) (hS : va_S (Ab base) s.heap H locs) (hrun : some ((0 : Int), h) = some (rv, h')) (hc : cells ≤ mc) (hs : slots ≤ ms) (hdg : decode cc pc = .ok (.return_, 1)) : W p l e R s m args below meth c H locs cells slots (MQ below (QR D G base none True h') args s mc ms (Ab base)) (F0 m pc ls []) := by
  cases hrun
  exact W.widen hc hs (W.vret hx hb hr (fun t ht hW => ⟨rfl, trivial, by rw [ht]; exact hM, hS.F ht⟩) hS.2.2 hdg hlocks)
theorem s_aret {mc ms : Nat} {v rv : Int} {rt : FieldType} (hx : p.tables.exec = Jvm.exec) (hb : c.code = cc) (hr : meth.sig.returnType = some rt) (hrt : (∃ n, rt = .object n) ∨ ∃ t, rt = .array t) (hlocks : meth.locks = false) (hM : SM D G base h H) (hS : va_S (Ab base) s.heap H locs) (hrun : some (v, h) = some (rv, h')) (hc : cells ≤ mc) (hs : slots ≤ ms) (hdg : decode cc pc = .ok (.areturn, 1)) : W p l e R s m args below meth c H locs cells slots (MQ below (QR D G base (some (vr rv)) True h') args s mc ms (Ab base)) (F0 m pc ls [vr v]) := by
  cases hrun
  refine W.widen hc hs (W.aret hx hb hr hrt ?_ (fun t ht hW => ⟨rfl, trivial, by rw [ht]; exact hM, hS.F ht⟩) hS.2.2 hdg hlocks)
  by_cases h0 : v < 0
  · exact Or.inl (vr_neg h0)
  · exact Or.inr ⟨_, vr_pos (by omega)⟩
end
