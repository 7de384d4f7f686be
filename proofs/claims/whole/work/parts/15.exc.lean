/-! methods that may throw: code 0 they return, 1 NoSuchElement, 2 IllegalArgument, 3 IllegalState -/
def exN (k : Nat) : String := if k = 1 then exE else if k = 2 then exA else exS
def QRx (D : va_G) (G : Nat → ClassId) (base : Nat) (code : Nat) (ro : Option Value) (P : Prop) (h' : Hp) : Array Value → State → Outcome → State → Prop := fun a st oc t => code = 0 ∧ QR D G base ro P h' a st oc t
def XR (D : va_G) (G : Nat → ClassId) (base : Nat) (code : Nat) (h' : Hp) : String → State → State → Prop := fun E st t => code ≠ 0 ∧ E = exN code ∧ (∃ k, hN h' ≤ k ∧ SM D G base (hsN h' k) t.heap) ∧ va_F (Ab base) st t
theorem SM.ext {D : va_G} {G : Nat → ClassId} {base : Nat} {h : Hp} {H H1 : Heap} (hM : SM D G base h H) (hz : H.size ≤ H1.size) (hk : ∀ q : Nat, q < H.size → H1[q]? = H[q]?) : SM D G base (hsN h H1.size) H1 := by
  refine ⟨rfl, hM.2.1, fun a ha => ?_⟩
  obtain ⟨h1, h2, h3⟩ := hM.2.2 a ha
  exact ⟨h1, h2, h3.kept (hk a h3.lt)⟩
section
variable {p : Program} {l : Launch} {e : Env} {R : Room} {s : State} {m : MethodId} {args : Array Value} {below : List Frame} {meth : Method} {c : Code} {H : Heap} {locs : List Loc} {cells slots : Nat} {Q : State → Prop}
variable {cc : ByteArray} {pc nL : Nat} {ls : Array Slot} {rest : List Value} {D : va_G} {G : Nat → ClassId} {base : Nat} {h h' : Hp} {H0 : Heap}
theorem s_runX {st0 : List Value} {a : Array Value} {mc ms : Nat} {ro : Option Value} {P : Prop} {code : Nat} (hr : vx_Run p l e R s m args below meth c H locs cells slots mc ms (F0 m pc ls st0) rest (QRx D G base code ro P h' a) (XR D G base code h') (Ab base)) (hS : va_S (Ab base) H0 H locs)
    (kx : code ≠ 0 → ∀ (ce : Cell) (q9 : Addr) (H1 : Heap) (locs1 : List Loc) (k : Nat), hN h' ≤ k → SM D G base (hsN h' k) H1 → va_S (Ab base) H0 H1 locs1 → H1[q9]? = some ce → ce.vm = .none → s.vm.findClass (exN code) = some ce.cls → vx_W p l e R s m args below meth c H1 locs1 (cells + mc) (slots + ms) Q (F0 m pc ls rest) q9)
    (kk : code = 0 → ∀ (H1 : Heap) (locs1 : List Loc), P → SM D G base h' H1 → va_S (Ab base) H0 H1 locs1 → W p l e R s m args below meth c H1 locs1 (cells + mc) (slots + ms) Q (F0 m (pc + 3) ls (ro.toList ++ rest))) : W p l e R s m args below meth c H locs cells slots Q (F0 m pc ls st0) := by
  intro T hT X
  rcases hr T hT X with ⟨v, st₀, t, T', L, h0, X', hL, e1, e2, ⟨hcode, hv, hP, hM, hF⟩, st⟩ | ⟨q, st₀, t, T', L, E, ce, h0, X', hL, e1, e2, ⟨hcode, hE, ⟨k, hkn, hM⟩, hF⟩, hce, hcv, hcl, st⟩
  · cases hv
    obtain ⟨k1, k2, k3⟩ := vx_keep (A0 := Ab base) (A1 := Ab base) (free := Ab base) h0 e1 hS (fun _ _ z => z) (fun _ z => z) hL hF
    obtain ⟨t2, a1, b1⟩ := kk hcode T'.heap (locs ++ L) hP (by rw [e1]; exact hM) k3 T' rfl X'
    exact ⟨t2, st t2 a1, b1⟩
  · obtain ⟨k1, k2, k3⟩ := vx_keep (A0 := Ab base) (A1 := Ab base) (free := Ab base) h0 e1 hS (fun _ _ z => z) (fun _ z => z) hL hF
    obtain ⟨t2, a1, b1⟩ := kx hcode ce q T'.heap (locs ++ L) k hkn (by rw [e1]; exact hM) k3 (by rw [e1]; exact hce) hcv (by rw [← hE]; exact hcl) T' rfl X'
    exact ⟨t2, st.trans a1, b1⟩
/-- not caught here -/
theorem s_prop {mc ms : Nat} {ro : Option Value} {P : Prop} {code c1 : Nat} {rv : Int} {h1 : Hp} {q9 : Addr} {ce : Cell} {k : Nat} (hout : ∀ x ∈ c.exceptionTable.toList, False) (hlocks : meth.locks = false) (h0 : c1 ≠ 0) (hrun : some (c1, (0 : Int), h1) = some (code, rv, h')) (hkn : hN h1 ≤ k) (hM : SM D G base (hsN h1 k) H) (hS : va_S (Ab base) s.heap H locs) (hce : H[q9]? = some ce) (hcv : ce.vm = .none) (hcl : s.vm.findClass (exN c1) = some ce.cls) (hc : cells ≤ mc) (hs : slots ≤ ms) : vx_W p l e R s m args below meth c H locs cells slots (vx_MQ below (QRx D G base code ro P h') (XR D G base code h') args s mc ms (Ab base)) (F0 m pc ls rest) q9 := by
  cases hrun
  exact vx_out (fun x hx => (hout x hx).elim) hlocks hce hcv hcl (fun t ht hv => ⟨h0, rfl, ⟨k, hkn, by rw [ht]; exact hM⟩, hS.F ht⟩) hS.2.2 hc hs
theorem s_callVX {own C : String} {index ci : Nat} {y : MethodName} {bytes : ByteArray} {maxL n : Nat} {ret : Option FieldType} {rm : Room} {ro : Option Value} {P : Prop} {code : Nat} {a : Int} {u : Unit} (As : List Value) {st0 : List Value} {q : vw_C} (hx : p.tables.exec = Jvm.exec) (hb : c.code = cc) (hml : c.maxLocals = nL) (hown : s.vm.findClass own = some m.cls) (hts : ∀ w ∈ BW, w.before args s = true) (hE : EV l D G base s) (hM : SM D G base h H) (hS : va_S (Ab base) s.heap H locs)
    (hMet : vx_Met l y (Cond.code y bytes maxL ret :: BW) rm (PC l D G base h (vr a :: As)) (QRx D G base code ro P h') (XR D G base code h') rm.cells rm.slots (Ab base))
    (hcode : Cond.code y bytes maxL ret ∈ BW) (hl : Cond.methodLink own index y ∈ BW) (hini : Cond.initialized y.cls ∈ BW) (hin : Cond.instanceMethod y ∈ BW) (hsel : Cond.selects C y y ∈ BW) (hd : y.cls ≠ "java/lang/invoke/MethodHandle" ∧ y.cls ≠ "java/lang/invoke/VarHandle" ∧ (parseMethodDescriptor y.desc).map (fun d => d.parameters.length) = some n) (hR : rm.frames + 1 ≤ R.frames ∧ 8 + (maxL + 11) + rm.locals ≤ R.locals)
    (hc : vwCl[ci]? = some q) (hq : q.1 = C) (hci : ci ≤ 6) (g : ckd h ci a = some u) (hn : As.length = n) (hlz : ls.size = nL) (hst : st0 = As.reverse ++ vr a :: rest) (hW : (rest.map fun v => v.category).sum ≤ 8) (hdg : decode cc pc = .ok (.invokevirtual index, 3)) (hf : cells + rm.cells ≤ R.cells ∧ slots + rm.slots ≤ R.slots)
    (kx : code ≠ 0 → ∀ (ce : Cell) (q9 : Addr) (H1 : Heap) (locs1 : List Loc) (k : Nat), hN h' ≤ k → SM D G base (hsN h' k) H1 → va_S (Ab base) s.heap H1 locs1 → H1[q9]? = some ce → ce.vm = .none → s.vm.findClass (exN code) = some ce.cls → vx_W p l e R s m args below meth c H1 locs1 (cells + rm.cells) (slots + rm.slots) Q (F0 m pc ls rest) q9)
    (kk : code = 0 → ∀ (H1 : Heap) (locs1 : List Loc), P → SM D G base h' H1 → va_S (Ab base) s.heap H1 locs1 → W p l e R s m args below meth c H1 locs1 (cells + rm.cells) (slots + rm.slots) Q (F0 m (pc + 3) ls (ro.toList ++ rest))) : W p l e R s m args below meth c H locs cells slots Q (F0 m pc ls st0) := by
  obtain ⟨g1, g2⟩ := ckd_s g
  subst hq
  rw [vr_pos g1] at hMet hst
  exact s_runX (vx_runV (As := As) (rest := rest) ⟨hx, hb, hml, hown, hts⟩ hMet ⟨cb_of hts hcode hl hini hd hR, hts _ hin, hts _ hsel⟩ ⟨PC.blind, va_recv hE.1 (hM.obj g2 hci) hc (ix_1 _), fun U hU hW => ⟨rfl, hE.go hS hU hW, by rw [hU]; exact hM⟩⟩ rfl hn hlz hst (lv_room hW) hdg hf) hS kx kk
theorem s_callSX {own : String} {index : Nat} {y : MethodName} {bytes : ByteArray} {maxL n : Nat} {ret : Option FieldType} {rm : Room} {ro : Option Value} {P : Prop} {code : Nat} (As : List Value) {st0 : List Value} (hx : p.tables.exec = Jvm.exec) (hb : c.code = cc) (hml : c.maxLocals = nL) (hown : s.vm.findClass own = some m.cls) (hts : ∀ w ∈ BW, w.before args s = true) (hE : EV l D G base s) (hM : SM D G base h H) (hS : va_S (Ab base) s.heap H locs)
    (hMet : vx_Met l y (Cond.code y bytes maxL ret :: BW) rm (PC l D G base h As) (QRx D G base code ro P h') (XR D G base code h') rm.cells rm.slots (Ab base))
    (hcode : Cond.code y bytes maxL ret ∈ BW) (hl : Cond.methodLink own index y ∈ BW) (hini : Cond.initialized y.cls ∈ BW) (hsta : Cond.static y ∈ BW) (hd : y.cls ≠ "java/lang/invoke/MethodHandle" ∧ y.cls ≠ "java/lang/invoke/VarHandle" ∧ (parseMethodDescriptor y.desc).map (fun d => d.parameters.length) = some n) (hR : rm.frames + 1 ≤ R.frames ∧ 8 + (maxL + 11) + rm.locals ≤ R.locals)
    (hn : As.length = n) (hlz : ls.size = nL) (hst : st0 = As.reverse ++ rest) (hW : (rest.map fun v => v.category).sum ≤ 8) (hdg : decode cc pc = .ok (.invokestatic index, 3)) (hf : cells + rm.cells ≤ R.cells ∧ slots + rm.slots ≤ R.slots)
    (kx : code ≠ 0 → ∀ (ce : Cell) (q9 : Addr) (H1 : Heap) (locs1 : List Loc) (k : Nat), hN h' ≤ k → SM D G base (hsN h' k) H1 → va_S (Ab base) s.heap H1 locs1 → H1[q9]? = some ce → ce.vm = .none → s.vm.findClass (exN code) = some ce.cls → vx_W p l e R s m args below meth c H1 locs1 (cells + rm.cells) (slots + rm.slots) Q (F0 m pc ls rest) q9)
    (kk : code = 0 → ∀ (H1 : Heap) (locs1 : List Loc), P → SM D G base h' H1 → va_S (Ab base) s.heap H1 locs1 → W p l e R s m args below meth c H1 locs1 (cells + rm.cells) (slots + rm.slots) Q (F0 m (pc + 3) ls (ro.toList ++ rest))) : W p l e R s m args below meth c H locs cells slots Q (F0 m pc ls st0) :=
  s_runX (vx_runS (As := As) (rest := rest) ⟨hx, hb, hml, hown, hts⟩ hMet ⟨cb_of hts hcode hl hini hd hR, hts _ hsta⟩ (preS_of hE hM hS) rfl hn hlz hst (lv_room hW) hdg hf) hS kx kk
/-! ends -/
theorem s_xret {mc ms : Nat} {v rv : Int} {code : Nat} (hx : p.tables.exec = Jvm.exec) (hb : c.code = cc) (hr : meth.sig.returnType = some .int) (hlocks : meth.locks = false) (hM : SM D G base h H) (hS : va_S (Ab base) s.heap H locs) (hv : inr v) (hrun : some (0, v, h) = some (code, rv, h')) (hc : cells ≤ mc) (hs : slots ≤ ms) (hdg : decode cc pc = .ok (.ireturn, 1)) : W p l e R s m args below meth c H locs cells slots (vx_MQ below (QRx D G base code (some (vi rv)) (inr rv) h') (XR D G base code h') args s mc ms (Ab base)) (F0 m pc ls [vi v]) := by
  cases hrun
  exact W.widen hc hs (vx_ret (W.iret hx hb hr (fun t ht hW => ⟨rfl, rfl, hv, by rw [ht]; exact hM, hS.F ht⟩) hS.2.2 hdg hlocks))
theorem s_xvret {mc ms : Nat} {rv : Int} {code : Nat} (hx : p.tables.exec = Jvm.exec) (hb : c.code = cc) (hr : meth.sig.returnType = none) (hlocks : meth.locks = false) (hM : SM D G base h H) (hS : va_S (Ab base) s.heap H locs) (hrun : some (0, (0 : Int), h) = some (code, rv, h')) (hc : cells ≤ mc) (hs : slots ≤ ms) (hdg : decode cc pc = .ok (.return_, 1)) : W p l e R s m args below meth c H locs cells slots (vx_MQ below (QRx D G base code none True h') (XR D G base code h') args s mc ms (Ab base)) (F0 m pc ls []) := by
  cases hrun
  exact W.widen hc hs (vx_ret (W.vret hx hb hr (fun t ht hW => ⟨rfl, rfl, trivial, by rw [ht]; exact hM, hS.F ht⟩) hS.2.2 hdg hlocks))
theorem s_xaret {mc ms : Nat} {v rv : Int} {code : Nat} {rt : FieldType} (hx : p.tables.exec = Jvm.exec) (hb : c.code = cc) (hr : meth.sig.returnType = some rt) (hrt : (∃ n, rt = .object n) ∨ ∃ t, rt = .array t) (hlocks : meth.locks = false) (hM : SM D G base h H) (hS : va_S (Ab base) s.heap H locs) (hrun : some (0, v, h) = some (code, rv, h')) (hc : cells ≤ mc) (hs : slots ≤ ms) (hdg : decode cc pc = .ok (.areturn, 1)) : W p l e R s m args below meth c H locs cells slots (vx_MQ below (QRx D G base code (some (vr rv)) True h') (XR D G base code h') args s mc ms (Ab base)) (F0 m pc ls [vr v]) := by
  cases hrun
  refine W.widen hc hs (vx_ret (W.aret hx hb hr hrt ?_ (fun t ht hW => ⟨rfl, rfl, trivial, by rw [ht]; exact hM, hS.F ht⟩) hS.2.2 hdg hlocks))
  by_cases h0 : v < 0
  · exact Or.inl (vr_neg h0)
  · exact Or.inr ⟨_, vr_pos (by omega)⟩
/-- 'throw new E("text")' -/
theorem s_throw {mc ms : Nat} {ro : Option Value} {P : Prop} {ik is ic : Nat} {cls text : String} {code : Nat} {rv : Int} (k : Nat) (hk0 : k ≠ 0) (hkc : exN k = cls) (hx : p.tables.exec = Jvm.exec) (hb : c.code = cc) (hml : c.maxLocals = nL) (hlz : ls.size = nL) (hown : s.vm.findClass RX5 = some m.cls) (hts : ∀ w ∈ BW, w.before args s = true) (hE : EV l D G base s) (hM : SM D G base h H) (hS : va_S (Ab base) s.heap H locs) (hout : ∀ x ∈ c.exceptionTable.toList, False) (hlocks : meth.locks = false)
    (hfit : Bundle.fit cls = true) (hkl : Cond.classLink RX5 ik cls ∈ BW) (hin : Cond.initialized cls ∈ BW) (hstr : (is, text) ∈ STR) (hgd : ∀ w ∈ (vx_atS RX5 ic cls ["java/lang/RuntimeException", "java/lang/Exception"]).filter goodWord, w ∈ BW)
    (hrest : ∀ w ∈ (vx_atS RX5 ic cls ["java/lang/RuntimeException", "java/lang/Exception"]).filter (fun w => !goodWord w), w ∈ [Cond.declares (inS "java/lang/RuntimeException"), Cond.declares (inS "java/lang/Exception"), Cond.declares (inS "java/lang/Throwable"), Cond.castable exE exE, Cond.castable exA exA, Cond.castable exS exS])
    (hot : ∀ w ∈ Cond.classLink RX5 ik cls :: Cond.initialized cls :: vx_atS RX5 ic cls ["java/lang/RuntimeException", "java/lang/Exception"], vx_ot w = true)
    (d0 : decode cc pc = .ok (.new ik, 3)) (d3 : decode cc (pc + 3) = .ok (.dup, 1)) (d4 : decode cc (pc + 4) = .ok (.ldc is, 2)) (d6 : decode cc (pc + 6) = .ok (.invokespecial ic, 3)) (d9 : decode cc (pc + 9) = .ok (.athrow, 1))
    (hRf : 5 < R.frames) (hRl : (rest.map fun v => v.category).sum + 82 ≤ R.locals) (hRc : cells + 1 ≤ R.cells) (hRs : slots + 6 ≤ R.slots) (hc : cells + 1 ≤ mc) (hs : slots + 6 ≤ ms) (hrun : some (k, (0 : Int), h) = some (code, rv, h')) : W p l e R s m args below meth c H locs cells slots (vx_MQ below (QRx D G base code ro P h') (XR D G base code h') args s mc ms (Ab base)) (F0 m pc ls rest) := by
  cases hrun
  obtain ⟨hl, ⟨a1, a2, a3⟩, ⟨b1, b2, b3⟩, -, ⟨z1, z2⟩, hst⟩ := hE.2.2.2.2
  obtain ⟨sa, hsa⟩ := hst _ hstr
  have hat : ∀ w ∈ vx_atS RX5 ic cls ["java/lang/RuntimeException", "java/lang/Exception"], w.before args s = true := vx_hat (fun w hw => hts w (hgd w hw)) hrest (vx_c (va_Nw.use rfl a1) (vx_c (va_Nw.use rfl a2) (vx_c (va_Nw.use rfl a3) (vx_c (va_Nw.use rfl b1) (vx_c (va_Nw.use rfl b2) (vx_c (va_Nw.use rfl b3) vx_n))))))
  refine vx_throwS (A := Ab base) hx hb hl hown hfit (fun n hn => ?_) (hts _ hkl) (hts _ hin) hsa hat hot z1 z2 hS (by rw [hml]; exact hlz) d0 d3 d4 d6 d9 (fun x hx => (hout x hx).elim) hRf hRl hRc hRs hlocks (fun t hv hz hk => ?_) hS.2.2 hc hs
  · rcases List.mem_cons.mp hn with rfl | hn
    · decide +kernel
    · rcases List.mem_cons.mp hn with rfl | hn
      · decide +kernel
      · cases hn
  · refine ⟨hk0, hkc.symm, ⟨t.heap.size, by rw [← hM.1]; exact hz, hM.ext hz hk⟩, Nat.le_trans hS.1 hz, fun q h1 h2 => ?_⟩
    rw [hk q (Nat.lt_of_lt_of_le h1 hS.1)]
    exact hS.2.1 q h1 h2
end
abbrev QIx (D : va_G) (G : Nat → ClassId) (base : Nat) (code : Nat) (rv : Int) (h' : Hp) (below : List Frame) (args : Array Value) (s : State) (mc ms : Nat) : State → Prop := vx_MQ below (QRx D G base code (some (vi rv)) (inr rv) h') (XR D G base code h') args s mc ms (Ab base)
abbrev QVx (D : va_G) (G : Nat → ClassId) (base : Nat) (code : Nat) (rv : Int) (h' : Hp) (below : List Frame) (args : Array Value) (s : State) (mc ms : Nat) : State → Prop := vx_MQ below (QRx D G base code none True h') (XR D G base code h') args s mc ms (Ab base)
abbrev QFx (D : va_G) (G : Nat → ClassId) (base : Nat) (code : Nat) (rv : Int) (h' : Hp) (below : List Frame) (args : Array Value) (s : State) (mc ms : Nat) : State → Prop := vx_MQ below (QRx D G base code (some (vr rv)) True h') (XR D G base code h') args s mc ms (Ab base)
