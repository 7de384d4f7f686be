section
variable {p : Program} {l : Launch} {e : Env} {R : Room} {s : State} {m : MethodId} {args : Array Value} {below : List Frame} {meth : Method} {c : Code} {H : Heap} {locs : List Loc} {cells slots : Nat} {Q : State → Prop}
variable {cc : ByteArray} {pc nL : Nat} {ls : Array Slot} {rest : List Value} {D : va_G} {G : Nat → ClassId} {base : Nat} {h h' : Hp} {H0 : Heap}
theorem s_throwE {mc ms : Nat} {ro : Option Value} {P : Prop} {is : Nat} {text : String} {code : Nat} {rv : Int} (hx : p.tables.exec = Jvm.exec) (hb : c.code = cc) (hml : c.maxLocals = nL) (hlz : ls.size = nL) (hown : s.vm.findClass RX5 = some m.cls) (hts : ∀ w ∈ BW, w.before args s = true) (hE : EV l D G base s) (hM : SM D G base h H) (hS : va_S (Ab base) s.heap H locs) (hout : ∀ x ∈ c.exceptionTable.toList, False) (hlocks : meth.locks = false) (hstr : (is, text) ∈ STR)
    (d0 : decode cc pc = .ok (.new 105, 3)) (d3 : decode cc (pc + 3) = .ok (.dup, 1)) (d4 : decode cc (pc + 4) = .ok (.ldc is, 2)) (d6 : decode cc (pc + 6) = .ok (.invokespecial 109, 3)) (d9 : decode cc (pc + 9) = .ok (.athrow, 1))
    (hRf : 5 < R.frames) (hRl : (rest.map fun v => v.category).sum + 82 ≤ R.locals) (hRc : cells + 1 ≤ R.cells) (hRs : slots + 6 ≤ R.slots) (hc : cells + 1 ≤ mc) (hs : slots + 6 ≤ ms) (hrun : some (1, (0 : Int), h) = some (code, rv, h')) : W p l e R s m args below meth c H locs cells slots (vx_MQ below (QRx D G base code ro P h') (XR D G base code h') args s mc ms (Ab base)) (F0 m pc ls rest) := by
  sorry
end
