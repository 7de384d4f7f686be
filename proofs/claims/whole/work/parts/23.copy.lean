/-! Arrays.copyOf of a longer length -/
def hfill (h : Hp) (a : Nat) (f : Nat → Int) : Hp := (h.1, h.2.1, fun b j => if b = a then f j else h.2.2.1 b j, h.2.2.2)
theorem SM.fill {D : va_G} {G : Nat → ClassId} {base : Nat} {h : Hp} {H : Heap} {a : Nat} {f : Nat → Int} {H1 : Heap} (hM : SM D G base h H) (ha : hK h a ≠ 0) (z : H1.size = H.size) (oq : ∀ q : Nat, q ≠ a → H1[q]? = H[q]?) (hv : ∀ k, isI (hK h a) k = true → inr (f k)) (hw : va_at D vwCl (a, encE G (hfill h a f) a) H1) : SM D G base (hfill h a f) H1 := by
  refine ⟨by rw [z]; exact hM.1, fun b j hb hi => ?_, fun b hb => ?_⟩
  · show inr (if b = a then f j else hF h b j)
    split
    · rename_i g; subst g; exact hv j hi
    · exact hM.2.1 b j hb hi
  · refine ⟨(hM.2.2 b hb).1, (hM.2.2 b hb).2.1, ?_⟩
    by_cases hba : b = a
    · subst hba; exact hw
    · have e1 : encE G (hfill h a f) b = encE G h b := by
        have : ∀ j, hF (hfill h a f) b j = hF h b j := fun j => if_neg hba
        unfold encE
        simp only [this]
        rfl
      rw [e1]
      exact (hM.2.2 b hb).2.2.kept (oq b hba)
section
variable {p : Program} {l : Launch} {e : Env} {R : Room} {s : State} {m : MethodId} {args : Array Value} {below : List Frame} {meth : Method} {c : Code} {H : Heap} {locs : List Loc} {cells slots : Nat} {Q : State → Prop}
variable {cc : ByteArray} {pc nL : Nat} {ls : Array Slot} {rest : List Value} {D : va_G} {G : Nat → ClassId} {base : Nat} {h : Hp} {H0 : Heap}
theorem s_copy {own : String} {index : Nat} (hx : p.tables.exec = Jvm.exec) (hb : c.code = cc) (hml : c.maxLocals = nL) (hlz : ls.size = nL) (hown : s.vm.findClass own = some m.cls) (hlink : (Cond.methodLink own index arraycopyName).before args s = true) (hnat : (Cond.native arraycopyName).before args s = true) (hstat : (Cond.static arraycopyName).before args s = true) (hini : (Cond.initialized "java/lang/System").before args s = true)
    (hV : va_K D vwCl (tysG G) s) (hM : SM D G base h H) (hS : va_S (Ab base) H0 H locs) {a0 a n : Int} (h0 : 0 ≤ a0) (k0 : hK h a0.toNat = 8) (h1 : 0 ≤ a) (k1 : hK h a.toNat = 8) (hn : inr n) (hn0 : 0 ≤ n) (l0 : n ≤ (hL h a0.toNat : Int)) (l1 : n ≤ (hL h a.toNat : Int)) (hframes : 1 ≤ R.frames) (hlocals : (rest.map fun v => v.category).sum + (nativeFrameWords "java/lang/System" "arraycopy" 5 + 11) ≤ R.locals) (hdg : decode cc pc = .ok (.invokestatic index, 3))
    (kk : ∀ (H1 : Heap) (locs1 : List Loc), SM D G base (hfill h a.toNat (fun j => if j < n.toNat then hF h a0.toNat j else hF h a.toNat j)) H1 → va_S (Ab base) H0 H1 locs1 → W p l e R s m args below meth c H1 locs1 cells slots Q (F0 m (pc + 3) ls rest)) : W p l e R s m args below meth c H locs cells slots Q (F0 m pc ls (vi n :: vi 0 :: vr a :: vi 0 :: vr a0 :: rest)) := by
  rw [vr_pos h0, vr_pos h1]
  intro T hT X
  have hc0 : H[a0.toNat]? = some (vp_cell (G 8) (hL h a0.toNat, .inl (fun j => Int32.ofInt (hF h a0.toNat j)))) := hM.arI k0 (by decide) (by decide) 0 _ (ix_1 _)
  have hc1 : H[a.toNat]? = some (vp_cell (G 8) (hL h a.toNat, .inl (fun j => Int32.ofInt (hF h a.toNat j)))) := hM.arI k1 (by decide) (by decide) 0 _ (ix_1 _)
  obtain ⟨-, q0, hk0, cm0, hkk0⟩ := (hV.2 0 _ rfl).1 (hL h a0.toNat) (fun j => .int (Int32.ofInt (hF h a0.toNat j)))
  obtain ⟨-, q1, hk1, cm1, hkk1⟩ := (hV.2 0 _ rfl).1 (hL h a.toNat) (fun j => .int (Int32.ofInt (hF h a.toNat j)))
  have en : (Int32.ofInt n).toNatClampNeg = n.toNat := ofI_cl hn
  have z0 : (Int32.ofInt 0).toNatClampNeg = 0 := by decide
  have t0 : (Int32.ofInt 0).toInt = 0 := by decide
  have tn : (Int32.ofInt n).toInt = n := ti_of hn
  obtain ⟨vm', X', step⟩ := X.arraycopy hx hown hlink hnat hstat hini (src := a0.toNat) (dst := a.toNat) (cs := vp_cell (G 8) (hL h a0.toNat, .inl (fun j => Int32.ofInt (hF h a0.toNat j)))) (cd := vp_cell (G 8) (hL h a.toNat, .inl (fun j => Int32.ofInt (hF h a.toNat j)))) (srcPos := Int32.ofInt 0) (destPos := Int32.ofInt 0) (n := Int32.ofInt n) (by rw [hT]; exact hc0) (by rw [hT]; exact hc1)
    (fun _ h => by cases h) (fun _ h => by cases h) (fun h => by cases h) (fun h => by cases h) hk0 hk1 hkk0 hkk1 (by simp [refKind]) (by decide) (by decide) (fun q => by have := (ofI_lt hn i_0).mp q; omega)
    (by rw [t0, tn]; show ¬ _ > ((arrV (G 8) (hL h a0.toNat) (fun j => .int (Int32.ofInt (hF h a0.toNat j)))).slots.size : Int); rw [arrV_size]; omega)
    (by rw [t0, tn]; show ¬ _ > ((arrV (G 8) (hL h a.toNat) (fun j => .int (Int32.ofInt (hF h a.toNat j)))).slots.size : Int); rw [arrV_size]; omega)
    (fun vm₁ _ i hi => by
      rw [en] at hi
      have e : (vp_cell (G 8) (hL h a0.toNat, .inl (fun j => Int32.ofInt (hF h a0.toNat j)))).slots.getD ((Int32.ofInt 0).toNatClampNeg + i) .null = .int (Int32.ofInt (hF h a0.toNat ((Int32.ofInt 0).toNatClampNeg + i))) := by
        show (arrV (G 8) (hL h a0.toNat) (fun j => .int (Int32.ofInt (hF h a0.toNat j)))).slots.getD _ _ = _
        rw [Array.getD_eq_getD_getElem?, arrV_read _ _ (by rw [z0]; omega)]
        rfl
      refine ⟨?_, ?_⟩
      · rw [e]
        rfl
      · rw [e]
        exact trivial)
    (g := F0 m pc ls (vi n :: vi 0 :: .ref a.toNat :: vi 0 :: .ref a0.toNat :: rest)) rfl (by rw [hml]; exact hlz) (rest := rest) rfl (by rw [hb]; exact hdg) hframes (by show 2 * 0 + _ + _ ≤ _; omega)
  have e1 : copied (vp_cell (G 8) (hL h a0.toNat, .inl (fun j => Int32.ofInt (hF h a0.toNat j)))) (vp_cell (G 8) (hL h a.toNat, .inl (fun j => Int32.ofInt (hF h a.toNat j)))) (Int32.ofInt 0) (Int32.ofInt 0) (Int32.ofInt n) = vp_cell (G 8) (hL h a.toNat, .inl (va_cpy (fun j => Int32.ofInt (hF h a0.toNat j)) (fun j => Int32.ofInt (hF h a.toNat j)) (Int32.ofInt 0).toNatClampNeg (Int32.ofInt 0).toNatClampNeg (Int32.ofInt n).toNatClampNeg)) := by
    have h9 : (Int32.ofInt 0).toNatClampNeg + (Int32.ofInt n).toNatClampNeg ≤ hL h a0.toNat := by rw [en, z0]; omega
    exact va_copied (fun z => .int z) (G 8) (G 8) (fun j => Int32.ofInt (hF h a0.toNat j)) (fun j => Int32.ofInt (hF h a.toNat j)) h9
  rw [e1, en, z0] at X' step
  have hl : a.toNat < H.size := (Array.getElem?_eq_some_iff.mp hc1).1
  generalize hce : vp_cell (G 8) (hL h a.toNat, .inl (va_cpy (fun j => Int32.ofInt (hF h a0.toNat j)) (fun j => Int32.ofInt (hF h a.toNat j)) 0 0 n.toNat)) = ce at X' step
  have hheap : ((T.setVm vm').setCell a.toNat ce).heap = H.setIfInBounds a.toNat ce := by rw [← hT]; rfl
  have oq : ∀ q : Nat, q ≠ a.toNat → (H.setIfInBounds a.toNat ce)[q]? = H[q]? := fun q hq => by simp [Array.getElem?_setIfInBounds, Ne.symm hq]
  have hba : base ≤ a.toNat := (hM.2.2 _ (by rw [k1]; decide)).1
  obtain ⟨t, a1, b1⟩ := kk (H.setIfInBounds a.toNat ce) _ (hM.fill (by rw [k1]; decide) (by simp) oq (fun k hi => by
      show inr (if k < n.toNat then hF h a0.toNat k else hF h a.toNat k)
      split
      · exact hM.2.1 _ _ (by rw [k0]; decide) (by rw [k0]; rfl)
      · exact hM.2.1 _ _ (by rw [k1]; decide) (by rw [k1]; rfl)) (by
      have hk2 : hK (hfill h a.toNat (fun j => if j < n.toNat then hF h a0.toNat j else hF h a.toNat j)) a.toNat = 8 := k1
      unfold encE
      rw [if_neg (by omega), if_pos (by omega), hk2]
      show (H.setIfInBounds a.toNat ce)[a.toNat]? = some (vp_cell _ _)
      rw [Array.getElem?_setIfInBounds_self_of_lt hl, ← hce]
      refine congrArg (fun f => some (vp_cell (G 8) (hL h a.toNat, .inl f))) ?_
      funext q
      show va_cpy _ _ 0 0 n.toNat q = Int32.ofInt (if a.toNat = a.toNat then (if q < n.toNat then hF h a0.toNat q else hF h a.toNat q) else _)
      rw [if_pos rfl]
      unfold va_cpy
      by_cases hq : q < n.toNat
      · rw [if_pos hq, if_pos ⟨by omega, by omega⟩]; simp
      · rw [if_neg hq, if_neg (fun z => hq (by omega))])) ⟨by simp; exact hS.1, fun q g1 g2 => by
      rw [oq q (fun e => g2 (by show base ≤ q; rw [e]; exact hba))]
      exact hS.2.1 q g1 g2, fun q hq => by
      rcases List.mem_append.mp hq with h | h
      · exact hS.2.2 q h
      · obtain ⟨z, -, hz⟩ := List.mem_map.mp h
        rw [← hz]
        exact hba⟩ _ hheap X'
  exact ⟨t, step t a1, b1⟩
end
def f_J7_copyOf_59c91 (h : Hp) (x0 x1 : Int) : Option (Int × Hp) :=
  if 0 ≤ x0 ∧ hK h x0.toNat = 8 ∧ (hL h x0.toNat : Int) < x1 ∧ x1 ≤ 1024 then some ((hN h : Int), hnew h 8 x1.toNat (fun j => if j < hL h x0.toNat then hF h x0.toNat j else 0)) else none
abbrev w_J7_copyOf_59c91 : List Cond := Cond.code yJ7_copyOf_59c91 cJ7_copyOf_59c91 3 (some (.array .int)) :: BW
abbrev rm_J7_copyOf_59c91 : Room := { frames := 1, cells := 1, slots := 1024, locals := 60 }
set_option maxHeartbeats 4000000 in
set_option maxRecDepth 100000 in
theorem c_J7_copyOf_59c91 (l : Launch) (D : va_G) (G : Nat → ClassId) (base : Nat) (h h' : Hp) (x0 x1 : Int) (rv : Int) (i_x1 : inr x1) (hrun : f_J7_copyOf_59c91 h x0 x1 = some (rv, h')) : Met l yJ7_copyOf_59c91 w_J7_copyOf_59c91 rm_J7_copyOf_59c91 (PC l D G base h [vr x0, vi x1]) (QR D G base (some (vr rv)) True h') rm_J7_copyOf_59c91.cells rm_J7_copyOf_59c91.slots (Ab base) := by
  refine Met.ofW (cc := cJ7_copyOf_59c91) (maxL := 3) (ret := (some (.array .int))) (by decide) rfl ?_
  intro p e s m args below meth c s₁ B hml hv
  obtain ⟨hargs, hE, hM⟩ := hv
  have hx := B.exec
  have hb := B.bytes
  have hr := B.returns
  have hts0 := atoms_spec (ws := w_J7_copyOf_59c91) B.pre
  have hts : ∀ w ∈ BW, w.before args s = true := fun w hw => hts0 w (List.mem_cons_of_mem _ hw)
  have hown : s.vm.findClass RJ7 = some m.cls := findClass_of_methodNamed B.named
  have hlocks := B.notSynchronized
  unfold f_J7_copyOf_59c91 at hrun
  split at hrun
  case isFalse => cases hrun
  rename_i hc
  obtain ⟨c1, c2, c3, c4⟩ := hc
  have g0 : aln h 8 x0 = some (hL h x0.toNat : Int) := by unfold aln; rw [if_pos ⟨c1, c2, by omega⟩]
  have hlen : inr (hL h x0.toNat : Int) := aln_i g0
  refine s_entry hargs hM (c_r (c_i c_0)) (Nat.le_of_ble_eq_true rfl) (fun H locs ls hM hS hl => ?_)
  replace hl : lvh ls 3 [(0, vr x0), (1, vi x1)] := hl
  refine lv_iload_n hx hb dJ7_copyOf_59c91_0 rfl (la hl 1 rfl) ?_
  refine s_aload_n hx hb dJ7_copyOf_59c91_1 rfl (la hl 0 rfl) ?_
  refine s_alen hx hb hE.1 hM g0 dJ7_copyOf_59c91_2 ?_
  refine s_icmp_ne (tgt := 14) hx hb dJ7_copyOf_59c91_3 (by decide) i_x1 hlen (fun cd => ?_) (fun cd => absurd (by omega) cd)
  refine lv_iload_n hx hb dJ7_copyOf_59c91_14 rfl (la hl 1 rfl) ?_
  have g1 : nwa h 8 1024 x1 = some (hnew h 8 x1.toNat (fun _ => if 8 ≤ 10 then 0 else -1)) := by unfold nwa; rw [if_pos ⟨by omega, c4⟩]
  refine s_newa hx hb (atype := .int) (kd := 8) (bound := 1024) (hts _ kw_78) hE.1 (Or.inl ⟨rfl, rfl⟩) hM hS hE.2.1 i_x1 g1 (by decide) (Nat.le_of_ble_eq_true rfl) (Nat.le_of_ble_eq_true rfl) dJ7_copyOf_59c91_15 (fun H hM2 hS => ?_)
  have hne : x0.toNat ≠ hN h := by
    have h5 := (hM.2.2 x0.toNat (by rw [c2]; decide)).2.2.lt
    rw [hM.1] at h5
    exact Nat.ne_of_lt h5
  generalize hh2 : hnew h 8 x1.toNat (fun _ => if 8 ≤ 10 then 0 else -1) = h2 at hM2
  have k0 : hK h2 x0.toNat = 8 := by rw [← hh2]; show (if x0.toNat = hN h then 8 else hK h x0.toNat) = 8; rw [if_neg hne]; exact c2
  have L0 : hL h2 x0.toNat = hL h x0.toNat := by rw [← hh2]; exact if_neg hne
  have k1 : hK h2 ((hN h : Int)).toNat = 8 := by rw [← hh2]; exact if_pos rfl
  have L1 : hL h2 ((hN h : Int)).toNat = x1.toNat := by rw [← hh2]; exact if_pos rfl
  refine t_astore_n (lv' := [(2, vr (hN h : Int)), (0, vr x0), (1, vi x1)]) hx hb dJ7_copyOf_59c91_17 rfl hl (by decide) rfl (fun ls hl => ?_)
  refine s_aload_n hx hb dJ7_copyOf_59c91_18 rfl (la hl 1 rfl) ?_
  refine lv_iconst (v := Int32.ofInt 0) hx hb dJ7_copyOf_59c91_19 rfl ?_
  refine s_aload_n hx hb dJ7_copyOf_59c91_20 rfl (la hl 0 rfl) ?_
  refine lv_iconst (v := Int32.ofInt 0) hx hb dJ7_copyOf_59c91_21 rfl ?_
  refine s_aload_n hx hb dJ7_copyOf_59c91_22 rfl (la hl 1 rfl) ?_
  have g2 : aln h2 8 x0 = some (hL h x0.toNat : Int) := by unfold aln; rw [L0, if_pos ⟨c1, k0, by omega⟩]
  refine s_alen hx hb hE.1 hM2 g2 dJ7_copyOf_59c91_23 ?_
  refine lv_iload_n hx hb dJ7_copyOf_59c91_24 rfl (la hl 2 rfl) ?_
  refine s_min hx hb hml hl.1.1 hown hts kw_529 kw_117 kw_50 kw_118 (Nat.le_of_ble_eq_true rfl) (cN (c_i (c_r (c_i (c_r c_0)))) (Nat.le_of_ble_eq_true rfl)) (Nat.le_of_ble_eq_true rfl) (Nat.le_of_ble_eq_true rfl) hlen i_x1 dJ7_copyOf_59c91_25 ?_
  have e5 : imn (hL h x0.toNat : Int) x1 = (hL h x0.toNat : Int) := if_neg (by omega)
  rw [e5]
  refine s_copy hx hb hml hl.1.1 hown (hts _ kw_530) (hts _ kw_532) (hts _ kw_531) (hts _ kw_52) hE.1 hM2 hS c1 k0 (by omega) k1 hlen (by omega) (by rw [L0]; omega) (by rw [L1]; omega) (Nat.le_of_ble_eq_true rfl) (cN c_0 (by decide +kernel)) dJ7_copyOf_59c91_28 (fun H locs hM hS => ?_)
  refine s_aload_n hx hb dJ7_copyOf_59c91_31 rfl (la hl 0 rfl) ?_
  refine s_aret hx hb hr (Or.inr ⟨_, rfl⟩) hlocks hM hS ?_ (Nat.le_of_ble_eq_true rfl) (Nat.le_of_ble_eq_true rfl) dJ7_copyOf_59c91_32
  rw [← hrun]
  refine congrArg some (Prod.ext rfl ?_)
  rw [← hh2]
  refine Prod.ext rfl (Prod.ext rfl (Prod.ext ?_ rfl))
  funext b j
  show (if b = ((hN h : Nat) : Int).toNat then (if j < ((hL h x0.toNat : Nat) : Int).toNat then hF (hnew h 8 x1.toNat _) x0.toNat j else hF (hnew h 8 x1.toNat _) ((hN h : Nat) : Int).toNat j) else (if b = hN h then (if 8 ≤ 10 then 0 else -1) else hF h b j)) = (if b = hN h then (if j < hL h x0.toNat then hF h x0.toNat j else 0) else hF h b j)
  have e6 : ((hN h : Nat) : Int).toNat = hN h := by omega
  have e7 : ((hL h x0.toNat : Nat) : Int).toNat = hL h x0.toNat := by omega
  rw [e6, e7]
  by_cases hb1 : b = hN h
  · rw [if_pos hb1, if_pos hb1]
    by_cases hj : j < hL h x0.toNat
    · rw [if_pos hj, if_pos hj]; exact if_neg hne
    · rw [if_neg hj, if_neg hj]; exact if_pos rfl
  · rw [if_neg hb1, if_neg hb1, if_neg hb1]
