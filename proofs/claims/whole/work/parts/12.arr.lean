section
variable {p : Program} {l : Launch} {e : Env} {R : Room} {s : State} {m : MethodId} {args : Array Value} {below : List Frame} {meth : Method} {c : Code} {H : Heap} {locs : List Loc} {cells slots : Nat} {Q : State → Prop}
variable {cc : ByteArray} {pc : Nat} {ls : Array Slot} {rest : List Value} {D : va_G} {G : Nat → ClassId} {base : Nat} {h h' : Hp} {H0 : Heap}
theorem in_of {i : Int} {n : Nat} (hi : inr i) (h0 : 0 ≤ i) (h1 : i < (n : Int)) : vp_in (Int32.ofInt i) n := by
  intro q
  rcases q with q | q
  · have := (ofI_lt hi i_0).mp q; omega
  · rw [ofI_cl hi] at q; omega
theorem s_iald (hx : p.tables.exec = Jvm.exec) (hb : c.code = cc) (hV : va_K D vwCl (tysG G) s) (hM : SM D G base h H) {a i v : Int} (hi : inr i) (g : ald h 8 a i = some v) (hdg : decode cc pc = .ok (.iaload, 1)) (kk : W p l e R s m args below meth c H locs cells slots Q (F0 m (pc + 1) ls (vi v :: rest))) : W p l e R s m args below meth c H locs cells slots Q (F0 m pc ls (vi i :: vr a :: rest)) := by
  obtain ⟨h1, h2, h3, h4, h5⟩ := ald_s g
  rw [vr_pos h1]
  refine va_iald hx hb hV (hM.arI h2 (by decide) (by decide)) 0 0 (ix_1 _) rfl (in_of hi h3 h4) hdg ?_
  rw [ofI_cl hi, ← h5]; exact kk
theorem s_zald (hx : p.tables.exec = Jvm.exec) (hb : c.code = cc) (hV : va_K D vwCl (tysG G) s) (hM : SM D G base h H) {a i v : Int} (hi : inr i) (g : ald h 9 a i = some v) (hdg : decode cc pc = .ok (.baload, 1)) (kk : W p l e R s m args below meth c H locs cells slots Q (F0 m (pc + 1) ls (vi v :: rest))) : W p l e R s m args below meth c H locs cells slots Q (F0 m pc ls (vi i :: vr a :: rest)) := by
  obtain ⟨h1, h2, h3, h4, h5⟩ := ald_s g
  rw [vr_pos h1]
  refine va_zald hx hb hV (hM.arI h2 (by decide) (by decide)) 0 1 (ix_1 _) rfl (in_of hi h3 h4) hdg ?_
  rw [ofI_cl hi, ← h5]; exact kk
theorem s_lald (hx : p.tables.exec = Jvm.exec) (hb : c.code = cc) (hV : va_K D vwCl (tysG G) s) (hM : SM D G base h H) {a i v : Int} (hi : inr i) (g : ald h 10 a i = some v) (hdg : decode cc pc = .ok (.laload, 1)) (kk : W p l e R s m args below meth c H locs cells slots Q (F0 m (pc + 1) ls (vl v :: rest))) : W p l e R s m args below meth c H locs cells slots Q (F0 m pc ls (vi i :: vr a :: rest)) := by
  obtain ⟨h1, h2, h3, h4, h5⟩ := ald_s g
  rw [vr_pos h1]
  refine va_lald hx hb hV (hM.arL h2) 0 2 (ix_1 _) rfl (in_of hi h3 h4) hdg ?_
  rw [ofI_cl hi, ← h5]; exact kk
theorem s_aald (hx : p.tables.exec = Jvm.exec) (hb : c.code = cc) (hV : va_K D vwCl (tysG G) s) (hM : SM D G base h H) {kd : Nat} {C : String} (h11 : 11 ≤ kd) (ht : (tysG G)[kd - 8]? = some (G kd, .object C)) {a i v : Int} (hi : inr i) (g : ald h kd a i = some v) (hdg : decode cc pc = .ok (.aaload, 1)) (kk : W p l e R s m args below meth c H locs cells slots Q (F0 m (pc + 1) ls (vr v :: rest))) : W p l e R s m args below meth c H locs cells slots Q (F0 m pc ls (vi i :: vr a :: rest)) := by
  obtain ⟨h1, h2, h3, h4, h5⟩ := ald_s g
  rw [vr_pos h1]
  refine va_aldq hx hb hV (hM.arR h2 h11) 0 (kd - 8) (ix_1 _) ht (in_of hi h3 h4) hdg ?_
  rw [ofI_cl hi, ← h5]; exact kk
theorem s_alen (hx : p.tables.exec = Jvm.exec) (hb : c.code = cc) (hV : va_K D vwCl (tysG G) s) (hM : SM D G base h H) {a v : Int} (g : aln h 8 a = some v) (hdg : decode cc pc = .ok (.arraylength, 1)) (kk : W p l e R s m args below meth c H locs cells slots Q (F0 m (pc + 1) ls (vi v :: rest))) : W p l e R s m args below meth c H locs cells slots Q (F0 m pc ls (vr a :: rest)) := by
  obtain ⟨h1, h2, h3, h4⟩ := aln_s g
  rw [vr_pos h1]
  refine va_alen hx hb hV (hM.arI h2 (by decide) (by decide)) 0 0 (ix_1 _) rfl ?_ hdg kk
  rw [h3]; rfl
/-- stores into arrays -/
theorem s_iast (hx : p.tables.exec = Jvm.exec) (hb : c.code = cc) (hV : va_K D vwCl (tysG G) s) (hM : SM D G base h H) (hS : va_S (fun q => base ≤ q) H0 H locs) {a i v : Int} (hi : inr i) (hv : inr v) (g : ast h 8 a i v = some h') (hdg : decode cc pc = .ok (.iastore, 1)) (kk : ∀ (H1 : Heap) (locs1 : List Loc), SM D G base h' H1 → va_S (fun q => base ≤ q) H0 H1 locs1 → W p l e R s m args below meth c H1 locs1 cells slots Q (F0 m (pc + 1) ls rest)) : W p l e R s m args below meth c H locs cells slots Q (F0 m pc ls (vi v :: vi i :: vr a :: rest)) := by
  obtain ⟨h1, h2, h3, h4, h5⟩ := ast_s g
  rw [vr_pos h1]
  have hP := hM.arI h2 (by decide) (by decide) 0 _ (ix_1 _)
  refine W.iast hx hb hP ((hV.2 0 _ rfl).1 _ (fun j => .int (Int32.ofInt (hF h a.toNat j)))) (fun q => by cases q) (by show ¬ (Int32.ofInt i < 0 ∨ (arrV _ _ _).slots.size ≤ _); rw [arrV_size]; exact in_of hi h3 h4) rfl rfl hdg fun H1 e1 z oq => ?_
  refine kk H1 _ ?_ (hS.put z oq (hM.2.2 _ (by rw [h2]; decide)).1)
  rw [h5]
  refine hM.set (by rw [h2]; decide) z oq (fun _ => hv) ?_
  have hk1 : hK (hset h a.toNat i.toNat v) a.toNat = 8 := h2
  unfold encE
  rw [if_neg (by omega), if_pos (by omega), hk1]
  show H1[a.toNat]? = some (vp_cell _ _)
  rw [e1, vp_cell_i, vp_cell_i, arrV_store]
  congr 2
  funext q
  rw [ofI_cl hi]
  show _ = Value.int (Int32.ofInt (if a.toNat = a.toNat ∧ q = i.toNat then v else hF h a.toNat q))
  by_cases hq : q = i.toNat
  · subst hq; simp [updV]
  · simp [updV, hq]
theorem s_last (hx : p.tables.exec = Jvm.exec) (hb : c.code = cc) (hV : va_K D vwCl (tysG G) s) (hM : SM D G base h H) (hS : va_S (fun q => base ≤ q) H0 H locs) {a i v : Int} (hi : inr i) (hv : inr v) (g : ast h 10 a i v = some h') (hdg : decode cc pc = .ok (.lastore, 1)) (kk : ∀ (H1 : Heap) (locs1 : List Loc), SM D G base h' H1 → va_S (fun q => base ≤ q) H0 H1 locs1 → W p l e R s m args below meth c H1 locs1 cells slots Q (F0 m (pc + 1) ls rest)) : W p l e R s m args below meth c H locs cells slots Q (F0 m pc ls (vl v :: vi i :: vr a :: rest)) := by
  obtain ⟨h1, h2, h3, h4, h5⟩ := ast_s g
  rw [vr_pos h1]
  have hP := hM.arL h2 0 _ (ix_1 _)
  refine W.last hx hb hP ((hV.2 2 _ rfl).1 _ (fun j => .long (Int64.ofInt (hF h a.toNat j)))) (fun q => by cases q) (by show ¬ (Int32.ofInt i < 0 ∨ (arrV _ _ _).slots.size ≤ _); rw [arrV_size]; exact in_of hi h3 h4) rfl rfl hdg fun H1 e1 z oq => ?_
  refine kk H1 _ ?_ (hS.put z oq (hM.2.2 _ (by rw [h2]; decide)).1)
  rw [h5]
  refine hM.set (by rw [h2]; decide) z oq (fun _ => hv) ?_
  have hk1 : hK (hset h a.toNat i.toNat v) a.toNat = 10 := h2
  unfold encE
  rw [if_neg (by omega), if_neg (by omega), if_pos hk1, hk1]
  show H1[a.toNat]? = some (vp_cell _ _)
  rw [e1, vp_cell_l, vp_cell_l, arrV_store]
  congr 2
  funext q
  rw [ofI_cl hi]
  show _ = Value.long (Int64.ofInt (if a.toNat = a.toNat ∧ q = i.toNat then v else hF h a.toNat q))
  by_cases hq : q = i.toNat
  · subst hq; simp [updV]
  · simp [updV, hq]
/-- a boolean's store: 0 or 1 -/
theorem s_zast (hx : p.tables.exec = Jvm.exec) (hb : c.code = cc) (hV : va_K D vwCl (tysG G) s) (hM : SM D G base h H) (hS : va_S (fun q => base ≤ q) H0 H locs) {a i v : Int} (hi : inr i) (hn : narrow .boolean (vi v) = vi v) (hv : inr v) (g : ast h 9 a i v = some h') (hdg : decode cc pc = .ok (.bastore, 1)) (kk : ∀ (H1 : Heap) (locs1 : List Loc), SM D G base h' H1 → va_S (fun q => base ≤ q) H0 H1 locs1 → W p l e R s m args below meth c H1 locs1 cells slots Q (F0 m (pc + 1) ls rest)) : W p l e R s m args below meth c H locs cells slots Q (F0 m pc ls (vi v :: vi i :: vr a :: rest)) := by
  obtain ⟨h1, h2, h3, h4, h5⟩ := ast_s g
  rw [vr_pos h1]
  have hP := hM.arI h2 (by decide) (by decide) 0 _ (ix_1 _)
  refine W.zast hx hb hP ((hV.2 1 _ rfl).1 _ (fun j => .int (Int32.ofInt (hF h a.toNat j)))) (fun q => by cases q) (by show ¬ (Int32.ofInt i < 0 ∨ (arrV _ _ _).slots.size ≤ _); rw [arrV_size]; exact in_of hi h3 h4) rfl rfl hdg fun H1 e1 z oq => ?_
  refine kk H1 _ ?_ (hS.put z oq (hM.2.2 _ (by rw [h2]; decide)).1)
  rw [h5]
  refine hM.set (by rw [h2]; decide) z oq (fun _ => hv) ?_
  have hk1 : hK (hset h a.toNat i.toNat v) a.toNat = 9 := h2
  unfold encE
  rw [if_neg (by omega), if_pos (by omega), hk1]
  show H1[a.toNat]? = some (vp_cell _ _)
  rw [e1, vp_cell_i, vp_cell_i, arrV_store]
  congr 2
  funext q
  rw [ofI_cl hi]
  show _ = Value.int (Int32.ofInt (if a.toNat = a.toNat ∧ q = i.toNat then v else hF h a.toNat q))
  by_cases hq : q = i.toNat
  · subst hq; simp [updV, hn]
  · simp [updV, hq]
theorem asr_s {kd : Nat} {a i v : Int} (e : asr h kd a i v = some h') : (v < 0 ∨ hK h v.toNat = kd - 9) ∧ ast h kd a i v = some h' := by
  unfold asr at e
  split at e
  · exact ⟨by assumption, e⟩
  · cases e
theorem s_aast (hx : p.tables.exec = Jvm.exec) (hb : c.code = cc) (hV : va_K D vwCl (tysG G) s) (hM : SM D G base h H) (hS : va_S (fun q => base ≤ q) H0 H locs) {kd ci : Nat} {r : vw_C} (h11 : 11 ≤ kd) (h14 : kd ≤ 14) (hkc : kd = ci + 10) (ht : (tysG G)[kd - 8]? = some (G kd, .object r.1)) (hc : vwCl[ci]? = some r) {a i v : Int} (hi : inr i) (g : asr h kd a i v = some h') (hdg : decode cc pc = .ok (.aastore, 1)) (kk : ∀ (H1 : Heap) (locs1 : List Loc), SM D G base h' H1 → va_S (fun q => base ≤ q) H0 H1 locs1 → W p l e R s m args below meth c H1 locs1 cells slots Q (F0 m (pc + 1) ls rest)) : W p l e R s m args below meth c H locs cells slots Q (F0 m pc ls (vr v :: vi i :: vr a :: rest)) := by
  obtain ⟨h0, g⟩ := asr_s g
  obtain ⟨h1, h2, h3, h4, h5⟩ := ast_s g
  rw [vr_pos h1]
  have hin := in_of hi h3 h4
  have hlt : (Int32.ofInt i).toNatClampNeg < hL h a.toNat := Nat.not_le.mp fun q => hin (Or.inr q)
  have hn0 : ¬ Int32.ofInt i < 0 := fun q => hin (Or.inl q)
  have hP := hM.arR h2 h11 0 _ (ix_1 _)
  have fin : ∀ (H1 : Heap), H1[a.toNat]? = some ((vp_cell (G kd) (hL h a.toNat, .inr (.inr (.inr (.inr (fun j => rO (hF h a.toNat j))))))).setSlot (Int32.ofInt i).toNatClampNeg (vr v)) → H1.size = H.size → (∀ q : Nat, q ≠ a.toNat → H1[q]? = H[q]?) → SM D G base h' H1 := by
    intro H1 e1 z oq
    rw [h5]
    refine hM.set (by rw [h2]; omega) z oq (fun q => ?_) ?_
    · rw [h2, isI, if_neg (by omega)] at q
      have := of_decide_eq_true q
      omega
    unfold encE
    rw [if_neg (by rw [show hK (hset h a.toNat i.toNat v) a.toNat = kd from h2]; omega), if_neg (by rw [show hK (hset h a.toNat i.toNat v) a.toNat = kd from h2]; omega), if_neg (by rw [show hK (hset h a.toNat i.toNat v) a.toNat = kd from h2]; omega), show hK (hset h a.toNat i.toNat v) a.toNat = kd from h2]
    show H1[a.toNat]? = some (vp_cell _ _)
    rw [e1, vp_cell_q, vp_cell_q, arrV_store]
    congr 2
    funext q
    rw [ofI_cl hi]
    show _ = va_rf (rO (if a.toNat = a.toNat ∧ q = i.toNat then v else hF h a.toNat q))
    by_cases hq : q = i.toNat
    · subst hq; simp [updV]
    · simp [updV, hq]
  by_cases hv0 : v < 0
  · rw [vr_neg hv0] at fin ⊢
    exact va_WaastN (C := r.1) hx hb hP ((hV.2 (kd - 8) _ ht).1 _ (fun j => va_rf (rO (hF h a.toNat j)))) (fun h => by cases h) (by show ¬ (Int32.ofInt i < 0 ∨ (arrV _ _ _).slots.size ≤ _); rw [arrV_size]; exact hin) rfl rfl hdg fun H1 e1 z oq => kk H1 _ (fin H1 e1 z oq) (hS.put z oq (hM.2.2 _ (by rw [h2]; omega)).1)
  · have hvk : hK h v.toNat = ci + 1 := by rcases h0 with h0 | h0 <;> omega
    rw [vr_pos (by omega)] at fin ⊢
    obtain ⟨r', hr', cellV, g1, g2, g3, -⟩ := hM.obj hvk (by omega) 0 _ (ix_1 _)
    have hcls := (hV.1 ci r hc).2
    obtain ⟨kA, comp, k1, k2, k3, -⟩ := (hV.2 (kd - 8) _ ht).2
    have hcomp : comp = D.1 ci := Option.some.inj (k3.symm.trans hcls.1)
    subst hcomp
    obtain ⟨kC, hkC, -⟩ := hcls.2
    exact W.aast hx hb hP (fun q h => by cases h) (fun h => by cases h) k1 k2 rfl hkC ⟨hn0, by show _ < (arrV _ _ _).slots.size; rw [arrV_size]; exact hlt⟩ g1 (fun q h => by rw [g3] at h; cases h) (by rw [g2]; exact hkC) (by rw [g2]; exact va_assign hcls) rfl rfl hdg fun H1 e1 z oq => kk H1 _ (fin H1 e1 z oq) (hS.put z oq (hM.2.2 _ (by rw [h2]; omega)).1)
/-- new objects and arrays -/
theorem s_new (hx : p.tables.exec = Jvm.exec) (hb : c.code = cc) {own C : String} {T : u_T} {N ci index : Nat} (hts : ∀ w ∈ BW, w.before args s = true) (hin : ∀ w ∈ u_ws C T N, w ∈ BW) (ty : Nat → FieldType) (hty : ∀ k, k < N → parseFieldDescriptor (T k).2.2.1 = some (ty k)) (hown : s.vm.findClass own = some m.cls) (hcl : (Cond.classLink own index C).before args s = true) (hinst : (Cond.instantiable C N).before args s = true) (hini : (Cond.initialized C).before args s = true) (hV : va_K D vwCl (tysG G) s) (hM : SM D G base h H) (hS : va_S (fun q => base ≤ q) H0 H locs) (hbs : base ≤ H0.size) (hc : vwCl[ci]? = some (C, T, N)) (hci : ci ≤ 6) (hNl : (tyTab.getD ci []).length = N) (hdf : ∀ j, j < N → defaultValue (ty j) = vv (rfT ci j) (if rfT ci j then -1 else 0)) (g : nwo h ci = some h') (hcells : cells + 1 ≤ R.cells) (hslots : slots + N ≤ R.slots) (hdg : decode cc pc = .ok (.new index, 3)) (kk : ∀ (H1 : Heap), SM D G base h' H1 → va_S (fun q => base ≤ q) H0 H1 locs → W p l e R s m args below meth c H1 locs (cells + 1) (slots + N) Q (F0 m (pc + 3) ls (vr (hN h : Int) :: rest))) : W p l e R s m args below meth c H locs cells slots Q (F0 m pc ls rest) := by
  have hKn := hV.1 ci _ hc
  refine W.newcK hx hb hown hcl hinst hini rfl hdg hcells hslots hKn.2.1 rfl fun H1 kC hkC e1 z1 o1 => ?_
  have hz : vr ((hN h : Nat) : Int) = .ref H.size := by rw [vr_pos (by omega), hM.1]; rfl
  have k2 := kk H1 ?_ ⟨Nat.le_trans hS.1 (by omega), fun x h1 h2 => (o1 x (Nat.lt_of_lt_of_le h1 hS.1)).trans (hS.2.1 x h1 h2), hS.2.2⟩
  · rw [hz] at k2; exact k2
  · unfold nwo at g
    cases g
    refine hM.new (Nat.le_trans hbs hS.1) z1 o1 (by omega) (fun k hi => ?_) ?_
    · rw [isI, if_pos (by omega), show ci + 1 - 1 = ci from rfl] at hi
      have : rfT ci k = false := by cases hq : rfT ci k <;> simp_all
      rw [this]; exact i_0
    · rw [hM.1] at e1
      have hk1 : hK (hnew h (ci + 1) 0 (fun k => if rfT ci k then -1 else 0)) (hN h) = ci + 1 := if_pos rfl
      unfold encE
      rw [if_pos (by omega), hk1]
      refine ⟨_, hc, (u_born ty hts hin hKn hkC e1 hty).to (fun j hj => ?_)⟩
      have e3 : hF (hnew h (ci + 1) 0 (fun k => if rfT ci k then -1 else 0)) (hN h) = fun k => if rfT ci k then -1 else 0 := by
        funext j; exact if_pos rfl
      rw [hdf j hj]
      show _ = List.getD _ _ _
      rw [List.getD_eq_getElem?_getD, e3, show ci + 1 - 1 = ci from rfl, fs_at (f := fun k => if rfT ci k then -1 else 0) (by rw [hNl]; exact hj) rfl]
      rfl
theorem s_newa (hx : p.tables.exec = Jvm.exec) (hb : c.code = cc) {atype : ArrayType} {kd bound : Nat} (hts : (Cond.arrayClass (newarray.typeOf atype)).before args s = true) (hV : va_K D vwCl (tysG G) s) (hkd : (kd = 8 ∧ newarray.typeOf atype = .int) ∨ (kd = 9 ∧ newarray.typeOf atype = .boolean) ∨ (kd = 10 ∧ newarray.typeOf atype = .long)) (hM : SM D G base h H) (hS : va_S (fun q => base ≤ q) H0 H locs) (hbs : base ≤ H0.size) {n : Int} (hn : inr n) (g : nwa h kd bound n = some h') (hbd : bound ≤ 67108864) (hcells : cells + 1 ≤ R.cells) (hslots : slots + bound ≤ R.slots) (hdg : decode cc pc = .ok (.newarray atype, 2)) (kk : ∀ (H1 : Heap), SM D G base h' H1 → va_S (fun q => base ≤ q) H0 H1 locs → W p l e R s m args below meth c H1 locs (cells + 1) (slots + bound) Q (F0 m (pc + 2) ls (vr (hN h : Int) :: rest))) : W p l e R s m args below meth c H locs cells slots Q (F0 m pc ls (vi n :: rest)) := by
  obtain ⟨h1, h2, h3⟩ := nwa_s g
  have hb8 : componentBytes (newarray.typeOf atype) ≤ 8 := by rcases hkd with ⟨-, q⟩ | ⟨-, q⟩ | ⟨-, q⟩ <;> rw [q] <;> decide
  have hNb : n.toNat ≤ bound := by omega
  refine va_newaK hx hb hts rfl hdg rfl (fun q => ?_) (ofI_cl hn) (Nat.le_trans (Nat.mul_le_mul (Nat.le_trans hNb hbd) hb8) (by decide)) hcells (by omega) rfl fun H1 cA e1 z1 o1 hAr hNm => ?_
  · have := (ofI_lt hn i_0).mp q; omega
  have hz : vr ((hN h : Nat) : Int) = .ref H.size := by rw [vr_pos (by omega), hM.1]; rfl
  refine W.widen (k := cells + 1) (n := slots + bound) (Nat.le_refl _) (by omega) ?_
  have k2 := kk H1 ?_ ⟨Nat.le_trans hS.1 (by omega), fun x h1 h2 => (o1 x (Nat.lt_of_lt_of_le h1 hS.1)).trans (hS.2.1 x h1 h2), hS.2.2⟩
  · rw [hz] at k2; exact k2
  · rw [h3]
    refine hM.new (Nat.le_trans hbs hS.1) z1 o1 (by omega) (fun k _ => by split <;> decide) ?_
    rw [hM.1] at e1
    have hk1 : hK (hnew h kd n.toNat (fun _ => if kd ≤ 10 then 0 else -1)) (hN h) = kd := if_pos rfl
    have hl1 : hL (hnew h kd n.toNat (fun _ => if kd ≤ 10 then 0 else -1)) (hN h) = n.toNat := if_pos rfl
    have e3 : ∀ j, hF (hnew h kd n.toNat (fun _ => if kd ≤ 10 then 0 else -1)) (hN h) j = 0 := fun j => by
      show (if hN h = hN h then (if kd ≤ 10 then 0 else -1) else _) = (0 : Int)
      rw [if_pos rfl, if_pos (by omega)]
    unfold encE
    rw [hk1, hl1]
    simp only [e3]
    rcases hkd with ⟨rfl, q⟩ | ⟨rfl, q⟩ | ⟨rfl, q⟩
    · rw [q] at e1 hNm
      have hcA : cA = G 8 := Option.some.inj (hNm.symm.trans (hV.2 0 _ rfl).2)
      rw [hcA] at e1; exact e1
    · rw [q] at e1 hNm
      have hcA : cA = G 9 := Option.some.inj (hNm.symm.trans (hV.2 1 _ rfl).2)
      rw [hcA] at e1; exact e1
    · rw [q] at e1 hNm
      have hcA : cA = G 10 := Option.some.inj (hNm.symm.trans (hV.2 2 _ rfl).2)
      rw [hcA] at e1; exact e1
theorem s_newq (hx : p.tables.exec = Jvm.exec) (hb : c.code = cc) {own C : String} {index kd bound : Nat} (hown : s.vm.findClass own = some m.cls) (hcl : (Cond.classLink own index C).before args s = true) (hover : va_AO C s) (hV : va_K D vwCl (tysG G) s) (h11 : 11 ≤ kd) (h14 : kd ≤ 14) (ht : (tysG G)[kd - 8]? = some (G kd, .object C)) (hM : SM D G base h H) (hS : va_S (fun q => base ≤ q) H0 H locs) (hbs : base ≤ H0.size) {n : Int} (hn : inr n) (g : nwa h kd bound n = some h') (hbd : bound ≤ 67108864) (hcells : cells + 1 ≤ R.cells) (hslots : slots + bound ≤ R.slots) (hdg : decode cc pc = .ok (.anewarray index, 3)) (kk : ∀ (H1 : Heap), SM D G base h' H1 → va_S (fun q => base ≤ q) H0 H1 locs → W p l e R s m args below meth c H1 locs (cells + 1) (slots + bound) Q (F0 m (pc + 3) ls (vr (hN h : Int) :: rest))) : W p l e R s m args below meth c H locs cells slots Q (F0 m pc ls (vi n :: rest)) := by
  obtain ⟨h1, h2, h3⟩ := nwa_s g
  have hNb : n.toNat ≤ bound := by omega
  have hcl2 := ofI_cl hn
  refine W.anew hx hb hown hcl (va_AO.use hover) rfl hdg rfl (fun q => ?_) (by rw [hcl2]; omega) hcells (by rw [hcl2]; omega) fun cA kA comp f1 f2 f3 f4 => ?_
  · have := (ofI_lt hn i_0).mp q; omega
  rw [hcl2]
  generalize hH1 : H.push ({ cls := cA, slots := Array.replicate n.toNat .null, vm := .none } : Cell) = H1
  have z1 : H1.size = H.size + 1 := by rw [← hH1, Array.size_push]
  have e1 : H1[H.size]? = some (arrV cA n.toNat (fun _ => .null)) := by rw [← hH1, Array.getElem?_push_size, ← arrV_new]
  have o1 : ∀ q : Nat, q < H.size → H1[q]? = H[q]? := fun q hq => by rw [← hH1, Array.getElem?_push, if_neg (Nat.ne_of_lt hq)]
  have hz : vr ((hN h : Nat) : Int) = .ref H.size := by rw [vr_pos (by omega), hM.1]; rfl
  refine W.widen (k := cells + 1) (n := slots + bound) (Nat.le_refl _) (by omega) ?_
  have k2 := kk H1 ?_ ⟨Nat.le_trans hS.1 (by omega), fun x h1 h2 => (o1 x (Nat.lt_of_lt_of_le h1 hS.1)).trans (hS.2.1 x h1 h2), hS.2.2⟩
  · rw [hz] at k2; exact k2
  · rw [h3]
    refine hM.new (Nat.le_trans hbs hS.1) z1 o1 h14 (fun k hi => ?_) ?_
    · rw [isI, if_neg (by omega)] at hi
      have := of_decide_eq_true hi
      omega
    rw [hM.1] at e1
    have hk1 : hK (hnew h kd n.toNat (fun _ => if kd ≤ 10 then 0 else -1)) (hN h) = kd := if_pos rfl
    have hl1 : hL (hnew h kd n.toNat (fun _ => if kd ≤ 10 then 0 else -1)) (hN h) = n.toNat := if_pos rfl
    have e3 : ∀ j, hF (hnew h kd n.toNat (fun _ => if kd ≤ 10 then 0 else -1)) (hN h) j = -1 := fun j => by
      show (if hN h = hN h then (if kd ≤ 10 then 0 else -1) else _) = (-1 : Int)
      rw [if_pos rfl, if_neg (by omega)]
    unfold encE
    rw [hk1, hl1]
    simp only [e3]
    rw [if_neg (by omega), if_neg (by omega), if_neg (by omega)]
    obtain ⟨kA', comp', -, -, -, hf⟩ := (hV.2 (kd - 8) _ ht).2
    have hcA : cA = G kd := Option.some.inj (f1.symm.trans hf)
    rw [hcA] at e1; exact e1
end
