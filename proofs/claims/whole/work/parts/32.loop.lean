/-! the start: what the tables give -/
def NPW : Prop := ∀ (a : Array Value) (s : State), (Jvm.Cond.and given_1 narrow_1).before a s = true → True
theorem arr_of {s : State} {args : Array Value} {ty : FieldType} (h : (Cond.arrayClass ty).before args s = true) (hno : ∀ C, ty ≠ .object C) : ∃ cA : ClassId, ArrOfT s cA ty ∧ va_RA s cA ty := by
  obtain ⟨cA, kA, comp, h1, h2, h3⟩ := Cond.arrayClass_spec h
  refine ⟨cA, fun n z => ⟨fun k h => (by cases h), kA, h2, comp, h3⟩, ?_⟩
  cases ty with
  | object C => exact absurd rfl (hno C)
  | _ => exact h1
theorem arr_ofO {s : State} {args : Array Value} {C : String} (h : (Cond.arrayOver (.object C)).before args s = true) : ∃ cA : ClassId, ArrOfT s cA (.object C) ∧ va_RA s cA (.object C) := by
  obtain ⟨comp, cA, kA, h1, -, h2, h3, h4⟩ := Cond.arrayOver_spec h
  exact ⟨cA, fun n z => ⟨fun k h => (by cases h), kA, h2, comp, h3⟩, kA, comp, h2, h3, h1, h4⟩
set_option maxHeartbeats 4000000 in
set_option maxRecDepth 100000 in
theorem ev_start {p : Program} {l : Launch} {s : State} {m : MethodId} {meth : Method} {c : Code} {b L : Nat} {xs : Nat → Int32} (hst : l.stackTraces = false) (C0 : lw_At p s m meth c b L xs) : ∃ (D : va_G) (G : Nat → ClassId), EV l D G s.heap.size s := by
  obtain ⟨hx, hb, hr, hml, hown, hts, hX, hbl, hlocks, hgv⟩ := id C0
  obtain ⟨c0, iS0, hKn0⟩ := u_known (C := RX0) (T := TX0) (N := 2) (n := 2) hts (fun w hw => bw_tbl (kl_0 w hw)) (hts (.instantiable RX0 2) (bw_tbl kw_62))
  obtain ⟨c1, iS1, hKn1⟩ := u_known (C := RX1) (T := TX1) (N := 17) (n := 17) hts (fun w hw => bw_tbl (kl_1 w hw)) (hts (.instantiable RX1 17) (bw_tbl kw_252))
  obtain ⟨c2, iS2, hKn2⟩ := u_known (C := RX2) (T := TX2) (N := 2) (n := 2) hts (fun w hw => bw_tbl (kl_2 w hw)) (hts (.instantiable RX2 2) (bw_tbl kw_272))
  obtain ⟨c3, iS3, hKn3⟩ := u_known (C := RX3) (T := TX3) (N := 11) (n := 11) hts (fun w hw => bw_tbl (kl_3 w hw)) (hts (.instantiable RX3 11) (bw_tbl kw_163))
  obtain ⟨c4, iS4, hKn4⟩ := u_known (C := RX4) (T := TX4) (N := 1) (n := 1) hts (fun w hw => bw_tbl (kl_4 w hw)) (hts (.instantiable RX4 1) (bw_tbl kw_262))
  obtain ⟨c5, iS5, hKn5⟩ := u_known (C := RX5) (T := TX5) (N := 4) (n := 4) hts (fun w hw => bw_tbl (kl_5 w hw)) (hts (.instantiable RX5 4) (bw_tbl kw_54))
  obtain ⟨c6, iS6, hKn6⟩ := u_known (C := RX6) (T := TX6) (N := 27) (n := 27) hts (fun w hw => bw_tbl (kl_6 w hw)) (hts (.instantiable RX6 27) (bw_tbl kw_662))
  obtain ⟨a8, b8⟩ := arr_of (hts (.arrayClass .int) (List.mem_of_getElem? (i := 78) (by decide +kernel))) (fun C q => by cases q)
  obtain ⟨a9, b9⟩ := arr_of (hts (.arrayClass .boolean) (List.mem_of_getElem? (i := 750) (by decide +kernel))) (fun C q => by cases q)
  obtain ⟨a10, b10⟩ := arr_of (hts (.arrayClass .long) (List.mem_of_getElem? (i := 907) (by decide +kernel))) (fun C q => by cases q)
  obtain ⟨a11, b11⟩ := arr_ofO (hts (.arrayOver (.object "SlabHouse$Cache")) (List.mem_of_getElem? (i := 82) (by decide +kernel)))
  obtain ⟨a12, b12⟩ := arr_ofO (hts (.arrayOver (.object "SlabHouse$Magazine")) (List.mem_of_getElem? (i := 260) (by decide +kernel)))
  obtain ⟨a13, b13⟩ := arr_ofO (hts (.arrayOver (.object "SlabHouse$Slab")) (List.mem_of_getElem? (i := 80) (by decide +kernel)))
  obtain ⟨a14, b14⟩ := arr_ofO (hts (.arrayOver (.object "SlabHouse$SlabList")) (List.mem_of_getElem? (i := 258) (by decide +kernel)))
  refine ⟨(fun k => if k = 0 then c0 else if k = 1 then c1 else if k = 2 then c2 else if k = 3 then c3 else if k = 4 then c4 else if k = 5 then c5 else c6, fun k => if k = 0 then iS0 else if k = 1 then iS1 else if k = 2 then iS2 else if k = 3 then iS3 else if k = 4 then iS4 else if k = 5 then iS5 else iS6), fun k => if k = 8 then a8 else if k = 9 then a9 else if k = 10 then a10 else if k = 11 then a11 else if k = 12 then a12 else if k = 13 then a13 else a14, ⟨?_, ?_⟩, Nat.le_refl _, ⟨va_Nw.of rfl (hts _ (List.mem_of_getElem? (i := 261) (by decide +kernel))), va_Nw.of rfl (hts _ (List.mem_of_getElem? (i := 263) (by decide +kernel))), va_Nw.of rfl (hts _ (List.mem_of_getElem? (i := 273) (by decide +kernel)))⟩, ⟨va_AO.of (hts _ (List.mem_of_getElem? (i := 80) (by decide +kernel))), va_AO.of (hts _ (List.mem_of_getElem? (i := 82) (by decide +kernel))), va_AO.of (hts _ (List.mem_of_getElem? (i := 258) (by decide +kernel))), va_AO.of (hts _ (List.mem_of_getElem? (i := 260) (by decide +kernel)))⟩, ?_⟩
  · intro k q hq
    match k, hq with
    | 0, hq => cases hq; exact hKn0
    | 1, hq => cases hq; exact hKn1
    | 2, hq => cases hq; exact hKn2
    | 3, hq => cases hq; exact hKn3
    | 4, hq => cases hq; exact hKn4
    | 5, hq => cases hq; exact hKn5
    | 6, hq => cases hq; exact hKn6
    | k + 7, hq => simp [vwCl] at hq
  · intro k q hq
    match k, hq with
    | 0, hq => cases hq; exact b8
    | 1, hq => cases hq; exact b9
    | 2, hq => cases hq; exact b10
    | 3, hq => cases hq; exact b11
    | 4, hq => cases hq; exact b12
    | 5, hq => cases hq; exact b13
    | 6, hq => cases hq; exact b14
    | k + 7, hq => simp [tysG] at hq
  · have hs := flat_of_before _ hgv
    refine ⟨hst, ⟨va_Nw.of rfl (hts _ (List.mem_of_getElem? (i := 182) (by decide +kernel))), va_Nw.of rfl (hts _ (List.mem_of_getElem? (i := 184) (by decide +kernel))), va_Nw.of rfl (hts _ (List.mem_of_getElem? (i := 186) (by decide +kernel)))⟩, ⟨va_Nw.of rfl (hts _ (List.mem_of_getElem? (i := 368) (by decide +kernel))), va_Nw.of rfl (hts _ (List.mem_of_getElem? (i := 180) (by decide +kernel))), va_Nw.of rfl (hts _ (List.mem_of_getElem? (i := 384) (by decide +kernel)))⟩, ⟨va_Nc.of (hs (Cond.not (.castable "java/lang/IllegalArgumentException" "java/util/NoSuchElementException")) (by decide +kernel)), va_Nc.of (hs (Cond.not (.castable "java/lang/IllegalStateException" "java/util/NoSuchElementException")) (by decide +kernel)), va_Nc.of (hs (Cond.not (.castable "java/lang/IllegalStateException" "java/lang/IllegalArgumentException")) (by decide +kernel))⟩, ⟨vx_Zqof (hts _ (List.mem_of_getElem? (i := 205) (by decide +kernel))) (hts _ (List.mem_of_getElem? (i := 41) (by decide +kernel))) (hs (Cond.isRef (.static "java/lang/Throwable" "UNASSIGNED_STACK" "[Ljava/lang/StackTraceElement;")) (by decide +kernel)) (fun a ha => Nat.not_le.mpr ha), vx_Zqof (hts _ (List.mem_of_getElem? (i := 207) (by decide +kernel))) (hts _ (List.mem_of_getElem? (i := 41) (by decide +kernel))) (hs (Cond.isRef (.static "java/lang/Throwable" "SUPPRESSED_SENTINEL" "Ljava/util/List;")) (by decide +kernel)) (fun a ha => Nat.not_le.mpr ha)⟩, ?_⟩
    have hfc : ∃ cur, s.vm.findClass RX5 = some cur := ⟨_, hKn5.2.1⟩
    obtain ⟨cur, hcur⟩ := hfc
    have one : ∀ (k : Nat) (tx : String), Cond.stringRef RX5 k tx ∈ lw_tbl → ∃ sa, vk_R RX5 k tx sa s := by
      intro k tx hm
      obtain ⟨-, -, -, sa, -, -, -, -, -, hev⟩ := Cond.stringRef_spec hcur (hts _ hm)
      exact ⟨sa, vk_R.of (hts _ hm) hev⟩
    intro q hq
    unfold STR at hq
    rcases List.mem_cons.mp hq with rfl | hq
    · exact one _ _ (List.mem_of_getElem? (i := 219) (by decide +kernel))
    rcases List.mem_cons.mp hq with rfl | hq
    · exact one _ _ (List.mem_of_getElem? (i := 246) (by decide +kernel))
    rcases List.mem_cons.mp hq with rfl | hq
    · exact one _ _ (List.mem_of_getElem? (i := 247) (by decide +kernel))
    rcases List.mem_cons.mp hq with rfl | hq
    · exact one _ _ (List.mem_of_getElem? (i := 251) (by decide +kernel))
    rcases List.mem_cons.mp hq with rfl | hq
    · exact one _ _ (List.mem_of_getElem? (i := 375) (by decide +kernel))
    rcases List.mem_cons.mp hq with rfl | hq
    · exact one _ _ (List.mem_of_getElem? (i := 391) (by decide +kernel))
    rcases List.mem_cons.mp hq with rfl | hq
    · exact one _ _ (List.mem_of_getElem? (i := 408) (by decide +kernel))
    rcases List.mem_cons.mp hq with rfl | hq
    · exact one _ _ (List.mem_of_getElem? (i := 550) (by decide +kernel))
    rcases List.mem_cons.mp hq with rfl | hq
    · exact one _ _ (List.mem_of_getElem? (i := 555) (by decide +kernel))
    rcases List.mem_cons.mp hq with rfl | hq
    · exact one _ _ (List.mem_of_getElem? (i := 620) (by decide +kernel))
    rcases List.mem_cons.mp hq with rfl | hq
    · exact one _ _ (List.mem_of_getElem? (i := 628) (by decide +kernel))
    rcases List.mem_cons.mp hq with rfl | hq
    · exact one _ _ (List.mem_of_getElem? (i := 641) (by decide +kernel))
    rcases List.mem_cons.mp hq with rfl | hq
    · exact one _ _ (List.mem_of_getElem? (i := 643) (by decide +kernel))
    rcases List.mem_cons.mp hq with rfl | hq
    · exact one _ _ (List.mem_of_getElem? (i := 651) (by decide +kernel))
    rcases List.mem_cons.mp hq with rfl | hq
    · exact one _ _ (List.mem_of_getElem? (i := 659) (by decide +kernel))
    exact absurd hq List.not_mem_nil
def hp0 (N : Nat) : Hp := (fun _ => 0, fun _ => 0, fun _ _ => 0, N)
/-- all that the pure side owes -/
def PureOk : Prop := ∃ J : Int → Int → Int → Hp → Prop,
  (∀ N : Nat, ∃ ha hb hc hd he : Hp, nwo (hp0 N) 5 = some ha ∧ ckd ha 5 (N : Int) = some () ∧ f_X5_init ha (N : Int) = some (0, hb) ∧ nwo hb 6 = some hc ∧ ckd hc 6 (hN hb : Int) = some () ∧ f_X6_init hc (hN hb : Int) = some (0, hd) ∧ nwa hd 10 1 1 = some he ∧ J (N : Int) (hN hb : Int) (hN hd : Int) he) ∧
  (∀ xa ma oa h, J xa ma oa h → ckd h 5 xa = some () ∧ ckd h 6 ma = some ()) ∧
  ∀ xa ma oa, Op_cache (J xa ma oa) xa ma oa ∧ Op_drop (J xa ma oa) xa ma oa ∧ Op_allocate (J xa ma oa) xa ma oa ∧ Op_free (J xa ma oa) xa ma oa ∧ Op_mark (J xa ma oa) xa ma oa ∧ Op_flush (J xa ma oa) xa ma oa ∧ Op_empty (J xa ma oa) xa ma oa ∧ Op_reap (J xa ma oa) xa ma oa ∧ Op_cacheOf (J xa ma oa) xa ma oa ∧ Op_objectOf (J xa ma oa) xa ma oa ∧ Op_about (J xa ma oa) xa ma oa ∧ Op_list (J xa ma oa) xa ma oa ∧ Op_slab (J xa ma oa) xa ma oa ∧ Op_magazine (J xa ma oa) xa ma oa ∧ Op_block (J xa ma oa) xa ma oa ∧ Op_pages (J xa ma oa) xa ma oa
theorem ian15 (x : Int) : 0 ≤ ian x 15 ∧ ian x 15 ≤ 15 := by
  obtain ⟨j, h1, h2⟩ := pk_andE (Int32.ofInt x) (m := Int32.ofInt 15) 4 (by decide)
  have h3 : ian x 15 = (j : Int) := by
    show (Int32.ofInt x &&& Int32.ofInt 15).toInt = _
    rw [h2, nI_toInt (by omega)]
  omega
set_option maxHeartbeats 4000000 in
set_option maxRecDepth 100000 in
theorem law_loop {p : Program} {l : Launch} {e : Env} {s : State} {m : MethodId} {below : List Frame} {meth : Method} {c : Code} {b L : Nat} {xs : Nat → Int32} {D : va_G} {G : Nat → ClassId} {J : Hp → Prop} {xa ma oa : Int} {c0 s0 : Nat} (C0 : lw_At p s m meth c b L xs) (hL : L ≤ 2560) (hE : EV l D G s.heap.size s) (hJ5 : ∀ h, J h → ckd h 5 xa = some ()) (hJ6 : ∀ h, J h → ckd h 6 ma = some ()) (hops : Op_cache J xa ma oa ∧ Op_drop J xa ma oa ∧ Op_allocate J xa ma oa ∧ Op_free J xa ma oa ∧ Op_mark J xa ma oa ∧ Op_flush J xa ma oa ∧ Op_empty J xa ma oa ∧ Op_reap J xa ma oa ∧ Op_cacheOf J xa ma oa ∧ Op_objectOf J xa ma oa ∧ Op_about J xa ma oa ∧ Op_list J xa ma oa ∧ Op_slab J xa ma oa ∧ Op_magazine J xa ma oa ∧ Op_block J xa ma oa ∧ Op_pages J xa ma oa) (hc0 : c0 + 513 * 40 ≤ 100000) (hs0 : s0 + 513 * 3000 ≤ 2000000) : ∀ (n t : Nat), t = 5 * (513 - n) → n ≤ 513 → t ≤ L → ∀ (h : Hp) (H : Heap) (locs : List Loc) (ls : Array Slot), J h → SM D G s.heap.size h H → va_S (Ab s.heap.size) s.heap H locs → lvh ls 7 [(0, vr (b : Int)), (1, vr xa), (2, vr ma), (3, vr oa), (4, vi (t : Int))] → W p l e room_1 s m #[Value.ref b] below meth c H locs (c0 + 40 * (513 - n)) (s0 + 3000 * (513 - n)) (lw_Z below #[Value.ref b] s) (F0 m 23 ls []) := by
  obtain ⟨hx, hb, hr, hml, hown, hts0, hX, hbl, hlocks, hgv⟩ := id C0
  have hts : ∀ w ∈ BW, w.before #[Value.ref b] s = true := fun w hw => hts0 w (bw_tbl hw)
  have hbA : ¬ (Ab s.heap.size) b := Nat.not_le.mpr hbl
  obtain ⟨o0, o1, o2, o3, o4, o5, o6, o7, o8, o9, o10, o11, o12, o13, o14, o15⟩ := hops
  intro n
  induction n with
  | zero => intro t ht hn hlt; omega
  | succ n ih =>
    intro t ht hn hlt h H locs ls hJ hM hS hl
    have it : inr (t : Int) := by constructor <;> omega
    refine lv_iload hx hb dL_law_23 (la hl 4 rfl) ?_
    refine s_aload_n hx hb dL_law_25 rfl (la hl 0 rfl) ?_
    refine s_slen hx hb hX hbl hbA hS dL_law_26 ?_
    refine lv_iconst (v := Int32.ofInt 5) hx hb dL_law_27 rfl ?_
    refine s_isub hx hb dL_law_28 ?_
    have e1 : wr ((L : Int) - 5) = (L : Int) - 5 := wr_eq ⟨by omega, by omega⟩
    rw [e1]
    refine s_icmp_gt (tgt := 1038) hx hb dL_law_29 (by decide) it ⟨by omega, by omega⟩ (fun cd => ?_) (fun cd => ?_)
    · refine lv_iconst (v := Int32.ofInt 1) hx hb dL_law_1038 rfl ?_
      refine va_forget (fun q hq => hS.2.2 q hq) ?_
      refine W.widen (k := room_1.cells) (n := room_1.slots) (Nat.le_trans (m := 100000) (by omega) rm_c) (Nat.le_trans (m := 2000000) (by omega) rm_s) ?_
      exact lw_ret hx hb hr hlocks dL_law_1039
    · have ht5 : t + 5 ≤ L := by omega
      refine s_aload_n hx hb dL_law_32 rfl (la hl 0 rfl) ?_
      refine lv_iload hx hb dL_law_33 (la hl 4 rfl) ?_
      refine s_sld (t := t) hx hb hX hbl hbA hS rfl (by omega) hL dL_law_35 ?_
      refine lv_bipush (v := Int32.ofInt 15) hx hb dL_law_36 (by decide) ?_
      refine s_iand hx hb dL_law_38 ?_
      have hj := ian15 (xs t).toInt
      have cont : ∀ (h : Hp) (H : Heap) (locs : List Loc) (ls : Array Slot), J h → SM D G s.heap.size h H → va_S (Ab s.heap.size) s.heap H locs → lvh ls 7 [(0, vr (b : Int)), (1, vr xa), (2, vr ma), (3, vr oa), (4, vi (t : Int))] → W p l e room_1 s m #[Value.ref b] below meth c H locs (c0 + 40 * (513 - (n + 1)) + 40) (s0 + 3000 * (513 - (n + 1)) + 3000) (lw_Z below #[Value.ref b] s) (F0 m 1032 ls []) := by
        intro h H locs ls hJ hM hS hl
        refine t_iinc (y := ((t + 5 : Nat) : Int)) (lv' := [(4, vi ((t + 5 : Nat) : Int)), (0, vr (b : Int)), (1, vr xa), (2, vr ma), (3, vr oa)]) hx hb dL_law_1032 hl (k := 4) rfl (by decide) (by rw [wr_eq ⟨by omega, by omega⟩]; omega) rfl (fun ls hl => ?_)
        refine lv_goto (tgt := 23) hx hb dL_law_1035 (by decide) ?_
        refine W.widen (k := c0 + 40 * (513 - n)) (n := s0 + 3000 * (513 - n)) (by omega) (by omega) ?_
        exact ih (t + 5) (by omega) (by omega) (by omega) h H locs ls hJ hM hS (lsub hl [1, 2, 3, 4, 0] rfl)
      have hcc : c0 + 40 * (513 - (n + 1)) + 40 ≤ 100000 := by omega
      have hss : s0 + 3000 * (513 - (n + 1)) + 3000 ≤ 2000000 := by omega
      by_cases q0 : ian (xs t).toInt 15 = 0
      · refine s_tsw (k := 0) (off := 77) (tgt := 116) hx hb (inr_an _ _) q0 dL_law_39 (by decide) (by decide) (by decide +kernel) (by decide) ?_
        exact law_cache C0 hL hE hJ5 hJ6 o0 ht5 hM hS hJ hl hcc hss cont
      by_cases q1 : ian (xs t).toInt 15 = 1
      · refine s_tsw (k := 1) (off := 169) (tgt := 208) hx hb (inr_an _ _) q1 dL_law_39 (by decide) (by decide) (by decide +kernel) (by decide) ?_
        exact law_drop C0 hL hE hJ5 hJ6 o1 ht5 hM hS hJ hl hcc hss cont
      by_cases q2 : ian (xs t).toInt 15 = 2
      · refine s_tsw (k := 2) (off := 225) (tgt := 264) hx hb (inr_an _ _) q2 dL_law_39 (by decide) (by decide) (by decide +kernel) (by decide) ?_
        exact law_allocate C0 hL hE hJ5 hJ6 o2 ht5 hM hS hJ hl hcc hss cont
      by_cases q3 : ian (xs t).toInt 15 = 3
      · refine s_tsw (k := 3) (off := 293) (tgt := 332) hx hb (inr_an _ _) q3 dL_law_39 (by decide) (by decide) (by decide +kernel) (by decide) ?_
        exact law_free C0 hL hE hJ5 hJ6 o3 ht5 hM hS hJ hl hcc hss cont
      by_cases q4 : ian (xs t).toInt 15 = 4
      · refine s_tsw (k := 4) (off := 361) (tgt := 400) hx hb (inr_an _ _) q4 dL_law_39 (by decide) (by decide) (by decide +kernel) (by decide) ?_
        exact law_mark C0 hL hE hJ5 hJ6 o4 ht5 hM hS hJ hl hcc hss cont
      by_cases q5 : ian (xs t).toInt 15 = 5
      · refine s_tsw (k := 5) (off := 429) (tgt := 468) hx hb (inr_an _ _) q5 dL_law_39 (by decide) (by decide) (by decide +kernel) (by decide) ?_
        exact law_flush C0 hL hE hJ5 hJ6 o5 ht5 hM hS hJ hl hcc hss cont
      by_cases q6 : ian (xs t).toInt 15 = 6
      · refine s_tsw (k := 6) (off := 485) (tgt := 524) hx hb (inr_an _ _) q6 dL_law_39 (by decide) (by decide) (by decide +kernel) (by decide) ?_
        exact law_empty C0 hL hE hJ5 hJ6 o6 ht5 hM hS hJ hl hcc hss cont
      by_cases q7 : ian (xs t).toInt 15 = 7
      · refine s_tsw (k := 7) (off := 541) (tgt := 580) hx hb (inr_an _ _) q7 dL_law_39 (by decide) (by decide) (by decide +kernel) (by decide) ?_
        exact law_reap C0 hL hE hJ5 hJ6 o7 ht5 hM hS hJ hl hcc hss cont
      by_cases q8 : ian (xs t).toInt 15 = 8
      · refine s_tsw (k := 8) (off := 554) (tgt := 593) hx hb (inr_an _ _) q8 dL_law_39 (by decide) (by decide) (by decide +kernel) (by decide) ?_
        exact law_cacheOf C0 hL hE hJ5 hJ6 o8 ht5 hM hS hJ hl hcc hss cont
      by_cases q9 : ian (xs t).toInt 15 = 9
      · refine s_tsw (k := 9) (off := 579) (tgt := 618) hx hb (inr_an _ _) q9 dL_law_39 (by decide) (by decide) (by decide +kernel) (by decide) ?_
        exact law_objectOf C0 hL hE hJ5 hJ6 o9 ht5 hM hS hJ hl hcc hss cont
      by_cases q10 : ian (xs t).toInt 15 = 10
      · refine s_tsw (k := 10) (off := 604) (tgt := 643) hx hb (inr_an _ _) q10 dL_law_39 (by decide) (by decide) (by decide +kernel) (by decide) ?_
        exact law_about C0 hL hE hJ5 hJ6 o10 ht5 hM hS hJ hl hcc hss cont
      by_cases q11 : ian (xs t).toInt 15 = 11
      · refine s_tsw (k := 11) (off := 672) (tgt := 711) hx hb (inr_an _ _) q11 dL_law_39 (by decide) (by decide) (by decide +kernel) (by decide) ?_
        exact law_list C0 hL hE hJ5 hJ6 o11 ht5 hM hS hJ hl hcc hss cont
      by_cases q12 : ian (xs t).toInt 15 = 12
      · refine s_tsw (k := 12) (off := 752) (tgt := 791) hx hb (inr_an _ _) q12 dL_law_39 (by decide) (by decide) (by decide +kernel) (by decide) ?_
        exact law_slab C0 hL hE hJ5 hJ6 o12 ht5 hM hS hJ hl hcc hss cont
      by_cases q13 : ian (xs t).toInt 15 = 13
      · refine s_tsw (k := 13) (off := 820) (tgt := 859) hx hb (inr_an _ _) q13 dL_law_39 (by decide) (by decide) (by decide +kernel) (by decide) ?_
        exact law_magazine C0 hL hE hJ5 hJ6 o13 ht5 hM hS hJ hl hcc hss cont
      by_cases q14 : ian (xs t).toInt 15 = 14
      · refine s_tsw (k := 14) (off := 900) (tgt := 939) hx hb (inr_an _ _) q14 dL_law_39 (by decide) (by decide) (by decide +kernel) (by decide) ?_
        exact law_block C0 hL hE hJ5 hJ6 o14 ht5 hM hS hJ hl hcc hss cont
      by_cases q15 : ian (xs t).toInt 15 = 15
      · refine s_tsw (k := 15) (off := 968) (tgt := 1007) hx hb (inr_an _ _) q15 dL_law_39 (by decide) (by decide) (by decide +kernel) (by decide) ?_
        exact law_pages C0 hL hE hJ5 hJ6 o15 ht5 hM hS hJ hl hcc hss cont
      exact absurd hj (by omega)
