section
-- ===== PART A: goes FIRST, ahead of the names: the tables' words, and 'selects' of the private methods out of them =====
/-- a private method of a class that the tables say can be made, by its rows of tables_1 -/
def lw_okq (q : MethodName × Nat) : Prop := (q.1.cls ≠ "java/lang/invoke/MethodHandle" ∧ q.1.cls ≠ "java/lang/invoke/VarHandle") ∧ Cond.instantiable q.1.cls q.2 ∈ tables_1 ∧ Cond.privateMethod q.1 ∈ tables_1 ∧ Cond.instanceMethod q.1 ∈ tables_1
theorem lw_p0 : lw_okq (⟨"SlabHouse", "giveBack", "(LSlabHouse$Slab;)I"⟩, 4) := ⟨⟨by decide +kernel, by decide +kernel⟩, List.mem_of_getElem? (i := 18) (by decide +kernel), List.mem_of_getElem? (i := 65) (by decide +kernel), List.mem_of_getElem? (i := 66) (by decide +kernel)⟩
theorem lw_p1 : lw_okq (⟨"SlabHouse", "setPages", "(LSlabHouse$Slab;LSlabHouse$Slab;)V"⟩, 4) := ⟨⟨by decide +kernel, by decide +kernel⟩, List.mem_of_getElem? (i := 18) (by decide +kernel), List.mem_of_getElem? (i := 77) (by decide +kernel), List.mem_of_getElem? (i := 78) (by decide +kernel)⟩
theorem lw_p2 : lw_okq (⟨"SlabHouse$Blocks", "isFree", "(II)Z"⟩, 2) := ⟨⟨by decide +kernel, by decide +kernel⟩, List.mem_of_getElem? (i := 26) (by decide +kernel), List.mem_of_getElem? (i := 88) (by decide +kernel), List.mem_of_getElem? (i := 89) (by decide +kernel)⟩
theorem lw_p3 : lw_okq (⟨"SlabHouse$Blocks", "setFree", "(II)V"⟩, 2) := ⟨⟨by decide +kernel, by decide +kernel⟩, List.mem_of_getElem? (i := 26) (by decide +kernel), List.mem_of_getElem? (i := 92) (by decide +kernel), List.mem_of_getElem? (i := 93) (by decide +kernel)⟩
theorem lw_p4 : lw_okq (⟨"SlabHouse", "slabAt", "(I)LSlabHouse$Slab;"⟩, 4) := ⟨⟨by decide +kernel, by decide +kernel⟩, List.mem_of_getElem? (i := 18) (by decide +kernel), List.mem_of_getElem? (i := 100) (by decide +kernel), List.mem_of_getElem? (i := 101) (by decide +kernel)⟩
theorem lw_p5 : lw_okq (⟨"SlabHouse$Slab", "wasTaken", "(I)Z"⟩, 11) := ⟨⟨by decide +kernel, by decide +kernel⟩, List.mem_of_getElem? (i := 127) (by decide +kernel), List.mem_of_getElem? (i := 125) (by decide +kernel), List.mem_of_getElem? (i := 126) (by decide +kernel)⟩
theorem lw_p6 : lw_okq (⟨"java/lang/Throwable", "fillInStackTrace", "(I)Ljava/lang/Throwable;"⟩, 6) := ⟨⟨by decide +kernel, by decide +kernel⟩, List.mem_of_getElem? (i := 181) (by decide +kernel), List.mem_of_getElem? (i := 179) (by decide +kernel), List.mem_of_getElem? (i := 180) (by decide +kernel)⟩
theorem lw_p7 : lw_okq (⟨"SlabHouse", "knownCache", "(I)LSlabHouse$Cache;"⟩, 4) := ⟨⟨by decide +kernel, by decide +kernel⟩, List.mem_of_getElem? (i := 18) (by decide +kernel), List.mem_of_getElem? (i := 327) (by decide +kernel), List.mem_of_getElem? (i := 328) (by decide +kernel)⟩
theorem lw_p8 : lw_okq (⟨"SlabHouse$Cache", "changePlaces", "(I)V"⟩, 17) := ⟨⟨by decide +kernel, by decide +kernel⟩, List.mem_of_getElem? (i := 216) (by decide +kernel), List.mem_of_getElem? (i := 378) (by decide +kernel), List.mem_of_getElem? (i := 379) (by decide +kernel)⟩
theorem lw_p9 : lw_okq (⟨"SlabHouse", "takeFromSlabs", "(LSlabHouse$Cache;)I"⟩, 4) := ⟨⟨by decide +kernel, by decide +kernel⟩, List.mem_of_getElem? (i := 18) (by decide +kernel), List.mem_of_getElem? (i := 390) (by decide +kernel), List.mem_of_getElem? (i := 391) (by decide +kernel)⟩
theorem lw_p10 : lw_okq (⟨"SlabHouse", "makeSlab", "(LSlabHouse$Cache;)LSlabHouse$Slab;"⟩, 4) := ⟨⟨by decide +kernel, by decide +kernel⟩, List.mem_of_getElem? (i := 18) (by decide +kernel), List.mem_of_getElem? (i := 394) (by decide +kernel), List.mem_of_getElem? (i := 395) (by decide +kernel)⟩
theorem lw_p11 : lw_okq (⟨"SlabHouse$Blocks", "halve", "(III)V"⟩, 2) := ⟨⟨by decide +kernel, by decide +kernel⟩, List.mem_of_getElem? (i := 26) (by decide +kernel), List.mem_of_getElem? (i := 406) (by decide +kernel), List.mem_of_getElem? (i := 407) (by decide +kernel)⟩
theorem lw_p12 : lw_okq (⟨"SlabHouse$Slab", "makeRoomForOne", "()V"⟩, 11) := ⟨⟨by decide +kernel, by decide +kernel⟩, List.mem_of_getElem? (i := 127) (by decide +kernel), List.mem_of_getElem? (i := 480) (by decide +kernel), List.mem_of_getElem? (i := 481) (by decide +kernel)⟩
theorem lw_p13 : lw_okq (⟨"SlabHouse", "comeBack", "(I)V"⟩, 4) := ⟨⟨by decide +kernel, by decide +kernel⟩, List.mem_of_getElem? (i := 18) (by decide +kernel), List.mem_of_getElem? (i := 534) (by decide +kernel), List.mem_of_getElem? (i := 535) (by decide +kernel)⟩
theorem lw_p14 : lw_okq (⟨"SlabHouse", "unload", "(LSlabHouse$Magazine;)I"⟩, 4) := ⟨⟨by decide +kernel, by decide +kernel⟩, List.mem_of_getElem? (i := 18) (by decide +kernel), List.mem_of_getElem? (i := 561) (by decide +kernel), List.mem_of_getElem? (i := 562) (by decide +kernel)⟩
theorem lw_p15 : lw_okq (⟨"SlabHouseModel", "refused", "(I)Z"⟩, 27) := ⟨⟨by decide +kernel, by decide +kernel⟩, List.mem_of_getElem? (i := 626) (by decide +kernel), List.mem_of_getElem? (i := 727) (by decide +kernel), List.mem_of_getElem? (i := 728) (by decide +kernel)⟩
def lw_privs_1 : List (MethodName × Nat) := [(⟨"SlabHouse", "giveBack", "(LSlabHouse$Slab;)I"⟩, 4), (⟨"SlabHouse", "setPages", "(LSlabHouse$Slab;LSlabHouse$Slab;)V"⟩, 4), (⟨"SlabHouse$Blocks", "isFree", "(II)Z"⟩, 2), (⟨"SlabHouse$Blocks", "setFree", "(II)V"⟩, 2), (⟨"SlabHouse", "slabAt", "(I)LSlabHouse$Slab;"⟩, 4), (⟨"SlabHouse$Slab", "wasTaken", "(I)Z"⟩, 11), (⟨"java/lang/Throwable", "fillInStackTrace", "(I)Ljava/lang/Throwable;"⟩, 6), (⟨"SlabHouse", "knownCache", "(I)LSlabHouse$Cache;"⟩, 4), (⟨"SlabHouse$Cache", "changePlaces", "(I)V"⟩, 17), (⟨"SlabHouse", "takeFromSlabs", "(LSlabHouse$Cache;)I"⟩, 4), (⟨"SlabHouse", "makeSlab", "(LSlabHouse$Cache;)LSlabHouse$Slab;"⟩, 4), (⟨"SlabHouse$Blocks", "halve", "(III)V"⟩, 2), (⟨"SlabHouse$Slab", "makeRoomForOne", "()V"⟩, 11), (⟨"SlabHouse", "comeBack", "(I)V"⟩, 4), (⟨"SlabHouse", "unload", "(LSlabHouse$Magazine;)I"⟩, 4), (⟨"SlabHouseModel", "refused", "(I)Z"⟩, 27)]
theorem lw_r1 : ∀ q ∈ lw_privs_1, lw_okq q := List.forall_mem_cons.mpr ⟨lw_p0, List.forall_mem_cons.mpr ⟨lw_p1, List.forall_mem_cons.mpr ⟨lw_p2, List.forall_mem_cons.mpr ⟨lw_p3, List.forall_mem_cons.mpr ⟨lw_p4, List.forall_mem_cons.mpr ⟨lw_p5, List.forall_mem_cons.mpr ⟨lw_p6, List.forall_mem_cons.mpr ⟨lw_p7, List.forall_mem_cons.mpr ⟨lw_p8, List.forall_mem_cons.mpr ⟨lw_p9, List.forall_mem_cons.mpr ⟨lw_p10, List.forall_mem_cons.mpr ⟨lw_p11, List.forall_mem_cons.mpr ⟨lw_p12, List.forall_mem_cons.mpr ⟨lw_p13, List.forall_mem_cons.mpr ⟨lw_p14, List.forall_mem_cons.mpr ⟨lw_p15, fun _ h => absurd h List.not_mem_nil⟩⟩⟩⟩⟩⟩⟩⟩⟩⟩⟩⟩⟩⟩⟩⟩
theorem lw_p16 : lw_okq (⟨"SlabHouseModel", "isCache", "(I)Z"⟩, 27) := ⟨⟨by decide +kernel, by decide +kernel⟩, List.mem_of_getElem? (i := 626) (by decide +kernel), List.mem_of_getElem? (i := 735) (by decide +kernel), List.mem_of_getElem? (i := 736) (by decide +kernel)⟩
theorem lw_p17 : lw_okq (⟨"SlabHouseModel", "liveOf", "(I)I"⟩, 27) := ⟨⟨by decide +kernel, by decide +kernel⟩, List.mem_of_getElem? (i := 626) (by decide +kernel), List.mem_of_getElem? (i := 739) (by decide +kernel), List.mem_of_getElem? (i := 740) (by decide +kernel)⟩
theorem lw_p18 : lw_okq (⟨"SlabHouseModel", "emptyHeld", "(I)I"⟩, 27) := ⟨⟨by decide +kernel, by decide +kernel⟩, List.mem_of_getElem? (i := 626) (by decide +kernel), List.mem_of_getElem? (i := 743) (by decide +kernel), List.mem_of_getElem? (i := 744) (by decide +kernel)⟩
theorem lw_p19 : lw_okq (⟨"SlabHouseModel", "toSlab", "(I)V"⟩, 27) := ⟨⟨by decide +kernel, by decide +kernel⟩, List.mem_of_getElem? (i := 626) (by decide +kernel), List.mem_of_getElem? (i := 747) (by decide +kernel), List.mem_of_getElem? (i := 748) (by decide +kernel)⟩
theorem lw_p20 : lw_okq (⟨"SlabHouseModel", "change", "(II)V"⟩, 27) := ⟨⟨by decide +kernel, by decide +kernel⟩, List.mem_of_getElem? (i := 626) (by decide +kernel), List.mem_of_getElem? (i := 751) (by decide +kernel), List.mem_of_getElem? (i := 752) (by decide +kernel)⟩
theorem lw_p21 : lw_okq (⟨"SlabHouseModel", "whichOf", "(I)I"⟩, 27) := ⟨⟨by decide +kernel, by decide +kernel⟩, List.mem_of_getElem? (i := 626) (by decide +kernel), List.mem_of_getElem? (i := 755) (by decide +kernel), List.mem_of_getElem? (i := 756) (by decide +kernel)⟩
theorem lw_p22 : lw_okq (⟨"SlabHouseModel", "leave", "(III)V"⟩, 27) := ⟨⟨by decide +kernel, by decide +kernel⟩, List.mem_of_getElem? (i := 626) (by decide +kernel), List.mem_of_getElem? (i := 759) (by decide +kernel), List.mem_of_getElem? (i := 760) (by decide +kernel)⟩
theorem lw_p23 : lw_okq (⟨"SlabHouseModel", "enter", "(III)V"⟩, 27) := ⟨⟨by decide +kernel, by decide +kernel⟩, List.mem_of_getElem? (i := 626) (by decide +kernel), List.mem_of_getElem? (i := 763) (by decide +kernel), List.mem_of_getElem? (i := 764) (by decide +kernel)⟩
theorem lw_p24 : lw_okq (⟨"SlabHouseModel", "emptyDepot", "(I)I"⟩, 27) := ⟨⟨by decide +kernel, by decide +kernel⟩, List.mem_of_getElem? (i := 626) (by decide +kernel), List.mem_of_getElem? (i := 767) (by decide +kernel), List.mem_of_getElem? (i := 768) (by decide +kernel)⟩
theorem lw_p25 : lw_okq (⟨"SlabHouseModel", "giveSlab", "(I)I"⟩, 27) := ⟨⟨by decide +kernel, by decide +kernel⟩, List.mem_of_getElem? (i := 626) (by decide +kernel), List.mem_of_getElem? (i := 771) (by decide +kernel), List.mem_of_getElem? (i := 772) (by decide +kernel)⟩
theorem lw_p26 : lw_okq (⟨"SlabHouseModel", "unitOf", "(II)I"⟩, 27) := ⟨⟨by decide +kernel, by decide +kernel⟩, List.mem_of_getElem? (i := 626) (by decide +kernel), List.mem_of_getElem? (i := 775) (by decide +kernel), List.mem_of_getElem? (i := 776) (by decide +kernel)⟩
theorem lw_p27 : lw_okq (⟨"SlabHouseModel", "giveBlock", "(II)V"⟩, 27) := ⟨⟨by decide +kernel, by decide +kernel⟩, List.mem_of_getElem? (i := 626) (by decide +kernel), List.mem_of_getElem? (i := 779) (by decide +kernel), List.mem_of_getElem? (i := 780) (by decide +kernel)⟩
theorem lw_p28 : lw_okq (⟨"SlabHouseModel", "swap", "(I)V"⟩, 27) := ⟨⟨by decide +kernel, by decide +kernel⟩, List.mem_of_getElem? (i := 626) (by decide +kernel), List.mem_of_getElem? (i := 787) (by decide +kernel), List.mem_of_getElem? (i := 788) (by decide +kernel)⟩
theorem lw_p29 : lw_okq (⟨"SlabHouseModel", "fromSlabs", "(I)I"⟩, 27) := ⟨⟨by decide +kernel, by decide +kernel⟩, List.mem_of_getElem? (i := 626) (by decide +kernel), List.mem_of_getElem? (i := 791) (by decide +kernel), List.mem_of_getElem? (i := 792) (by decide +kernel)⟩
theorem lw_p30 : lw_okq (⟨"SlabHouseModel", "makeSlab", "(I)Z"⟩, 27) := ⟨⟨by decide +kernel, by decide +kernel⟩, List.mem_of_getElem? (i := 626) (by decide +kernel), List.mem_of_getElem? (i := 795) (by decide +kernel), List.mem_of_getElem? (i := 796) (by decide +kernel)⟩
theorem lw_p31 : lw_okq (⟨"SlabHouseModel", "takeBlock", "(I)I"⟩, 27) := ⟨⟨by decide +kernel, by decide +kernel⟩, List.mem_of_getElem? (i := 626) (by decide +kernel), List.mem_of_getElem? (i := 799) (by decide +kernel), List.mem_of_getElem? (i := 800) (by decide +kernel)⟩
def lw_privs_2 : List (MethodName × Nat) := [(⟨"SlabHouseModel", "isCache", "(I)Z"⟩, 27), (⟨"SlabHouseModel", "liveOf", "(I)I"⟩, 27), (⟨"SlabHouseModel", "emptyHeld", "(I)I"⟩, 27), (⟨"SlabHouseModel", "toSlab", "(I)V"⟩, 27), (⟨"SlabHouseModel", "change", "(II)V"⟩, 27), (⟨"SlabHouseModel", "whichOf", "(I)I"⟩, 27), (⟨"SlabHouseModel", "leave", "(III)V"⟩, 27), (⟨"SlabHouseModel", "enter", "(III)V"⟩, 27), (⟨"SlabHouseModel", "emptyDepot", "(I)I"⟩, 27), (⟨"SlabHouseModel", "giveSlab", "(I)I"⟩, 27), (⟨"SlabHouseModel", "unitOf", "(II)I"⟩, 27), (⟨"SlabHouseModel", "giveBlock", "(II)V"⟩, 27), (⟨"SlabHouseModel", "swap", "(I)V"⟩, 27), (⟨"SlabHouseModel", "fromSlabs", "(I)I"⟩, 27), (⟨"SlabHouseModel", "makeSlab", "(I)Z"⟩, 27), (⟨"SlabHouseModel", "takeBlock", "(I)I"⟩, 27)]
theorem lw_r2 : ∀ q ∈ lw_privs_2, lw_okq q := List.forall_mem_cons.mpr ⟨lw_p16, List.forall_mem_cons.mpr ⟨lw_p17, List.forall_mem_cons.mpr ⟨lw_p18, List.forall_mem_cons.mpr ⟨lw_p19, List.forall_mem_cons.mpr ⟨lw_p20, List.forall_mem_cons.mpr ⟨lw_p21, List.forall_mem_cons.mpr ⟨lw_p22, List.forall_mem_cons.mpr ⟨lw_p23, List.forall_mem_cons.mpr ⟨lw_p24, List.forall_mem_cons.mpr ⟨lw_p25, List.forall_mem_cons.mpr ⟨lw_p26, List.forall_mem_cons.mpr ⟨lw_p27, List.forall_mem_cons.mpr ⟨lw_p28, List.forall_mem_cons.mpr ⟨lw_p29, List.forall_mem_cons.mpr ⟨lw_p30, List.forall_mem_cons.mpr ⟨lw_p31, fun _ h => absurd h List.not_mem_nil⟩⟩⟩⟩⟩⟩⟩⟩⟩⟩⟩⟩⟩⟩⟩⟩
theorem lw_p32 : lw_okq (⟨"SlabHouseModel", "reapAll", "()I"⟩, 27) := ⟨⟨by decide +kernel, by decide +kernel⟩, List.mem_of_getElem? (i := 626) (by decide +kernel), List.mem_of_getElem? (i := 803) (by decide +kernel), List.mem_of_getElem? (i := 804) (by decide +kernel)⟩
theorem lw_p33 : lw_okq (⟨"SlabHouseModel", "isLive", "(I)Z"⟩, 27) := ⟨⟨by decide +kernel, by decide +kernel⟩, List.mem_of_getElem? (i := 626) (by decide +kernel), List.mem_of_getElem? (i := 811) (by decide +kernel), List.mem_of_getElem? (i := 812) (by decide +kernel)⟩
theorem lw_p34 : lw_okq (⟨"SlabHouseModel", "cacheAt", "(I)I"⟩, 27) := ⟨⟨by decide +kernel, by decide +kernel⟩, List.mem_of_getElem? (i := 626) (by decide +kernel), List.mem_of_getElem? (i := 816) (by decide +kernel), List.mem_of_getElem? (i := 817) (by decide +kernel)⟩
theorem lw_p35 : lw_okq (⟨"SlabHouseModel", "slabAt", "(I)I"⟩, 27) := ⟨⟨by decide +kernel, by decide +kernel⟩, List.mem_of_getElem? (i := 626) (by decide +kernel), List.mem_of_getElem? (i := 840) (by decide +kernel), List.mem_of_getElem? (i := 841) (by decide +kernel)⟩
def lw_privs_3 : List (MethodName × Nat) := [(⟨"SlabHouseModel", "reapAll", "()I"⟩, 27), (⟨"SlabHouseModel", "isLive", "(I)Z"⟩, 27), (⟨"SlabHouseModel", "cacheAt", "(I)I"⟩, 27), (⟨"SlabHouseModel", "slabAt", "(I)I"⟩, 27)]
theorem lw_r3 : ∀ q ∈ lw_privs_3, lw_okq q := List.forall_mem_cons.mpr ⟨lw_p32, List.forall_mem_cons.mpr ⟨lw_p33, List.forall_mem_cons.mpr ⟨lw_p34, List.forall_mem_cons.mpr ⟨lw_p35, fun _ h => absurd h List.not_mem_nil⟩⟩⟩⟩
def lw_privs : List (MethodName × Nat) := lw_privs_1 ++ (lw_privs_2 ++ (lw_privs_3))
def lw_tbl : List Cond := k2_sels lw_privs ++ tables_1
theorem lw_privs_ok : ∀ q ∈ lw_privs, lw_okq q := by
  show ∀ q ∈ lw_privs_1 ++ (lw_privs_2 ++ (lw_privs_3)), lw_okq q
  exact List.forall_mem_append.mpr ⟨lw_r1, List.forall_mem_append.mpr ⟨lw_r2, lw_r3⟩⟩
end
section
/-! ===== BEGIN words of one list among another's, by their places ===== -/
theorem goodIn_r {big : List Cond} (ws : List Cond) (ps : List Nat) (hp : ws = ps.filterMap (fun i => big[i]?)) (h : ws.all goodWord = true) : GoodIn big ws := by
  intro w hw
  have h1 := List.all_eq_true.mp h w hw
  rw [hp] at hw
  obtain ⟨i, -, hi⟩ := List.mem_filterMap.mp hw
  have hm : w ∈ big := by first | exact List.mem_of_getElem? hi | exact List.getElem?_mem hi
  exact ⟨hm, good_of_word h1⟩
theorem goodIn_app {big a b : List Cond} (ha : GoodIn big a) (hb : GoodIn big b) : GoodIn big (a ++ b) := fun w h => (List.mem_append.mp h).elim (ha w) (hb w)
theorem goodIn_ca {big a b : List Cond} {c : Cond} (ha : GoodIn big (c :: a)) (hb : GoodIn big b) : GoodIn big (c :: (a ++ b)) := fun w h => (List.mem_cons.mp h).elim (fun e => ha w (List.mem_cons.mpr (Or.inl e))) (fun h => (List.mem_append.mp h).elim (fun h => ha w (List.mem_cons.mpr (Or.inr h))) (hb w))
theorem goodIn_sub {big ws : List Cond} (hm : ∀ w ∈ ws, w ∈ big) (h : ws.all goodWord = true) : GoodIn big ws := fun w hw => ⟨hm w hw, good_of_word (List.all_eq_true.mp h w hw)⟩
/-! ===== END ===== -/

/-! ===== BEGIN exceptions that leave a method, and their catching by the caller (launches without stack traces) ===== -/
section VXA
/-! The laws vx_back, vx_callV, vx_callS, vx_callSW, vx_throw0, vx_throwS follow proofs of the library, with one case more: JvmDerived/Free/Laws.lean (Back.of_free), Shelf42/LK1.lean (callV, callS), Shelf/KitTraced.lean (throwNew0V, throwNewS). -/
/-- where a method has thrown q: the class by its name, the cell, what was written, the world -/
def vx_T (XC : String → State → State → Prop) (st : State) (q : Addr) (t : State) (mc ms : Nat) (free : Addr → Prop) : Prop :=
  ∃ (E : String) (ce : Cell) (L : List Loc), XC E st t ∧ t.heap[q]? = some ce ∧ ce.vm = .none ∧ st.vm.findClass E = some ce.cls ∧ st.WarmedH t.vm ∧ st.sameButNew ({ t with vm := st.vm } : State) L mc ms ∧ ∀ z ∈ L, free z.base
def vx_Q (Qc : Array Value → State → Outcome → State → Prop) (XC : String → State → State → Prop) (mc ms : Nat) (free : Addr → Prop) : Array Value → State → Outcome → State → Prop := fun a st o t =>
  (Qc a st o t ∧ ∃ L, FrameEnd st o t L mc ms ∧ ∀ q ∈ L, free q.base) ∨ ∃ q, o = .threw q ∧ vx_T XC st q t mc ms free
/-- a callee that returns or throws -/
def vx_Met (l : Launch) (y : MethodName) (ws : List Cond) (rm : Room) (Pc : Array Value → State → Prop) (Qc : Array Value → State → Outcome → State → Prop) (XC : String → State → State → Prop) (mc ms : Nat) (free : Addr → Prop) : Prop :=
  MetFree l y (headSpec ws rm) Pc (fun _ _ _ _ _ => True) (vx_Q Qc XC mc ms free)
def vx_Post (XC : String → State → State → Prop) (mc ms : Nat) (free : Addr → Prop) : Pt → Array Value → Addr → Pt → Prop := fun A a q B =>
  ∃ (g : JFrame) (mk : MethodId) (t : State) (L : List Loc) (E : String) (ce : Cell), B.U.heap = t.heap ∧ B.U.vm = t.vm ∧ XC E (A.U.calling g mk a) t ∧ t.heap[q]? = some ce ∧ ce.vm = .none ∧ A.U.vm.findClass E = some ce.cls ∧ B.locs = A.locs ++ L ∧ (∀ z ∈ L, free z.base) ∧ B.cells = A.cells + mc ∧ B.slots = A.slots + ms
def vx_Back (l : Launch) (R : Room) (p : Program) (e : Env) (below : List Frame) (s : State) (sargs : Array Value) (y : MethodName) (len W9 : Nat)
    (Pre : Pt → Array Value → Prop) (Post : Pt → Array Value → Option Value → Pt → Prop) (PostX : Pt → Array Value → Addr → Pt → Prop) : Prop :=
  ∀ (m : MethodId) (meth : Method) (c : Code) (A : Pt) (g : JFrame) (ig : Instr) (mk : MethodId) (a : Array Value),
    Stand p l e R s m sargs below meth c A.U A.locs A.cells A.slots → g.method = m → g.locals.size = c.maxLocals → decode c.code g.pc = .ok (ig, len) →
    2 * g.monitorRoom + (g.stack.map fun v => v.category).sum ≤ W9 → A.U.methodNamed? y = some mk → Pre A a →
    (∃ (v : Option Value) (B : Pt), Stand p l e R s m sargs below meth c B.U B.locs B.cells B.slots ∧ Post A a v B ∧
      Steps p.tables e below (doInvoke e (A.U.setTop g) [] mk a).1 (B.U.setTop { g with pc := g.pc + len, stack := v.toList ++ g.stack })) ∨
    (∃ (q : Addr) (B : Pt), Stand p l e R s m sargs below meth c B.U B.locs B.cells B.slots ∧ PostX A a q B ∧
      Steps p.tables e below (doInvoke e (A.U.setTop g) [] mk a).1 ((B.U.setTop g).pushFrame (.throwing q)))
section Payer
variable {l : Launch} {R : Room} {p : Program} {e : Env} {below : List Frame} {s : State} {sargs : Array Value} {y : MethodName} {len W9 : Nat}
theorem vx_back {ws : List Cond} {rm : Room} {Pc : Array Value → State → Prop} {Qc : Array Value → State → Outcome → State → Prop} {XC : String → State → State → Prop} {mc ms : Nat} {free : Addr → Prop} {bytes : ByteArray} {maxL : Nat} {ret : Option FieldType}
    (hM : vx_Met l y ws rm Pc Qc XC mc ms free) (hblind : FrameBlind Pc) (hrc : rm.cells = mc) (hrs : rm.slots = ms)
    (hframes : rm.frames + 1 ≤ R.frames) (hlocals : W9 + (maxL + 11) + rm.locals ≤ R.locals)
    (hws : ∀ w ∈ ws, ∀ a' U, s.WarmedH U.vm → w.before a' U = true) (hcode : Cond.code y bytes maxL ret ∈ ws) (hinit : ∀ a' U, s.WarmedH U.vm → (Cond.initialized y.cls).before a' U = true) :
    vx_Back l R p e below s sargs y len W9 (PreOf R mc ms Pc) (PostOf Qc mc ms free) (vx_Post XC mc ms free) := by
  intro m meth c A g ig mk a X hg hsize hdg hW hn hp
  have h1 : (headSpec ws rm).pre.before a A.U = true := atoms_intro fun w hw => hws w hw _ _ X.warmed
  have h2 : (Cond.code y bytes maxL ret).before a A.U = true := hws _ hcode _ _ X.warmed
  have h3 : (Cond.initialized y.cls).before a A.U = true := hinit _ _ X.warmed
  have h4 : A.cells + (headSpec ws rm).room.cells ≤ R.cells := by rw [show (headSpec ws rm).room.cells = mc from hrc]; exact hp.1
  have h5 : A.slots + (headSpec ws rm).room.slots ≤ R.slots := by rw [show (headSpec ws rm).room.slots = ms from hrs]; exact hp.2.1
  have hPc : Pc a (A.U.calling g mk a) := hblind _ _ _ _ hp.2.2
  obtain ⟨U, Ls, c0, s0⟩ := A
  dsimp only [Pt.U, Pt.locs, Pt.cells, Pt.slots] at h1 h2 h3 h4 h5 X hn hPc ⊢
  obtain ⟨methY, cY, hmY, hcY, -, hlY, -, -, -, -⟩ := Cond.code_spec hn h2
  obtain ⟨kY, hkY, -⟩ := className_of_methodNamed hn
  have hinitY : kY.init = .initialized := Cond.initialized_spec (findClass_of_methodNamed hn) hkY h3
  have h : At U g.method c below := by rw [hg]; exact X.here
  have hlocals9 : W9 + (maxL + 11) + (headSpec ws rm).room.locals ≤ R.locals := hlocals
  have happ : (headSpec ws rm).appliesLoose y e.platform (U.calling g mk a) = true :=
    Spec.appliesLoose_calling (g := g) h hdg hn hkY hinitY
      (X.room_calling (g := g) (R' := (headSpec ws rm).room) hsize hmY hcY hframes (by rw [hlY]; omega) h4 h5) h1
  obtain ⟨mid, hmid⟩ := h.above
  have hfr : (U.setTop g).frames = (.java g :: mid) ++ below := by rw [State.frames_setTop' g h.top, hmid]; rfl
  obtain ⟨o, s₂, hsteps, -, hend, hq⟩ := Steps.callFree hM p X.admits X.cas X.clock (acts := []) hfr happ hPc trivial
  have hq' : vx_Q Qc XC mc ms free a (U.calling g mk a) o s₂ := hq
  rw [State.frames_setTop' g h.top] at hend
  obtain ⟨g₀, hg0⟩ := Option.isSome_iff_exists.mp h.top
  obtain ⟨r, hr⟩ := State.topJava?_eq_some.mp hg0
  have hr' : (({ U with heap := s₂.heap, slotsUsed := s₂.slotsUsed } : State).setVm s₂.vm).frames = .java g₀ :: r := hr
  rcases hq' with ⟨hqc, L, hfe, hL⟩ | ⟨q, rfl, E, ce, L, hx, hce, hcv, hcl, hW₂, hsm, hL⟩
  · obtain ⟨⟨v, rfl⟩, hW₂, e2, q2, q3, q4, q5, q6⟩ := id hfe
    have e3 : s₂ = ({ (U.calling g mk a).setFrames s₂.frames with heap := s₂.heap, slotsUsed := s₂.slotsUsed } : State).setVm s₂.vm := by
      have : s₂ = ({ s₂ with vm := (U.calling g mk a).vm } : State).setVm s₂.vm := rfl
      rw [e2] at this
      exact this
    obtain ⟨c₂, i₂, len₂, hc₂, hd₂, hf₂⟩ := hend
    have hW' : U.WarmedH s₂.vm := hW₂
    have hcc : c₂ = c := by
      have h1 : s₂.code? g.method = U.code? g.method := by
        rw [State.code?_eq, State.code?_eq, hW'.alike.method?]
      exact Option.some.inj (hc₂.symm.trans (h1.trans h.code))
    subst hcc
    have hlen : len₂ = len := by rw [hdg] at hd₂; cases hd₂; rfl
    subst hlen
    have hs₂ : s₂ = (({ U with heap := s₂.heap, slotsUsed := s₂.slotsUsed } : State).setVm s₂.vm).setTop { g with pc := g.pc + len₂, stack := v.toList ++ g.stack } := by
      refine e3.trans ?_
      rw [hf₂, State.calling_eq h.top, State.setFrames_setFrames, State.setTop_of_frames _ hr', hr]
      rfl
    have hsame : U.sameButNew ({ U with heap := s₂.heap, slotsUsed := s₂.slotsUsed } : State) L mc ms := by
      refine ⟨?_, q2, q3, q4, q5, q6⟩
      obtain ⟨t, ht, -⟩ := State.frames_cons hr
      show ({ U with heap := s₂.heap, slotsUsed := s₂.slotsUsed } : State) = { U.setFrames U.frames with heap := s₂.heap, slotsUsed := s₂.slotsUsed }
      rw [State.setFrames_self ht]
    subst hg
    refine Or.inl ⟨v, ⟨(({ U with heap := s₂.heap, slotsUsed := s₂.slotsUsed } : State).setVm s₂.vm), Ls ++ L, c0 + mc, s0 + ms⟩,
      ⟨X.admits, X.cas, X.clock, X.frames, X.room, X.hears, X.method, X.code, (X.here.setHeapUsed s₂.heap s₂.slotsUsed).setVm hW'.alike, X.tail, State.WarmedH.trans X.warmed hW', X.limits, X.bytes, X.same.trans (hsame.setVm s.vm)⟩,
      ⟨g, mk, s₂, L, rfl, rfl, hqc, rfl, hL, rfl, rfl⟩, ?_⟩
    show Steps p.tables e below _ ((({ U with heap := s₂.heap, slotsUsed := s₂.slotsUsed } : State).setVm s₂.vm).setTop { g with pc := g.pc + len₂, stack := v.toList ++ g.stack })
    rw [← hs₂]
    exact hsteps
  · obtain ⟨e2, q2, q3, q4, q5, q6⟩ := id hsm
    have e3 : s₂ = ({ (U.calling g mk a).setFrames s₂.frames with heap := s₂.heap, slotsUsed := s₂.slotsUsed } : State).setVm s₂.vm := by
      have : s₂ = ({ s₂ with vm := (U.calling g mk a).vm } : State).setVm s₂.vm := rfl
      rw [e2] at this
      exact this
    have hf₂ : s₂.frames = .throwing q :: .java g :: U.frames.tail := hend
    have hW' : U.WarmedH s₂.vm := hW₂
    have hs₂ : s₂ = ((({ U with heap := s₂.heap, slotsUsed := s₂.slotsUsed } : State).setVm s₂.vm).setTop g).pushFrame (.throwing q) := by
      refine e3.trans ?_
      rw [hf₂, State.calling_eq h.top, State.setFrames_setFrames, State.pushFrame, State.frames_setTop _ hr', State.setTop_of_frames _ hr', State.setFrames_setFrames, hr]
      rfl
    have hsame : U.sameButNew ({ U with heap := s₂.heap, slotsUsed := s₂.slotsUsed } : State) L mc ms := by
      refine ⟨?_, q2, q3, q4, q5, q6⟩
      obtain ⟨t, ht, -⟩ := State.frames_cons hr
      show ({ U with heap := s₂.heap, slotsUsed := s₂.slotsUsed } : State) = { U.setFrames U.frames with heap := s₂.heap, slotsUsed := s₂.slotsUsed }
      rw [State.setFrames_self ht]
    subst hg
    refine Or.inr ⟨q, ⟨(({ U with heap := s₂.heap, slotsUsed := s₂.slotsUsed } : State).setVm s₂.vm), Ls ++ L, c0 + mc, s0 + ms⟩,
      ⟨X.admits, X.cas, X.clock, X.frames, X.room, X.hears, X.method, X.code, (X.here.setHeapUsed s₂.heap s₂.slotsUsed).setVm hW'.alike, X.tail, State.WarmedH.trans X.warmed hW', X.limits, X.bytes, X.same.trans (hsame.setVm s.vm)⟩,
      ⟨g, mk, s₂, L, E, ce, rfl, rfl, hx, hce, hcv, hcl, rfl, hL, rfl, rfl⟩, ?_⟩
    show Steps p.tables e below _ (((({ U with heap := s₂.heap, slotsUsed := s₂.slotsUsed } : State).setVm s₂.vm).setTop g).pushFrame (.throwing q))
    rw [← hs₂]
    exact hsteps
end Payer
section Calls
variable {p : Program} {l : Launch} {e : Env} {R : Room} {s : State} {m : MethodId} {args : Array Value} {below : List Frame} {meth : Method} {c : Code} {T : State} {locs : List Loc} {cells slots : Nat}
theorem vx_callV (X : Stand p l e R s m args below meth c T locs cells slots) (hexec : p.tables.exec = Jvm.exec) {own C : String} {index : Nat} {y : MethodName} {bytes : ByteArray} {maxL : Nat} {ret : Option FieldType}
    (hown : s.vm.findClass own = some m.cls) (hlink : (Cond.methodLink own index y).before args s = true) (hinst : (Cond.instanceMethod y).before args s = true) (hsel : (Cond.selects C y y).before args s = true)
    (hcode : (Cond.code y bytes maxL ret).before args s = true) (hy : y.cls ≠ "java/lang/invoke/MethodHandle" ∧ y.cls ≠ "java/lang/invoke/VarHandle")
    {W9 : Nat} {Pre : Pt → Array Value → Prop} {Post : Pt → Array Value → Option Value → Pt → Prop} {PostX : Pt → Array Value → Addr → Pt → Prop} (hK : vx_Back l R p e below s args y 3 W9 Pre Post PostX)
    {b : Addr} {cellB : Cell} (hcell : T.heap[b]? = some cellB) (hobj : cellB.vm.isStatics = false) (hcls : s.vm.findClass C = some cellB.cls)
    {g : JFrame} (hg : g.method = m) (hsize : g.locals.size = c.maxLocals) {argsL rest : List Value} (hlen : ∀ sig, parseMethodDescriptor y.desc = some sig → argsL.length = sig.parameters.length)
    (hstack : g.stack = argsL.reverse ++ .ref b :: rest) (hW : 2 * g.monitorRoom + (rest.map fun v => v.category).sum ≤ W9) (hdg : decode c.code g.pc = .ok (.invokevirtual index, 3))
    (hpre : ∀ vm₁, s.WarmedH vm₁ → Pre ⟨T.setVm vm₁, locs, cells, slots⟩ (Value.ref b :: argsL).toArray) :
    (∃ (v : Option Value) (vm₁ : Vm) (B : Pt), s.WarmedH vm₁ ∧ Stand p l e R s m args below meth c B.U B.locs B.cells B.slots ∧ Post ⟨T.setVm vm₁, locs, cells, slots⟩ (Value.ref b :: argsL).toArray v B ∧
      ∀ target, Steps p.tables e below (B.U.setTop { g with pc := g.pc + 3, stack := v.toList ++ rest }) target → Steps p.tables e below (T.setTop g) target) ∨
    (∃ (q : Addr) (vm₁ : Vm) (B : Pt), s.WarmedH vm₁ ∧ Stand p l e R s m args below meth c B.U B.locs B.cells B.slots ∧ PostX ⟨T.setVm vm₁, locs, cells, slots⟩ (Value.ref b :: argsL).toArray q B ∧
      Steps p.tables e below (T.setTop g) ((B.U.setTop { g with stack := rest }).pushFrame (.throwing q))) := by
  obtain ⟨mk, methM, hnamed, hmethM, hstM, habM⟩ := Cond.instanceMethod_spec hinst
  obtain ⟨methM', cM, hmethM', -, -, -, -, -, -, hsigM⟩ := Cond.code_spec hnamed hcode
  cases hmethM.symm.trans hmethM'
  obtain ⟨c2, r2, m2, q1, q2, q3, q4, kP, hkP, hkPi⟩ := Cond.selects_spec hsel
  cases hcls.symm.trans q1
  cases (State.methodFound?_of_named hnamed hy).symm.trans q2
  cases hnamed.symm.trans q3
  have hselP : selectMethod e.platform s.vm cellB.cls mk = .method mk := by rw [Launch.admits_selectMethod X.admits]; exact q4
  obtain ⟨vm₁, X₁, hstep₁⟩ := X.invokevirtual hexec hown hlink hnamed hmethM hstM hkP hkPi hy (a := b) (cell := cellB) hcell
    (fun z h => by rw [h] at hobj; cases hobj) hselP hmethM habM hkP hkPi (g := g) hg (argsL := argsL) (rest := rest) (hlen _ hsigM) hstack hdg
  rcases hK m meth c ⟨T.setVm vm₁, locs, cells, slots⟩ { g with stack := rest } (.invokevirtual index) mk (Value.ref b :: argsL).toArray X₁ hg hsize hdg hW (X₁.named hnamed) (hpre vm₁ X₁.warmed) with ⟨v, B, X', hpost, hsteps⟩ | ⟨q, B, X', hpost, hsteps⟩
  · exact Or.inl ⟨v, vm₁, B, X₁.warmed, X', hpost, fun target h => hstep₁ _ fun acts => by rw [doInvoke_state]; exact hsteps.trans h⟩
  · exact Or.inr ⟨q, vm₁, B, X₁.warmed, X', hpost, hstep₁ _ fun acts => by rw [doInvoke_state]; exact hsteps⟩
theorem vx_callS (X : Stand p l e R s m args below meth c T locs cells slots) (hexec : p.tables.exec = Jvm.exec) {own : String} {index : Nat} {y : MethodName} {bytes : ByteArray} {maxL : Nat} {ret : Option FieldType}
    (hown : s.vm.findClass own = some m.cls) (hlink : (Cond.methodLink own index y).before args s = true) (hstat : (Cond.static y).before args s = true) (hinit : (Cond.initialized y.cls).before args s = true)
    (hcode : (Cond.code y bytes maxL ret).before args s = true) (hy : y.cls ≠ "java/lang/invoke/MethodHandle" ∧ y.cls ≠ "java/lang/invoke/VarHandle")
    {W9 : Nat} {Pre : Pt → Array Value → Prop} {Post : Pt → Array Value → Option Value → Pt → Prop} {PostX : Pt → Array Value → Addr → Pt → Prop} (hK : vx_Back l R p e below s args y 3 W9 Pre Post PostX)
    {g : JFrame} (hg : g.method = m) (hsize : g.locals.size = c.maxLocals) {argsL rest : List Value} (hlen : ∀ sig, parseMethodDescriptor y.desc = some sig → argsL.length = sig.parameters.length)
    (hstack : g.stack = argsL.reverse ++ rest) (hW : 2 * g.monitorRoom + (rest.map fun v => v.category).sum ≤ W9) (hdg : decode c.code g.pc = .ok (.invokestatic index, 3))
    (hpre : ∀ vm₁, s.WarmedH vm₁ → Pre ⟨T.setVm vm₁, locs, cells, slots⟩ argsL.toArray) :
    (∃ (v : Option Value) (vm₁ : Vm) (B : Pt), s.WarmedH vm₁ ∧ Stand p l e R s m args below meth c B.U B.locs B.cells B.slots ∧ Post ⟨T.setVm vm₁, locs, cells, slots⟩ argsL.toArray v B ∧
      ∀ target, Steps p.tables e below (B.U.setTop { g with pc := g.pc + 3, stack := v.toList ++ rest }) target → Steps p.tables e below (T.setTop g) target) ∨
    (∃ (q : Addr) (vm₁ : Vm) (B : Pt), s.WarmedH vm₁ ∧ Stand p l e R s m args below meth c B.U B.locs B.cells B.slots ∧ PostX ⟨T.setVm vm₁, locs, cells, slots⟩ argsL.toArray q B ∧
      Steps p.tables e below (T.setTop g) ((B.U.setTop { g with stack := rest }).pushFrame (.throwing q))) := by
  obtain ⟨mk, hnamed⟩ := Cond.code_named hcode
  obtain ⟨methM, cM, hmethM, -, -, -, -, -, -, hsigM⟩ := Cond.code_spec hnamed hcode
  have hstatic : methM.isStatic = true := Cond.static_spec hnamed hmethM hstat
  obtain ⟨kP, hkP, -⟩ := className_of_methodNamed hnamed
  have hinitP : kP.init = .initialized := Cond.initialized_spec (findClass_of_methodNamed hnamed) hkP hinit
  obtain ⟨vm₁, X₁, hstep₁⟩ := X.invokestatic hexec hown hlink hnamed hmethM hstatic hkP hinitP hy (g := g) hg (argsL := argsL) (rest := rest) (hlen _ hsigM) hstack hdg
  rcases hK m meth c ⟨T.setVm vm₁, locs, cells, slots⟩ { g with stack := rest } (.invokestatic index) mk argsL.toArray X₁ hg hsize hdg hW (X₁.named hnamed) (hpre vm₁ X₁.warmed) with ⟨v, B, X', hpost, hsteps⟩ | ⟨q, B, X', hpost, hsteps⟩
  · exact Or.inl ⟨v, vm₁, B, X₁.warmed, X', hpost, fun target h => hstep₁ _ fun acts => by rw [doInvoke_state]; exact hsteps.trans h⟩
  · exact Or.inr ⟨q, vm₁, B, X₁.warmed, X', hpost, hstep₁ _ fun acts => by rw [doInvoke_state]; exact hsteps⟩
end Calls
theorem vx_cls {s : State} {T : State} {vm₁ : Vm} {E : String} {k : ClassId} (hW : s.WarmedH vm₁) (h : (T.setVm vm₁).vm.findClass E = some k) : s.vm.findClass E = some k := by
  have h1 : vm₁.findClass E = some k := h
  rw [hW.alike.findClass] at h1
  exact h1
/-- the method's frame g, with q thrown over it -/
def vx_W (p : Program) (l : Launch) (e : Env) (R : Room) (s : State) (m : MethodId) (args : Array Value) (below : List Frame) (meth : Method) (c : Code) (H : Heap) (locs : List Loc) (cells slots : Nat) (Q : State → Prop) (g : JFrame) (q : Addr) : Prop :=
  ∀ T : State, T.heap = H → Stand p l e R s m args below meth c T locs cells slots → ∃ t, Steps p.tables e below ((T.setTop g).pushFrame (.throwing q)) t ∧ Q t
def vx_Run (p : Program) (l : Launch) (e : Env) (R : Room) (s : State) (m : MethodId) (args : Array Value) (below : List Frame) (meth : Method) (c : Code) (H : Heap) (locs : List Loc) (cells slots mc ms : Nat) (g : JFrame) (rest : List Value) (Qa : State → Outcome → State → Prop) (XC : String → State → State → Prop) (free : Addr → Prop) : Prop :=
  ∀ T : State, T.heap = H → Stand p l e R s m args below meth c T locs cells slots →
    (∃ (v : Option Value) (st₀ t T' : State) (L : List Loc), st₀.heap = H ∧ Stand p l e R s m args below meth c T' (locs ++ L) (cells + mc) (slots + ms) ∧ (∀ q ∈ L, free q.base) ∧ T'.heap = t.heap ∧ T'.vm = t.vm ∧ Qa st₀ (.returned v) t ∧
      Goes p e below T g T' { g with pc := g.pc + 3, stack := v.toList ++ rest }) ∨
    (∃ (q : Addr) (st₀ t T' : State) (L : List Loc) (E : String) (ce : Cell), st₀.heap = H ∧ Stand p l e R s m args below meth c T' (locs ++ L) (cells + mc) (slots + ms) ∧ (∀ z ∈ L, free z.base) ∧ T'.heap = t.heap ∧ T'.vm = t.vm ∧ XC E st₀ t ∧ t.heap[q]? = some ce ∧ ce.vm = .none ∧ s.vm.findClass E = some ce.cls ∧
      Steps p.tables e below (T.setTop g) ((T'.setTop { g with stack := rest }).pushFrame (.throwing q)))
def vx_X {S : Type} (px : S → Prop) (B : String → S → State → Prop) (A : Nat → Prop) : String → State → State → Prop := fun E st t => ∃ u : S, px u ∧ B E u t ∧ va_F A st t
section Runs
variable {p : Program} {l : Launch} {e : Env} {R : Room} {s : State} {m : MethodId} {args : Array Value} {below : List Frame} {meth : Method} {c : Code} {H : Heap} {locs : List Loc} {cells slots : Nat}
variable {y : MethodName} {bytes cc : ByteArray} {maxL nL mc ms n index : Nat} {ret : Option FieldType} {ws : List Cond} {rm : Room} {Pc : Array Value → State → Prop} {Qc : Array Value → State → Outcome → State → Prop} {XC : String → State → State → Prop} {free : Addr → Prop} {Ts : List Cond} {own C : String} {b : Addr} {As rest : List Value} {g : JFrame}
theorem vx_callBack (cb : CallB R s args own index y bytes maxL ret ws rm mc ms n) (hM : vx_Met l y ws rm Pc Qc XC mc ms free) (hbl : FrameBlind Pc) : vx_Back l R p e below s args y 3 8 (PreOf R mc ms Pc) (PostOf Qc mc ms free) (vx_Post XC mc ms free) := by
  obtain ⟨hrc, hrs, hfr, hlo, hws, hcw, -, hini, -⟩ := cb
  exact vx_back (bytes := bytes) (maxL := maxL) (ret := ret) hM hbl hrc hrs hfr hlo hws hcw (fun a' U hW => word_at hW (Or.inl (by first | rfl | simp [Cond.onTables, Cond.keeps, Cond.steady])) hini)
theorem vx_runV (S : CallFix p m c cc nL s args Ts own) (hM : vx_Met l y ws rm Pc Qc XC mc ms free) (cw : CallW R s args own C index y bytes maxL ret ws rm mc ms n) (hp : PreV s H C b Pc As)
    (hg : g.method = m) (hn : As.length = n) (hsize : g.locals.size = nL) (hstack : g.stack = As.reverse ++ .ref b :: rest) (hW : 2 * g.monitorRoom + (rest.map fun v => v.category).sum ≤ 8) (hdg : decode cc g.pc = .ok (.invokevirtual index, 3)) (hf : cells + mc ≤ R.cells ∧ slots + ms ≤ R.slots) :
    vx_Run p l e R s m args below meth c H locs cells slots mc ms g rest (Qc (Value.ref b :: As).toArray) XC free := by
  have hK : vx_Back l R p e below s args y 3 8 (PreOf R mc ms Pc) (PostOf Qc mc ms free) (vx_Post XC mc ms free) := vx_callBack cw.1 hM hp.1
  obtain ⟨⟨-, -, -, -, -, -, hcode, -, hy, hlen, hl⟩, hin, hse⟩ := cw
  obtain ⟨hx, hb, hml, ho, -⟩ := S
  obtain ⟨-, ⟨cellB, hcB, hoB, hclB⟩, hPc⟩ := hp
  intro T hT X
  rcases vx_callV X hx (C := C) (bytes := bytes) (maxL := maxL) (ret := ret) ho hl hin hse hcode hy hK (by rw [hT]; exact hcB) hoB hclB hg (hsize.trans hml.symm) (argsL := As) (rest := rest) (fun sig h => hn.trans (hlen sig h)) hstack hW (by rw [hb]; exact hdg)
    (fun vm₁ hW₁ => ⟨hf.1, hf.2, hPc (T.setVm vm₁) hT hW₁⟩) with ⟨v, vm₁, ⟨U', l2, c2, s2⟩, hW₁, X', ⟨g', mk, t, L, e1, e2, hq, h1, hL, h2, h3⟩, st⟩ | ⟨q, vm₁, ⟨U', l2, c2, s2⟩, hW₁, X', ⟨g', mk, t, L, E, ce, e1, e2, hq, hce, hcv, hcl, h1, hL, h2, h3⟩, st⟩
  · dsimp only [Pt.U, Pt.locs, Pt.cells, Pt.slots] at X' e1 e2 h1 h2 h3 st
    subst h1; subst h2; subst h3
    exact Or.inl ⟨v, (T.setVm vm₁).calling g' mk (Value.ref b :: As).toArray, t, U', L, hT, X', hL, e1, e2, hq, st⟩
  · dsimp only [Pt.U, Pt.locs, Pt.cells, Pt.slots] at X' e1 e2 h1 h2 h3 st hcl
    subst h1; subst h2; subst h3
    exact Or.inr ⟨q, (T.setVm vm₁).calling g' mk (Value.ref b :: As).toArray, t, U', L, E, ce, hT, X', hL, e1, e2, hq, hce, hcv, vx_cls hW₁ hcl, st⟩
theorem vx_runS (S : CallFix p m c cc nL s args Ts own) (hM : vx_Met l y ws rm Pc Qc XC mc ms free) (cw : CallB R s args own index y bytes maxL ret ws rm mc ms n ∧ (Cond.static y).before args s = true) (hp : PreS s H Pc As)
    (hg : g.method = m) (hn : As.length = n) (hsize : g.locals.size = nL) (hstack : g.stack = As.reverse ++ rest) (hW : 2 * g.monitorRoom + (rest.map fun v => v.category).sum ≤ 8) (hdg : decode cc g.pc = .ok (.invokestatic index, 3)) (hf : cells + mc ≤ R.cells ∧ slots + ms ≤ R.slots) :
    vx_Run p l e R s m args below meth c H locs cells slots mc ms g rest (Qc As.toArray) XC free := by
  have hK : vx_Back l R p e below s args y 3 8 (PreOf R mc ms Pc) (PostOf Qc mc ms free) (vx_Post XC mc ms free) := vx_callBack cw.1 hM hp.1
  obtain ⟨⟨-, -, -, -, -, -, hcode, hini, hy, hlen, hl⟩, hstt⟩ := cw
  obtain ⟨hx, hb, hml, ho, -⟩ := S
  intro T hT X
  rcases vx_callS X hx (bytes := bytes) (maxL := maxL) (ret := ret) ho hl hstt hini hcode hy hK hg (hsize.trans hml.symm) (argsL := As) (rest := rest) (fun sig h => hn.trans (hlen sig h)) hstack hW (by rw [hb]; exact hdg)
    (fun vm₁ hW₁ => ⟨hf.1, hf.2, hp.2 (T.setVm vm₁) hT hW₁⟩) with ⟨v, vm₁, ⟨U', l2, c2, s2⟩, hW₁, X', ⟨g', mk, t, L, e1, e2, hq, h1, hL, h2, h3⟩, st⟩ | ⟨q, vm₁, ⟨U', l2, c2, s2⟩, hW₁, X', ⟨g', mk, t, L, E, ce, e1, e2, hq, hce, hcv, hcl, h1, hL, h2, h3⟩, st⟩
  · dsimp only [Pt.U, Pt.locs, Pt.cells, Pt.slots] at X' e1 e2 h1 h2 h3 st
    subst h1; subst h2; subst h3
    exact Or.inl ⟨v, (T.setVm vm₁).calling g' mk As.toArray, t, U', L, hT, X', hL, e1, e2, hq, st⟩
  · dsimp only [Pt.U, Pt.locs, Pt.cells, Pt.slots] at X' e1 e2 h1 h2 h3 st hcl
    subst h1; subst h2; subst h3
    exact Or.inr ⟨q, (T.setVm vm₁).calling g' mk As.toArray, t, U', L, E, ce, hT, X', hL, e1, e2, hq, hce, hcv, vx_cls hW₁ hcl, st⟩
end Runs
section Rows
variable {p : Program} {l : Launch} {e : Env} {R : Room} {s : State} {m : MethodId} {args : Array Value} {below : List Frame} {meth : Method} {c : Code} {H : Heap} {locs : List Loc} {cells slots : Nat} {Q : State → Prop}
variable {mc ms : Nat} {free : Addr → Prop} {A0 A1 : Nat → Prop} {H0 : Heap} {a : Array Value} {pc : Nat} {ls : Array Slot} {st0 rest : List Value}
theorem vx_keep {st₀ t T' : State} {L : List Loc} (h0 : st₀.heap = H) (e1 : T'.heap = t.heap) (hS : va_S A0 H0 H locs) (hA : ∀ q, q < H.size → A1 q → A0 q) (hf : ∀ q, free q → A0 q) (hL : ∀ q ∈ L, free q.base) (hF : va_F A1 st₀ t) :
    H.size ≤ T'.heap.size ∧ (∀ q : Nat, q < H.size → ¬ A1 q → T'.heap[q]? = H[q]?) ∧ va_S A0 H0 T'.heap (locs ++ L) := by
  obtain ⟨hz, hk⟩ := hF
  rw [h0] at hz hk
  exact ⟨by rw [e1]; exact hz, fun q h1 h2 => by rw [e1]; exact hk q h1 h2,
    ⟨Nat.le_trans hS.1 (by rw [e1]; exact hz), fun q h1 h2 => by rw [e1, hk q (Nat.lt_of_lt_of_le h1 hS.1) (fun z => h2 (hA q (Nat.lt_of_lt_of_le h1 hS.1) z))]; exact hS.2.1 q h1 h2, fun q hq => by
      rcases List.mem_append.mp hq with h | h
      · exact hS.2.2 q h
      · exact hf _ (hL q h)⟩⟩
theorem vx_calli {S SX : Type} {post : Int32 → S → Prop} {px : SX → Prop} {B : S → State → Prop} {BX : String → SX → State → Prop} {AX : Nat → Prop} (hr : vx_Run p l e R s m args below meth c H locs cells slots mc ms (F0 m pc ls st0) rest (va_Qi post B A1 a) (vx_X px BX AX) free) (hS : va_S A0 H0 H locs) (hA : ∀ q, q < H.size → A1 q → A0 q) (hf : ∀ q, free q → A0 q) (hAX : ∀ q, q < H.size → AX q → A0 q)
    (kx : ∀ (E : String) (ce : Cell) (q9 : Addr) (u : SX) (t : State) (H1 : Heap) (locs1 : List Loc), t.heap = H1 → s.vm.Alike t.vm → px u → BX E u t → H.size ≤ H1.size → (∀ q : Nat, q < H.size → ¬ AX q → H1[q]? = H[q]?) → va_S A0 H0 H1 locs1 → H1[q9]? = some ce → ce.vm = .none → s.vm.findClass E = some ce.cls → vx_W p l e R s m args below meth c H1 locs1 (cells + mc) (slots + ms) Q (F0 m pc ls rest) q9)
    (kk : ∀ (r : Int32) (u : S) (t : State) (H1 : Heap) (locs1 : List Loc), t.heap = H1 → s.vm.Alike t.vm → post r u → B u t → H.size ≤ H1.size → (∀ q : Nat, q < H.size → ¬ A1 q → H1[q]? = H[q]?) → va_S A0 H0 H1 locs1 → W p l e R s m args below meth c H1 locs1 (cells + mc) (slots + ms) Q (F0 m (pc + 3) ls (.int r :: rest))) : W p l e R s m args below meth c H locs cells slots Q (F0 m pc ls st0) := by
  intro T hT X
  rcases hr T hT X with ⟨v, st₀, t, T', L, h0, X', hL, e1, e2, ⟨⟨r, u, hv, hp, hb⟩, hF⟩, st⟩ | ⟨q, st₀, t, T', L, E, ce, h0, X', hL, e1, e2, ⟨u, hp, hb, hF⟩, hce, hcv, hcl, st⟩
  · cases hv
    obtain ⟨k1, k2, k3⟩ := vx_keep h0 e1 hS hA hf hL hF
    obtain ⟨t2, a1, b1⟩ := kk r u t T'.heap (locs ++ L) e1.symm (by rw [← e2]; exact X'.warmed.alike) hp hb k1 k2 k3 T' rfl X'
    exact ⟨t2, st t2 a1, b1⟩
  · obtain ⟨k1, k2, k3⟩ := vx_keep h0 e1 hS hAX hf hL hF
    obtain ⟨t2, a1, b1⟩ := kx E ce q u t T'.heap (locs ++ L) e1.symm (by rw [← e2]; exact X'.warmed.alike) hp hb k1 k2 k3 (by rw [e1]; exact hce) hcv hcl T' rfl X'
    exact ⟨t2, st.trans a1, b1⟩
theorem vx_calll {S SX : Type} {post : Int64 → S → Prop} {px : SX → Prop} {B : S → State → Prop} {BX : String → SX → State → Prop} {AX : Nat → Prop} (hr : vx_Run p l e R s m args below meth c H locs cells slots mc ms (F0 m pc ls st0) rest (va_Ql post B A1 a) (vx_X px BX AX) free) (hS : va_S A0 H0 H locs) (hA : ∀ q, q < H.size → A1 q → A0 q) (hf : ∀ q, free q → A0 q) (hAX : ∀ q, q < H.size → AX q → A0 q)
    (kx : ∀ (E : String) (ce : Cell) (q9 : Addr) (u : SX) (t : State) (H1 : Heap) (locs1 : List Loc), t.heap = H1 → s.vm.Alike t.vm → px u → BX E u t → H.size ≤ H1.size → (∀ q : Nat, q < H.size → ¬ AX q → H1[q]? = H[q]?) → va_S A0 H0 H1 locs1 → H1[q9]? = some ce → ce.vm = .none → s.vm.findClass E = some ce.cls → vx_W p l e R s m args below meth c H1 locs1 (cells + mc) (slots + ms) Q (F0 m pc ls rest) q9)
    (kk : ∀ (r : Int64) (u : S) (t : State) (H1 : Heap) (locs1 : List Loc), t.heap = H1 → s.vm.Alike t.vm → post r u → B u t → H.size ≤ H1.size → (∀ q : Nat, q < H.size → ¬ A1 q → H1[q]? = H[q]?) → va_S A0 H0 H1 locs1 → W p l e R s m args below meth c H1 locs1 (cells + mc) (slots + ms) Q (F0 m (pc + 3) ls (.long r :: rest))) : W p l e R s m args below meth c H locs cells slots Q (F0 m pc ls st0) := by
  intro T hT X
  rcases hr T hT X with ⟨v, st₀, t, T', L, h0, X', hL, e1, e2, ⟨⟨r, u, hv, hp, hb⟩, hF⟩, st⟩ | ⟨q, st₀, t, T', L, E, ce, h0, X', hL, e1, e2, ⟨u, hp, hb, hF⟩, hce, hcv, hcl, st⟩
  · cases hv
    obtain ⟨k1, k2, k3⟩ := vx_keep h0 e1 hS hA hf hL hF
    obtain ⟨t2, a1, b1⟩ := kk r u t T'.heap (locs ++ L) e1.symm (by rw [← e2]; exact X'.warmed.alike) hp hb k1 k2 k3 T' rfl X'
    exact ⟨t2, st t2 a1, b1⟩
  · obtain ⟨k1, k2, k3⟩ := vx_keep h0 e1 hS hAX hf hL hF
    obtain ⟨t2, a1, b1⟩ := kx E ce q u t T'.heap (locs ++ L) e1.symm (by rw [← e2]; exact X'.warmed.alike) hp hb k1 k2 k3 (by rw [e1]; exact hce) hcv hcl T' rfl X'
    exact ⟨t2, st.trans a1, b1⟩
theorem vx_callf {S SX : Type} {post : UInt32 → S → Prop} {px : SX → Prop} {B : S → State → Prop} {BX : String → SX → State → Prop} {AX : Nat → Prop} (hr : vx_Run p l e R s m args below meth c H locs cells slots mc ms (F0 m pc ls st0) rest (va_Qf post B A1 a) (vx_X px BX AX) free) (hS : va_S A0 H0 H locs) (hA : ∀ q, q < H.size → A1 q → A0 q) (hf : ∀ q, free q → A0 q) (hAX : ∀ q, q < H.size → AX q → A0 q)
    (kx : ∀ (E : String) (ce : Cell) (q9 : Addr) (u : SX) (t : State) (H1 : Heap) (locs1 : List Loc), t.heap = H1 → s.vm.Alike t.vm → px u → BX E u t → H.size ≤ H1.size → (∀ q : Nat, q < H.size → ¬ AX q → H1[q]? = H[q]?) → va_S A0 H0 H1 locs1 → H1[q9]? = some ce → ce.vm = .none → s.vm.findClass E = some ce.cls → vx_W p l e R s m args below meth c H1 locs1 (cells + mc) (slots + ms) Q (F0 m pc ls rest) q9)
    (kk : ∀ (r : UInt32) (u : S) (t : State) (H1 : Heap) (locs1 : List Loc), t.heap = H1 → s.vm.Alike t.vm → post r u → B u t → H.size ≤ H1.size → (∀ q : Nat, q < H.size → ¬ A1 q → H1[q]? = H[q]?) → va_S A0 H0 H1 locs1 → W p l e R s m args below meth c H1 locs1 (cells + mc) (slots + ms) Q (F0 m (pc + 3) ls (.float r :: rest))) : W p l e R s m args below meth c H locs cells slots Q (F0 m pc ls st0) := by
  intro T hT X
  rcases hr T hT X with ⟨v, st₀, t, T', L, h0, X', hL, e1, e2, ⟨⟨r, u, hv, hp, hb⟩, hF⟩, st⟩ | ⟨q, st₀, t, T', L, E, ce, h0, X', hL, e1, e2, ⟨u, hp, hb, hF⟩, hce, hcv, hcl, st⟩
  · cases hv
    obtain ⟨k1, k2, k3⟩ := vx_keep h0 e1 hS hA hf hL hF
    obtain ⟨t2, a1, b1⟩ := kk r u t T'.heap (locs ++ L) e1.symm (by rw [← e2]; exact X'.warmed.alike) hp hb k1 k2 k3 T' rfl X'
    exact ⟨t2, st t2 a1, b1⟩
  · obtain ⟨k1, k2, k3⟩ := vx_keep h0 e1 hS hAX hf hL hF
    obtain ⟨t2, a1, b1⟩ := kx E ce q u t T'.heap (locs ++ L) e1.symm (by rw [← e2]; exact X'.warmed.alike) hp hb k1 k2 k3 (by rw [e1]; exact hce) hcv hcl T' rfl X'
    exact ⟨t2, st.trans a1, b1⟩
theorem vx_calld {S SX : Type} {post : UInt64 → S → Prop} {px : SX → Prop} {B : S → State → Prop} {BX : String → SX → State → Prop} {AX : Nat → Prop} (hr : vx_Run p l e R s m args below meth c H locs cells slots mc ms (F0 m pc ls st0) rest (va_Qd post B A1 a) (vx_X px BX AX) free) (hS : va_S A0 H0 H locs) (hA : ∀ q, q < H.size → A1 q → A0 q) (hf : ∀ q, free q → A0 q) (hAX : ∀ q, q < H.size → AX q → A0 q)
    (kx : ∀ (E : String) (ce : Cell) (q9 : Addr) (u : SX) (t : State) (H1 : Heap) (locs1 : List Loc), t.heap = H1 → s.vm.Alike t.vm → px u → BX E u t → H.size ≤ H1.size → (∀ q : Nat, q < H.size → ¬ AX q → H1[q]? = H[q]?) → va_S A0 H0 H1 locs1 → H1[q9]? = some ce → ce.vm = .none → s.vm.findClass E = some ce.cls → vx_W p l e R s m args below meth c H1 locs1 (cells + mc) (slots + ms) Q (F0 m pc ls rest) q9)
    (kk : ∀ (r : UInt64) (u : S) (t : State) (H1 : Heap) (locs1 : List Loc), t.heap = H1 → s.vm.Alike t.vm → post r u → B u t → H.size ≤ H1.size → (∀ q : Nat, q < H.size → ¬ A1 q → H1[q]? = H[q]?) → va_S A0 H0 H1 locs1 → W p l e R s m args below meth c H1 locs1 (cells + mc) (slots + ms) Q (F0 m (pc + 3) ls (.double r :: rest))) : W p l e R s m args below meth c H locs cells slots Q (F0 m pc ls st0) := by
  intro T hT X
  rcases hr T hT X with ⟨v, st₀, t, T', L, h0, X', hL, e1, e2, ⟨⟨r, u, hv, hp, hb⟩, hF⟩, st⟩ | ⟨q, st₀, t, T', L, E, ce, h0, X', hL, e1, e2, ⟨u, hp, hb, hF⟩, hce, hcv, hcl, st⟩
  · cases hv
    obtain ⟨k1, k2, k3⟩ := vx_keep h0 e1 hS hA hf hL hF
    obtain ⟨t2, a1, b1⟩ := kk r u t T'.heap (locs ++ L) e1.symm (by rw [← e2]; exact X'.warmed.alike) hp hb k1 k2 k3 T' rfl X'
    exact ⟨t2, st t2 a1, b1⟩
  · obtain ⟨k1, k2, k3⟩ := vx_keep h0 e1 hS hAX hf hL hF
    obtain ⟨t2, a1, b1⟩ := kx E ce q u t T'.heap (locs ++ L) e1.symm (by rw [← e2]; exact X'.warmed.alike) hp hb k1 k2 k3 (by rw [e1]; exact hce) hcv hcl T' rfl X'
    exact ⟨t2, st.trans a1, b1⟩
theorem vx_callv {S SX : Type} {post : S → Prop} {px : SX → Prop} {B : S → State → Prop} {BX : String → SX → State → Prop} {AX : Nat → Prop} (hr : vx_Run p l e R s m args below meth c H locs cells slots mc ms (F0 m pc ls st0) rest (va_Qv post B A1 a) (vx_X px BX AX) free) (hS : va_S A0 H0 H locs) (hA : ∀ q, q < H.size → A1 q → A0 q) (hf : ∀ q, free q → A0 q) (hAX : ∀ q, q < H.size → AX q → A0 q)
    (kx : ∀ (E : String) (ce : Cell) (q9 : Addr) (u : SX) (t : State) (H1 : Heap) (locs1 : List Loc), t.heap = H1 → s.vm.Alike t.vm → px u → BX E u t → H.size ≤ H1.size → (∀ q : Nat, q < H.size → ¬ AX q → H1[q]? = H[q]?) → va_S A0 H0 H1 locs1 → H1[q9]? = some ce → ce.vm = .none → s.vm.findClass E = some ce.cls → vx_W p l e R s m args below meth c H1 locs1 (cells + mc) (slots + ms) Q (F0 m pc ls rest) q9)
    (kk : ∀ (u : S) (t : State) (H1 : Heap) (locs1 : List Loc), t.heap = H1 → s.vm.Alike t.vm → post u → B u t → H.size ≤ H1.size → (∀ q : Nat, q < H.size → ¬ A1 q → H1[q]? = H[q]?) → va_S A0 H0 H1 locs1 → W p l e R s m args below meth c H1 locs1 (cells + mc) (slots + ms) Q (F0 m (pc + 3) ls (rest))) : W p l e R s m args below meth c H locs cells slots Q (F0 m pc ls st0) := by
  intro T hT X
  rcases hr T hT X with ⟨v, st₀, t, T', L, h0, X', hL, e1, e2, ⟨⟨u, hv, hp, hb⟩, hF⟩, st⟩ | ⟨q, st₀, t, T', L, E, ce, h0, X', hL, e1, e2, ⟨u, hp, hb, hF⟩, hce, hcv, hcl, st⟩
  · cases hv
    obtain ⟨k1, k2, k3⟩ := vx_keep h0 e1 hS hA hf hL hF
    obtain ⟨t2, a1, b1⟩ := kk u t T'.heap (locs ++ L) e1.symm (by rw [← e2]; exact X'.warmed.alike) hp hb k1 k2 k3 T' rfl X'
    exact ⟨t2, st t2 a1, b1⟩
  · obtain ⟨k1, k2, k3⟩ := vx_keep h0 e1 hS hAX hf hL hF
    obtain ⟨t2, a1, b1⟩ := kx E ce q u t T'.heap (locs ++ L) e1.symm (by rw [← e2]; exact X'.warmed.alike) hp hb k1 k2 k3 (by rw [e1]; exact hce) hcv hcl T' rfl X'
    exact ⟨t2, st.trans a1, b1⟩
/-- caught by the row x of this method's table; the rows ahead don't take it -/
theorem vx_catch {own name : String} {E : String} {ce : Cell} {q : Addr} (hown : s.vm.findClass own = some m.cls) (pre : List ExceptionTableEntry) (x : ExceptionTableEntry) (suf : List ExceptionTableEntry) (hsplit : c.exceptionTable.toList = pre ++ x :: suf)
    (hpass : ∀ z ∈ pre, covers z pc = false ∨ (z.catchType ≠ 0 ∧ ∃ nm : String, (Cond.classLink own z.catchType nm).before args s = true ∧ va_Nc E nm s)) (hx : covers x pc = true) (h0 : x.catchType ≠ 0)
    (hlink : (Cond.classLink own x.catchType name).before args s = true) (hcast : (Cond.castable E name).before args s = true) (hcell : H[q]? = some ce) (hv : ce.vm = .none) (hcl : s.vm.findClass E = some ce.cls)
    (kk : W p l e R s m args below meth c H locs cells slots Q (F0 m x.handlerPc ls [.ref q])) : vx_W p l e R s m args below meth c H locs cells slots Q (F0 m pc ls rest) q := by
  intro T hT X
  have hpl : e.platform.magicAccessors = ({} : Platform).magicAccessors := by rw [X.admits.platform]
  obtain ⟨c3, c4, hc3, hc4, hasg⟩ := Cond.castable_spec hcast
  cases Option.some.inj (hc3.symm.trans hcl)
  obtain ⟨c5, hc5, hcl5⟩ := Cond.classLink_spec hown hlink e.platform hpl
  cases Option.some.inj (hc4.symm.trans hc5)
  obtain ⟨vm', X', st⟩ := Jvm.Stand.thenCaughtThrough X q (g := F0 m pc ls rest) rfl (Steps.refl _) (by rw [hT]; exact hcell) (by rw [hv]; rfl) (by obtain ⟨k9, h9, -⟩ := Vm.findClass_spec hcl; exact ⟨k9, h9⟩) pre x suf hsplit
    (fun z hz => by
      rcases hpass z hz with h | ⟨hz0, nm, hl1, hn1⟩
      · exact Or.inl h
      · obtain ⟨c6, hc6, hcl6⟩ := Cond.classLink_spec hown hl1 e.platform hpl
        obtain ⟨a8, b8, h1, h2, h3⟩ := hn1
        cases Option.some.inj (h1.symm.trans hcl)
        cases Option.some.inj (h2.symm.trans hc6)
        exact Or.inr ⟨hz0, _, hcl6, h3⟩) hx (Or.inr ⟨h0, c4, hcl5, hasg⟩)
  obtain ⟨t, a1, b1⟩ := kk (T.setVm vm') hT X'
  exact ⟨t, st.trans a1, b1⟩
end Rows
section Ends
variable {p : Program} {l : Launch} {e : Env} {R : Room} {s : State} {m : MethodId} {args : Array Value} {below : List Frame} {meth : Method} {c : Code} {H : Heap} {locs : List Loc} {cells slots : Nat} {Q : State → Prop}
variable {mc ms : Nat} {free : Addr → Prop} {A0 A1 : Nat → Prop} {H0 : Heap} {a : Array Value} {ls : Array Slot} {st0 rest : List Value}
variable {Qc : Array Value → State → Outcome → State → Prop} {XC : String → State → State → Prop}
/-- what a body that may throw owes at its end -/
def vx_MQ (below : List Frame) (Qc : Array Value → State → Outcome → State → Prop) (XC : String → State → State → Prop) (a : Array Value) (s : State) (mc ms : Nat) (free : Addr → Prop) : State → Prop := fun t =>
  ∃ o, t.status = .running ∧ Ended t below o ∧ vx_Q Qc XC mc ms free a s o t
theorem vx_ret {g : JFrame} {mc ms : Nat} (k : W p l e R s m args below meth c H locs cells slots (MQ below Qc args s mc ms free) g) : W p l e R s m args below meth c H locs cells slots (vx_MQ below Qc XC args s mc ms free) g := by
  intro T hT X
  obtain ⟨t, a1, o, b1, b2, b3, b4⟩ := k T hT X
  exact ⟨t, a1, o, b1, b2, Or.inl ⟨b3, b4⟩⟩
/-- not caught here: it goes on to the caller -/
theorem vx_widen {g : JFrame} {q : Addr} {k n : Nat} (h1 : cells ≤ k) (h2 : slots ≤ n) (kk : vx_W p l e R s m args below meth c H locs k n Q g q) : vx_W p l e R s m args below meth c H locs cells slots Q g q := fun T hT X => kk T hT (stand_widen X h1 h2)
theorem vx_out {pc : Nat} {E : String} {ce : Cell} {q : Addr} {mc ms : Nat} (hout : ∀ x ∈ c.exceptionTable.toList, covers x pc = false) (hlocks : meth.locks = false) (hcell : H[q]? = some ce) (hv : ce.vm = .none) (hcl : s.vm.findClass E = some ce.cls)
    (hx : ∀ t : State, t.heap = H → s.vm.Alike t.vm → XC E s t) (hf : ∀ z ∈ locs, free z.base) (hc : cells ≤ mc) (hs : slots ≤ ms) :
    vx_W p l e R s m args below meth c H locs cells slots (vx_MQ below Qc XC args s mc ms free) (F0 m pc ls rest) q := by
  intro T hT X
  obtain ⟨st1, hrun, hend, hW, hsm⟩ := X.leaveThrown q (g := F0 m pc ls rest) rfl rfl rfl hout hlocks
  have hcell9 : (T.setFrames (.throwing q :: below)).heap[q]? = some ce := by
    show T.heap[q]? = some ce
    rw [hT]; exact hcell
  exact ⟨_, st1, .threw q, hrun, hend, Or.inr ⟨q, rfl, E, ce, locs, hx _ hT hW.alike, hcell9, hv, hcl, hW, hsm.mono hc hs, hf⟩⟩
theorem vx_frame {U : State} {k n : Nat} (h : s.sameButNew ({ U with vm := s.vm } : State) locs k n) : s.heap.size ≤ U.heap.size ∧ ∀ q : Nat, q < s.heap.size → (∀ z ∈ locs, z.base ≠ q) → U.heap[q]? = s.heap[q]? := by
  obtain ⟨-, h2, -, -, -, h6⟩ := h
  refine ⟨h2, fun q hq hz => ?_⟩
  obtain ⟨c9, e1, e2, e3, e4⟩ := h6 q _ (Array.getElem?_eq_getElem hq)
  have hs : c9.slots = (s.heap[q]).slots := Array.ext_getElem? fun i => e4 i fun hm => hz _ hm rfl
  have h9 : c9 = s.heap[q] := by
    rw [hs] at e2
    exact e2
  have e5 : U.heap[q]? = some c9 := e1
  rw [e5, h9, Array.getElem?_eq_getElem hq]
/-- the words of a throw but the four that speak of the heap -/
def vx_no (w : Cond) : Bool := decide (w ≠ .isRef (.static Bundle.tN "UNASSIGNED_STACK" Bundle.steD)) && decide (w ≠ .isRef (.static Bundle.tN "SUPPRESSED_SENTINEL" Bundle.listD)) && decide (w ≠ .laysStatic Bundle.tN "UNASSIGNED_STACK" Bundle.steD) && decide (w ≠ .laysStatic Bundle.tN "SUPPRESSED_SENTINEL" Bundle.listD)
def vx_at0 (own : String) (ic : Nat) (X : String) (names : List String) : List Cond := (Bundle.ownAtoms0 own ic X names).filter vx_no
def vx_atS (own : String) (ic : Nat) (X : String) (names : List String) : List Cond := (Bundle.ownAtoms own ic X names).filter vx_no
/-- a word that the tables alone decide, or a good one -/
def vx_ot (w : Cond) : Bool := w.onTables || goodWord w
theorem vx_ot_at {args a' : Array Value} {s U : State} {w : Cond} (hW : s.WarmedH U.vm) (hvm : s.vm = U.vm) (hg : vx_ot w = true) (h : w.before args s = true) : w.before a' U = true := by
  simp only [vx_ot, Bool.or_eq_true] at hg
  rcases hg with hg | hg
  · exact va_tabs hg hvm h
  · exact word_at hW (good_of_word hg) h
/-- a list's words: the good ones out of the method's own list, the others by premises of their own -/
theorem vx_hat {args : Array Value} {s : State} {L B : List Cond} (h1 : ∀ w ∈ L.filter goodWord, w.before args s = true) (h2 : ∀ w ∈ L.filter (fun w => !goodWord w), w ∈ B) (h3 : ∀ w ∈ B, w.before args s = true) : ∀ w ∈ L, w.before args s = true := by
  intro w hw
  by_cases g : goodWord w = true
  · exact h1 w (List.mem_filter.mpr ⟨hw, g⟩)
  · refine h3 w (h2 w (List.mem_filter.mpr ⟨hw, ?_⟩))
    show (!goodWord w) = true
    cases hgw : goodWord w
    · rfl
    · exact absurd hgw g
theorem vx_c {args : Array Value} {s : State} {w : Cond} {B : List Cond} (h : w.before args s = true) (t : ∀ w ∈ B, w.before args s = true) : ∀ w' ∈ w :: B, w'.before args s = true := fun w' h' => (List.mem_cons.mp h').elim (fun e => by rw [e]; exact h) (t w')
theorem vx_n {args : Array Value} {s : State} : ∀ w ∈ ([] : List Cond), w.before args s = true := fun _ h => nomatch h
theorem vx_own {args : Array Value} {s : State} {L : List Cond} (h1 : ∀ w ∈ L.filter vx_no, w.before args s = true)
    (hU : (Cond.isRef (.static Bundle.tN "UNASSIGNED_STACK" Bundle.steD)).before args s = true) (hN : (Cond.isRef (.static Bundle.tN "SUPPRESSED_SENTINEL" Bundle.listD)).before args s = true)
    (lU : (Cond.laysStatic Bundle.tN "UNASSIGNED_STACK" Bundle.steD).before args s = true) (lN : (Cond.laysStatic Bundle.tN "SUPPRESSED_SENTINEL" Bundle.listD).before args s = true) : ∀ w ∈ L, w.before args s = true := by
  intro w hw
  by_cases e1 : w = .isRef (.static Bundle.tN "UNASSIGNED_STACK" Bundle.steD)
  · rw [e1]; exact hU
  · by_cases e2 : w = .isRef (.static Bundle.tN "SUPPRESSED_SENTINEL" Bundle.listD)
    · rw [e2]; exact hN
    · by_cases e3 : w = .laysStatic Bundle.tN "UNASSIGNED_STACK" Bundle.steD
      · rw [e3]; exact lU
      · by_cases e4 : w = .laysStatic Bundle.tN "SUPPRESSED_SENTINEL" Bundle.listD
        · rw [e4]; exact lN
        · exact h1 w (List.mem_filter.mpr ⟨hw, by unfold vx_no; rw [decide_eq_true e1, decide_eq_true e2, decide_eq_true e3, decide_eq_true e4]; rfl⟩)
/-- where a static field lies, its class's statics cell in H -/
def vx_L (C n d : String) (A : Nat → Prop) (U : State) (H : Heap) : Prop := ∃ (c : ClassId) (k : Class) (i : Nat) (f : Field) (a : Nat) (cell : Cell), U.vm.findClass C = some c ∧ U.fieldFound? C n d = some (c, k, i, f) ∧ f.isStatic = true ∧ k.statics = some a ∧ H[a]? = some cell ∧ cell.vm.isStatics = true ∧ cell.cls = c ∧ f.slot < cell.slots.size ∧ k.staticTypes[f.slot]? = some f.type ∧ ¬ A a
theorem vx_L.moved {C n d : String} {A : Nat → Prop} {u U : State} {H : Heap} (hvm : u.vm.Alike U.vm) (h : vx_L C n d A u H) : vx_L C n d A U H := by
  obtain ⟨c, k, i, f, a, cell, h1, h2, h3, h4, h5, h6, h7, h8, h9, h10⟩ := h
  obtain ⟨k', hi', he⟩ := State.fieldFound?_setVm hvm h2
  exact ⟨c, k', i, f, a, cell, by rw [hvm.findClass]; exact h1, hi', h3, by rw [he]; exact h4, h5, h6, h7, h8, by rw [he]; exact h9, h10⟩
theorem vx_L.kept {C n d : String} {A : Nat → Prop} {U : State} {H H1 : Heap} (h : vx_L C n d A U H) (hq : ∀ a : Nat, a < H.size → ¬ A a → H1[a]? = H[a]?) : vx_L C n d A U H1 := by
  obtain ⟨c, k, i, f, a, cell, h1, h2, h3, h4, h5, h6, h7, h8, h9, h10⟩ := h
  exact ⟨c, k, i, f, a, cell, h1, h2, h3, h4, by rw [hq a (Array.getElem?_eq_some_iff.mp h5).1 h10]; exact h5, h6, h7, h8, h9, h10⟩
theorem vx_L.narrow {C n d : String} {A B : Nat → Prop} {U : State} {H : Heap} (h : vx_L C n d A U H) (hAB : ∀ q, B q → A q) : vx_L C n d B U H := by
  obtain ⟨c, k, i, f, a, cell, h1, h2, h3, h4, h5, h6, h7, h8, h9, h10⟩ := h
  exact ⟨c, k, i, f, a, cell, h1, h2, h3, h4, h5, h6, h7, h8, h9, fun z => h10 (hAB _ z)⟩
theorem vx_L.word {C n d : String} {A : Nat → Prop} {s : State} {args : Array Value} (h : vx_L C n d A s s.heap) : (Cond.laysStatic C n d).before args s = true := by
  obtain ⟨c, k, i, f, a, cell, h1, h2, h3, h4, h5, h6, h7, h8, h9, -⟩ := h
  show (Cond.laysStatic C n d).holds args s none s [] = true
  exact Cond.laysStatic_of h1 h2 h3 h4 h5 h6 h7 h8 h9
/-- .. and what it holds: null or some reference -/
def vx_Zq (C n d : String) (A : Nat → Prop) (U : State) (H : Heap) : Prop := va_Zq C n d A U H ∧ vx_L C n d A U H
theorem vx_Zq.moved {C n d : String} {A : Nat → Prop} {u U : State} {H : Heap} (hvm : u.vm.Alike U.vm) (h : vx_Zq C n d A u H) : vx_Zq C n d A U H := ⟨va_Zq.moved hvm h.1, vx_L.moved hvm h.2⟩
theorem vx_Zq.kept {C n d : String} {A : Nat → Prop} {U : State} {H H1 : Heap} (h : vx_Zq C n d A U H) (hq : ∀ a : Nat, a < H.size → ¬ A a → H1[a]? = H[a]?) : vx_Zq C n d A U H1 := ⟨va_Zq.kept h.1 hq, vx_L.kept h.2 hq⟩
theorem vx_Zq.narrow {C n d : String} {A B : Nat → Prop} {U : State} {H : Heap} (h : vx_Zq C n d A U H) (hAB : ∀ q, B q → A q) : vx_Zq C n d B U H := ⟨va_Zq.narrow h.1 hAB, vx_L.narrow h.2 hAB⟩
theorem vx_Zqof {args : Array Value} {s : State} {C n d : String} {A : Nat → Prop} (hl : (Cond.laysStatic C n d).before args s = true) (hini : (Cond.initialized C).before args s = true) (h : (Cond.isRef (.static C n d)).before args s = true) (hA : ∀ a : Nat, a < s.heap.size → ¬ A a) : vx_Zq C n d A s s.heap := by
  refine ⟨va_Zqof hl hini h hA, ?_⟩
  obtain ⟨c, k, i, f, a, cell, h1, h2, h3, h4, h5, h6, h7, h8, h9⟩ := Cond.laysStatic_spec hl
  exact ⟨c, k, i, f, a, cell, h1, h2, h3, h4, h5, h6, h7, h8, h9, hA a (Array.getElem?_eq_some_iff.mp h5).1⟩
theorem vx_isRef {C n d : String} {v : Value} {A : Nat → Prop} {s : State} {args : Array Value} (h : va_Z C n d v A s s.heap) (hv : v.isRef = true) : (Cond.isRef (.static C n d)).before args s = true := by
  obtain ⟨cf, kf, fi, f, a, cell, h1, h2, h3, h4, h5, h6, h7, -⟩ := h
  have he : (Term.static C n d).eval args s none [] s = some v := by
    simp [Term.eval, State.fieldNamed?, h1, h2, h4, h5, h6, h7]
  simp only [Cond.before, Cond.holds, Cond.value, he]
  cases v <;> simp_all [Value.isRef]
theorem vx_isRefq {C n d : String} {A : Nat → Prop} {s : State} {args : Array Value} (h : va_Zq C n d A s s.heap) : (Cond.isRef (.static C n d)).before args s = true := by
  rcases h with h | ⟨t, h⟩
  · exact vx_isRef h rfl
  · exact vx_isRef h rfl
/-- the same frame, seen from here: as if the method were called anew in this heap -/
theorem vx_rebase {T : State} (X : Stand p l e R s m args below meth c T locs cells slots) {R' : Room} (hf : R'.frames ≤ R.frames) (hl : R'.locals ≤ R.locals) (hc : cells + R'.cells ≤ R.cells) (hs : slots + R'.slots ≤ R.slots) :
    Stand p l e R' ((T.setVm s.vm).setFrames (.invoking m args :: below)) m args below meth c T [] 0 0 := by
  have htop : (T.setVm s.vm).topJava?.isSome := X.here.top
  have hF : ((T.setVm s.vm).setFrames (.invoking m args :: below)).frames = .invoking m args :: below := State.frames_setFrames _ (State.cur_lt_of_top htop)
  obtain ⟨g₀, hg0⟩ := Option.isSome_iff_exists.mp htop
  obtain ⟨r, hr⟩ := State.topJava?_eq_some.mp hg0
  have hl9 : e.platform.stackLimits (T.setVm s.vm).me = e.platform.stackLimits s.me := X.limits
  have hb9 : (T.setVm s.vm).me.stackBytes = s.me.stackBytes := X.bytes
  refine ⟨X.admits, X.cas, X.clock, hF, ?_, X.hears, X.method, X.code, X.here, X.tail, X.warmed, ?_, ?_, ?_⟩
  · have h := X.room
    have hU : ((T.setVm s.vm).setFrames (.invoking m args :: below)).localsInUse = s.localsInUse := by
      rw [State.localsInUse_invoking hF (meth := meth) (c := c) X.method X.code, State.localsInUse_invoking X.frames X.method X.code]
    simp only [State.hasRoom, Bool.and_eq_true, decide_eq_true_eq] at h ⊢
    obtain ⟨⟨⟨⟨h1, h2, h3, h4, h5, h6⟩, h7⟩, h8⟩, h9⟩ := h
    rw [X.frames, List.length_cons] at h2 h3
    have q1 := X.heapSize
    have q2 := X.used
    simp only [hF, hU, List.length_cons, State.stackLimits_setFrames, State.stackBytes_setFrames, hl9, hb9]
    refine ⟨⟨⟨⟨by omega, by omega, by omega, by omega, by omega, h6⟩, ?_⟩, ?_⟩, X.book⟩
    · show T.heap.size + R'.cells ≤ e.platform.maxCells
      omega
    · show T.slotsUsed + R'.slots ≤ e.platform.maxSlots
      omega
  · rw [State.stackLimits_setFrames]; rfl
  · rw [State.stackBytes_setFrames]; rfl
  · refine ⟨?_, Nat.le_refl _, Nat.le_refl _, ?_, ?_, fun a c9 h9 => ⟨c9, h9, rfl, rfl, fun _ _ => rfl⟩⟩
    · obtain ⟨t, ht, -⟩ := State.frames_cons hr
      show T.setVm s.vm = { ((T.setVm s.vm).setFrames (.invoking m args :: below)).setFrames (T.setVm s.vm).frames with heap := T.heap, slotsUsed := T.slotsUsed }
      rw [State.setFrames_setFrames, State.setFrames_self ht]
      rfl
    · show T.slotsUsed = T.slotsUsed + ((T.heap.toList.drop T.heap.size).map (·.slots.size)).sum
      rw [List.drop_eq_nil_of_le (Nat.le_of_eq Array.length_toList)]
      rfl
    · show ((T.heap.toList.drop T.heap.size).map (·.slots.size)).sum ≤ 0
      rw [List.drop_eq_nil_of_le (Nat.le_of_eq Array.length_toList)]
      exact Nat.le_refl _
/-- 'throw new E()': new; dup; invokespecial; athrow -/
theorem vx_throw0 {cc : ByteArray} {pc : Nat} (hexec : p.tables.exec = Jvm.exec) (hb : c.code = cc) (hl : l.stackTraces = false) {own cls : String} {names : List String} {ik ic mc ms : Nat} {A : Nat → Prop}
    (hown : s.vm.findClass own = some m.cls) (hcls : Bundle.fit cls = true) (hnames : ∀ n ∈ names, Bundle.fit n = true)
    (hk : (Cond.classLink own ik cls).before args s = true) (hini : (Cond.initialized cls).before args s = true) (hat : ∀ w ∈ vx_at0 own ic cls names, w.before args s = true)
    (hgood : ∀ w ∈ Cond.classLink own ik cls :: Cond.initialized cls :: vx_at0 own ic cls names, vx_ot w = true)
    (hU : vx_Zq Bundle.tN "UNASSIGNED_STACK" Bundle.steD A s s.heap) (hN : vx_Zq Bundle.tN "SUPPRESSED_SENTINEL" Bundle.listD A s s.heap) (hS : va_S A s.heap H locs) (hsize : ls.size = c.maxLocals)
    (d0 : decode cc pc = .ok (.new ik, 3)) (d3 : decode cc (pc + 3) = .ok (.dup, 1)) (d4 : decode cc (pc + 4) = .ok (.invokespecial ic, 3)) (d7 : decode cc (pc + 7) = .ok (.athrow, 1))
    (hout : ∀ x ∈ c.exceptionTable.toList, covers x (pc + 7) = false)
    (hRframes : names.length + 3 < R.frames) (hRlocals : (rest.map fun v => v.category).sum + (13 * (names.length + 1) + 42) ≤ R.locals) (hRcells : cells + 1 ≤ R.cells) (hRslots : slots + 6 ≤ R.slots) (hlocks : meth.locks = false)
    (hx : ∀ t : State, s.vm.Alike t.vm → H.size ≤ t.heap.size → (∀ q : Nat, q < H.size → t.heap[q]? = H[q]?) → XC cls s t)
    (hf : ∀ z ∈ locs, free z.base) (hc : cells + 1 ≤ mc) (hs : slots + 6 ≤ ms) :
    W p l e R s m args below meth c H locs cells slots (vx_MQ below Qc XC args s mc ms free) (F0 m pc ls rest) := by
  intro T hT X
  have htr : e.platform.stackTraces = false := (show e.platform.stackTraces = l.stackTraces by rw [X.admits.platform]).trans hl
  have Y := vx_rebase X (R' := { frames := R.frames, locals := R.locals, cells := 1, slots := 6 }) (Nat.le_refl _) (Nat.le_refl _) hRcells hRslots
  obtain ⟨s', hA⟩ : ∃ z, z = (T.setVm s.vm).setFrames (.invoking m args :: below) := ⟨_, rfl⟩
  rw [← hA] at Y
  have hvm : s'.vm = s.vm := by rw [hA]; rfl
  have hhp : s'.heap = H := by rw [hA]; exact hT
  have hW0 : s.WarmedH s'.vm := by rw [hvm]; exact State.WarmedH.refl s
  have hat' : ∀ w ∈ vx_at0 own ic cls names, w.before args s' = true := fun w hw => vx_ot_at hW0 hvm.symm (hgood w (List.mem_cons_of_mem _ (List.mem_cons_of_mem _ hw))) (hat w hw)
  have hk' : (Cond.classLink own ik cls).before args s' = true := vx_ot_at hW0 hvm.symm (hgood _ List.mem_cons_self) hk
  have hini' : (Cond.initialized cls).before args s' = true := vx_ot_at hW0 hvm.symm (hgood _ (List.mem_cons_of_mem _ List.mem_cons_self)) hini
  have hU' : vx_Zq Bundle.tN "UNASSIGNED_STACK" Bundle.steD A s' s'.heap := by rw [hhp]; exact vx_Zq.moved hW0.alike (hU.kept hS.2.1)
  have hN' : vx_Zq Bundle.tN "SUPPRESSED_SENTINEL" Bundle.listD A s' s'.heap := by rw [hhp]; exact vx_Zq.moved hW0.alike (hN.kept hS.2.1)
  have h : ∀ w ∈ Bundle.ownAtoms0 own ic cls names, w.before args s' = true := vx_own hat' (vx_isRefq hU'.1) (vx_isRefq hN'.1) hU'.2.word hN'.2.word
  have hown' : s'.vm.findClass own = some m.cls := by rw [hvm]; exact hown
  have hins : (Cond.instantiable cls 6).before args s' = true := h _ (by simp [Bundle.ownAtoms0])
  obtain ⟨vm₁, cX, kX, hfX, hkX, -, -, X₁, st1⟩ := Y.newCold hexec (own := own) (C := cls) (index := ik) (n := 6) hown' hk' hins hini'
    (g := F0 m pc ls rest) rfl (by rw [hb]; exact d0) (Nat.le_refl _) (Nat.le_refl _)
  generalize hT1 : (T.setVm vm₁).pushCell { cls := cX, slots := kX.instanceTypes.map defaultValue, vm := .none } = T1 at X₁ st1
  have hcat : (Value.ref T.heap.size).category = 1 := rfl
  have hcellA : T1.heap[T.heap.size]? = some (freshCell cX kX) := by rw [← hT1]; exact State.heap_pushCell_size _ _
  have d3' : decode c.code (pc + 3) = .ok (.dup, 1) := by rw [hb]; exact d3
  obtain ⟨U, hsteps, hrun, hend, hW, hsame, ce, hce, hO⟩ := X₁.ctorThrow0 hexec htr (own := own) (cls := cls) (names := names) (ic := ic) hown' hcls hnames h (fun x hx => nomatch hx) hfX hkX hcellA (by rw [hhp, hT]; exact Nat.le_refl _)
    (g := { method := m, pc := pc + 4, locals := ls, stack := .ref T.heap.size :: .ref T.heap.size :: rest, locked := none }) rfl hsize rfl rfl (rest := rest) rfl
    (by rw [hb]; exact d4) (by rw [hb]; exact d7) hout hRframes (by simp only [List.map_cons, List.sum_cons, hcat]; omega) hlocks
  obtain ⟨f1, f2⟩ := vx_frame hsame
  rw [hhp] at f1 f2
  have hWs : s.WarmedH U.vm := State.WarmedH.trans hW0 hW
  have hcl : s.vm.findClass cls = some ce.cls := by
    have h9 := hO.cls
    rw [hvm] at h9
    exact h9
  have hall : s.sameButNew ({ U with vm := s.vm } : State) locs mc ms := by
    subst hA
    obtain ⟨e1, e2⟩ := hsame
    rw [State.setFrames_setFrames] at e1
    have h2 : (T.setVm s.vm).sameButNew ({ U with vm := s.vm } : State) [] (0 + 1) (0 + 6) := ⟨e1, e2⟩
    have h3 := X.same.trans h2
    rw [List.append_nil] at h3
    exact h3.mono hc hs
  refine ⟨U, ?_, .threw T.heap.size, hrun, hend, Or.inr ⟨T.heap.size, rfl, cls, ce, locs, hx U hWs.alike f1 (fun q hq => f2 q hq (fun z hz => nomatch hz)), hce, hO.vm, hcl, hWs, hall, hf⟩⟩
  refine st1 _ ?_
  show Steps p.tables e below (T1.setTop { method := m, pc := pc + 3, locals := ls, stack := .ref T.heap.size :: rest, locked := none }) _
  jvm_step X₁.here [X₁.here.top, hexec, d3', Value.category]
  exact hsteps
/-- 'throw new E("text")': new; dup; ldc; invokespecial; athrow -/
theorem vx_throwS {cc : ByteArray} {pc : Nat} (hexec : p.tables.exec = Jvm.exec) (hb : c.code = cc) (hl : l.stackTraces = false) {own cls text : String} {names : List String} {ik is ic mc ms sa : Nat} {A : Nat → Prop}
    (hown : s.vm.findClass own = some m.cls) (hcls : Bundle.fit cls = true) (hnames : ∀ n ∈ names, Bundle.fit n = true)
    (hk : (Cond.classLink own ik cls).before args s = true) (hini : (Cond.initialized cls).before args s = true) (hstr : vk_R own is text sa s) (hat : ∀ w ∈ vx_atS own ic cls names, w.before args s = true)
    (hgood : ∀ w ∈ Cond.classLink own ik cls :: Cond.initialized cls :: vx_atS own ic cls names, vx_ot w = true)
    (hU : vx_Zq Bundle.tN "UNASSIGNED_STACK" Bundle.steD A s s.heap) (hN : vx_Zq Bundle.tN "SUPPRESSED_SENTINEL" Bundle.listD A s s.heap) (hS : va_S A s.heap H locs) (hsize : ls.size = c.maxLocals)
    (d0 : decode cc pc = .ok (.new ik, 3)) (d3 : decode cc (pc + 3) = .ok (.dup, 1)) (d4 : decode cc (pc + 4) = .ok (.ldc is, 2)) (d6 : decode cc (pc + 6) = .ok (.invokespecial ic, 3)) (d9 : decode cc (pc + 9) = .ok (.athrow, 1))
    (hout : ∀ x ∈ c.exceptionTable.toList, covers x (pc + 9) = false)
    (hRframes : names.length + 3 < R.frames) (hRlocals : (rest.map fun v => v.category).sum + (13 * (names.length + 1) + 43) ≤ R.locals) (hRcells : cells + 1 ≤ R.cells) (hRslots : slots + 6 ≤ R.slots) (hlocks : meth.locks = false)
    (hx : ∀ t : State, s.vm.Alike t.vm → H.size ≤ t.heap.size → (∀ q : Nat, q < H.size → t.heap[q]? = H[q]?) → XC cls s t)
    (hf : ∀ z ∈ locs, free z.base) (hc : cells + 1 ≤ mc) (hs : slots + 6 ≤ ms) :
    W p l e R s m args below meth c H locs cells slots (vx_MQ below Qc XC args s mc ms free) (F0 m pc ls rest) := by
  intro T hT X
  have htr : e.platform.stackTraces = false := (show e.platform.stackTraces = l.stackTraces by rw [X.admits.platform]).trans hl
  have Y := vx_rebase X (R' := { frames := R.frames, locals := R.locals, cells := 1, slots := 6 }) (Nat.le_refl _) (Nat.le_refl _) hRcells hRslots
  obtain ⟨s', hA⟩ : ∃ z, z = (T.setVm s.vm).setFrames (.invoking m args :: below) := ⟨_, rfl⟩
  rw [← hA] at Y
  have hvm : s'.vm = s.vm := by rw [hA]; rfl
  have hhp : s'.heap = H := by rw [hA]; exact hT
  have hW0 : s.WarmedH s'.vm := by rw [hvm]; exact State.WarmedH.refl s
  have hat' : ∀ w ∈ vx_atS own ic cls names, w.before args s' = true := fun w hw => vx_ot_at hW0 hvm.symm (hgood w (List.mem_cons_of_mem _ (List.mem_cons_of_mem _ hw))) (hat w hw)
  have hk' : (Cond.classLink own ik cls).before args s' = true := vx_ot_at hW0 hvm.symm (hgood _ List.mem_cons_self) hk
  have hini' : (Cond.initialized cls).before args s' = true := vx_ot_at hW0 hvm.symm (hgood _ (List.mem_cons_of_mem _ List.mem_cons_self)) hini
  have hU' : vx_Zq Bundle.tN "UNASSIGNED_STACK" Bundle.steD A s' s'.heap := by rw [hhp]; exact vx_Zq.moved hW0.alike (hU.kept hS.2.1)
  have hN' : vx_Zq Bundle.tN "SUPPRESSED_SENTINEL" Bundle.listD A s' s'.heap := by rw [hhp]; exact vx_Zq.moved hW0.alike (hN.kept hS.2.1)
  have h : ∀ w ∈ Bundle.ownAtoms own ic cls names, w.before args s' = true := vx_own hat' (vx_isRefq hU'.1) (vx_isRefq hN'.1) hU'.2.word hN'.2.word
  have hown' : s'.vm.findClass own = some m.cls := by rw [hvm]; exact hown
  have hins : (Cond.instantiable cls 6).before args s' = true := h _ (by simp [Bundle.ownAtoms])
  obtain ⟨vm₁, cX, kX, hfX, hkX, -, -, X₁, st1⟩ := Y.newCold hexec (own := own) (C := cls) (index := ik) (n := 6) hown' hk' hins hini'
    (g := F0 m pc ls rest) rfl (by rw [hb]; exact d0) (Nat.le_refl _) (Nat.le_refl _)
  generalize hT1 : (T.setVm vm₁).pushCell { cls := cX, slots := kX.instanceTypes.map defaultValue, vm := .none } = T1 at X₁ st1
  have hcat : (Value.ref T.heap.size).category = 1 := rfl
  have hcellA : T1.heap[T.heap.size]? = some (freshCell cX kX) := by rw [← hT1]; exact State.heap_pushCell_size _ _
  have d3' : decode c.code (pc + 3) = .ok (.dup, 1) := by rw [hb]; exact d3
  have d4' : decode c.code (pc + 4) = .ok (.ldc is, 2) := by rw [hb]; exact d4
  have hstr' : vk_R own is text sa s' := vk_R.warm hW0 hstr
  obtain ⟨U, hsteps, hrun, hend, hW, hsame, ce, hce, hO⟩ := X₁.ctorThrowS hexec htr (own := own) (cls := cls) (names := names) (ic := ic) hown' hcls hnames h (fun x hx => nomatch hx) hfX hkX hcellA (by rw [hhp, hT]; exact Nat.le_refl _) (msg := .ref sa) rfl
    (g := { method := m, pc := pc + 6, locals := ls, stack := .ref sa :: .ref T.heap.size :: .ref T.heap.size :: rest, locked := none }) rfl hsize rfl rfl (rest := rest) rfl
    (by rw [hb]; exact d6) (by rw [hb]; exact d9) hout hRframes (by simp only [List.map_cons, List.sum_cons, hcat]; omega) hlocks
  obtain ⟨f1, f2⟩ := vx_frame hsame
  rw [hhp] at f1 f2
  have hWs : s.WarmedH U.vm := State.WarmedH.trans hW0 hW
  have hcl : s.vm.findClass cls = some ce.cls := by
    have h9 := hO.cls
    rw [hvm] at h9
    exact h9
  have hall : s.sameButNew ({ U with vm := s.vm } : State) locs mc ms := by
    subst hA
    obtain ⟨e1, e2⟩ := hsame
    rw [State.setFrames_setFrames] at e1
    have h2 : (T.setVm s.vm).sameButNew ({ U with vm := s.vm } : State) [] (0 + 1) (0 + 6) := ⟨e1, e2⟩
    have h3 := X.same.trans h2
    rw [List.append_nil] at h3
    exact h3.mono hc hs
  refine ⟨U, ?_, .threw T.heap.size, hrun, hend, Or.inr ⟨T.heap.size, rfl, cls, ce, locs, hx U hWs.alike f1 (fun q hq => f2 q hq (fun z hz => nomatch hz)), hce, hO.vm, hcl, hWs, hall, hf⟩⟩
  refine st1 _ ?_
  show Steps p.tables e below (T1.setTop { method := m, pc := pc + 3, locals := ls, stack := .ref T.heap.size :: rest, locked := none }) _
  jvm_step X₁.here [X₁.here.top, hexec, d3', Value.category]
  exact X₁.ldcString hexec (own := own) (text := text) (index := is) (a := sa) hown' hstr'.1 hstr'.2
    (g := { method := m, pc := pc + 4, locals := ls, stack := .ref T.heap.size :: .ref T.heap.size :: rest, locked := none }) rfl d4' _ hsteps
/-- 'throw new E("text")', the text by a wide index -/
theorem vx_throwSW {cc : ByteArray} {pc : Nat} (hexec : p.tables.exec = Jvm.exec) (hb : c.code = cc) (hl : l.stackTraces = false) {own cls text : String} {names : List String} {ik is ic mc ms sa : Nat} {A : Nat → Prop}
    (hown : s.vm.findClass own = some m.cls) (hcls : Bundle.fit cls = true) (hnames : ∀ n ∈ names, Bundle.fit n = true)
    (hk : (Cond.classLink own ik cls).before args s = true) (hini : (Cond.initialized cls).before args s = true) (hstr : vk_R own is text sa s) (hat : ∀ w ∈ vx_atS own ic cls names, w.before args s = true)
    (hgood : ∀ w ∈ Cond.classLink own ik cls :: Cond.initialized cls :: vx_atS own ic cls names, vx_ot w = true)
    (hU : vx_Zq Bundle.tN "UNASSIGNED_STACK" Bundle.steD A s s.heap) (hN : vx_Zq Bundle.tN "SUPPRESSED_SENTINEL" Bundle.listD A s s.heap) (hS : va_S A s.heap H locs) (hsize : ls.size = c.maxLocals)
    (d0 : decode cc pc = .ok (.new ik, 3)) (d3 : decode cc (pc + 3) = .ok (.dup, 1)) (d4 : decode cc (pc + 4) = .ok (.ldc_w is, 3)) (d7 : decode cc (pc + 7) = .ok (.invokespecial ic, 3)) (d10 : decode cc (pc + 10) = .ok (.athrow, 1))
    (hout : ∀ x ∈ c.exceptionTable.toList, covers x (pc + 10) = false)
    (hRframes : names.length + 3 < R.frames) (hRlocals : (rest.map fun v => v.category).sum + (13 * (names.length + 1) + 43) ≤ R.locals) (hRcells : cells + 1 ≤ R.cells) (hRslots : slots + 6 ≤ R.slots) (hlocks : meth.locks = false)
    (hx : ∀ t : State, s.vm.Alike t.vm → H.size ≤ t.heap.size → (∀ q : Nat, q < H.size → t.heap[q]? = H[q]?) → XC cls s t)
    (hf : ∀ z ∈ locs, free z.base) (hc : cells + 1 ≤ mc) (hs : slots + 6 ≤ ms) :
    W p l e R s m args below meth c H locs cells slots (vx_MQ below Qc XC args s mc ms free) (F0 m pc ls rest) := by
  intro T hT X
  have htr : e.platform.stackTraces = false := (show e.platform.stackTraces = l.stackTraces by rw [X.admits.platform]).trans hl
  have Y := vx_rebase X (R' := { frames := R.frames, locals := R.locals, cells := 1, slots := 6 }) (Nat.le_refl _) (Nat.le_refl _) hRcells hRslots
  obtain ⟨s', hA⟩ : ∃ z, z = (T.setVm s.vm).setFrames (.invoking m args :: below) := ⟨_, rfl⟩
  rw [← hA] at Y
  have hvm : s'.vm = s.vm := by rw [hA]; rfl
  have hhp : s'.heap = H := by rw [hA]; exact hT
  have hW0 : s.WarmedH s'.vm := by rw [hvm]; exact State.WarmedH.refl s
  have hat' : ∀ w ∈ vx_atS own ic cls names, w.before args s' = true := fun w hw => vx_ot_at hW0 hvm.symm (hgood w (List.mem_cons_of_mem _ (List.mem_cons_of_mem _ hw))) (hat w hw)
  have hk' : (Cond.classLink own ik cls).before args s' = true := vx_ot_at hW0 hvm.symm (hgood _ List.mem_cons_self) hk
  have hini' : (Cond.initialized cls).before args s' = true := vx_ot_at hW0 hvm.symm (hgood _ (List.mem_cons_of_mem _ List.mem_cons_self)) hini
  have hU' : vx_Zq Bundle.tN "UNASSIGNED_STACK" Bundle.steD A s' s'.heap := by rw [hhp]; exact vx_Zq.moved hW0.alike (hU.kept hS.2.1)
  have hN' : vx_Zq Bundle.tN "SUPPRESSED_SENTINEL" Bundle.listD A s' s'.heap := by rw [hhp]; exact vx_Zq.moved hW0.alike (hN.kept hS.2.1)
  have h : ∀ w ∈ Bundle.ownAtoms own ic cls names, w.before args s' = true := vx_own hat' (vx_isRefq hU'.1) (vx_isRefq hN'.1) hU'.2.word hN'.2.word
  have hown' : s'.vm.findClass own = some m.cls := by rw [hvm]; exact hown
  have hins : (Cond.instantiable cls 6).before args s' = true := h _ (by simp [Bundle.ownAtoms])
  obtain ⟨vm₁, cX, kX, hfX, hkX, -, -, X₁, st1⟩ := Y.newCold hexec (own := own) (C := cls) (index := ik) (n := 6) hown' hk' hins hini'
    (g := F0 m pc ls rest) rfl (by rw [hb]; exact d0) (Nat.le_refl _) (Nat.le_refl _)
  generalize hT1 : (T.setVm vm₁).pushCell { cls := cX, slots := kX.instanceTypes.map defaultValue, vm := .none } = T1 at X₁ st1
  have hcat : (Value.ref T.heap.size).category = 1 := rfl
  have hcellA : T1.heap[T.heap.size]? = some (freshCell cX kX) := by rw [← hT1]; exact State.heap_pushCell_size _ _
  have d3' : decode c.code (pc + 3) = .ok (.dup, 1) := by rw [hb]; exact d3
  have d4' : decode c.code (pc + 4) = .ok (.ldc_w is, 3) := by rw [hb]; exact d4
  have hstr' : vk_R own is text sa s' := vk_R.warm hW0 hstr
  obtain ⟨U, hsteps, hrun, hend, hW, hsame, ce, hce, hO⟩ := X₁.ctorThrowS hexec htr (own := own) (cls := cls) (names := names) (ic := ic) hown' hcls hnames h (fun x hx => nomatch hx) hfX hkX hcellA (by rw [hhp, hT]; exact Nat.le_refl _) (msg := .ref sa) rfl
    (g := { method := m, pc := pc + 7, locals := ls, stack := .ref sa :: .ref T.heap.size :: .ref T.heap.size :: rest, locked := none }) rfl hsize rfl rfl (rest := rest) rfl
    (by rw [hb]; exact d7) (by rw [hb]; exact d10) hout hRframes (by simp only [List.map_cons, List.sum_cons, hcat]; omega) hlocks
  obtain ⟨f1, f2⟩ := vx_frame hsame
  rw [hhp] at f1 f2
  have hWs : s.WarmedH U.vm := State.WarmedH.trans hW0 hW
  have hcl : s.vm.findClass cls = some ce.cls := by
    have h9 := hO.cls
    rw [hvm] at h9
    exact h9
  have hall : s.sameButNew ({ U with vm := s.vm } : State) locs mc ms := by
    subst hA
    obtain ⟨e1, e2⟩ := hsame
    rw [State.setFrames_setFrames] at e1
    have h2 : (T.setVm s.vm).sameButNew ({ U with vm := s.vm } : State) [] (0 + 1) (0 + 6) := ⟨e1, e2⟩
    have h3 := X.same.trans h2
    rw [List.append_nil] at h3
    exact h3.mono hc hs
  refine ⟨U, ?_, .threw T.heap.size, hrun, hend, Or.inr ⟨T.heap.size, rfl, cls, ce, locs, hx U hWs.alike f1 (fun q hq => f2 q hq (fun z hz => nomatch hz)), hce, hO.vm, hcl, hWs, hall, hf⟩⟩
  refine st1 _ ?_
  show Steps p.tables e below (T1.setTop { method := m, pc := pc + 3, locals := ls, stack := .ref T.heap.size :: rest, locked := none }) _
  jvm_step X₁.here [X₁.here.top, hexec, d3', Value.category]
  exact X₁.ldcStringW hexec (own := own) (text := text) (index := is) (a := sa) hown' hstr'.1 hstr'.2
    (g := { method := m, pc := pc + 4, locals := ls, stack := .ref T.heap.size :: .ref T.heap.size :: rest, locked := none }) rfl d4' _ hsteps
end Ends
section Bodies
variable {l : Launch}
theorem vx_ofW {y : MethodName} {ws ws' : List Cond} {rm : Room} {Pc : Array Value → State → Prop} {Qc : Array Value → State → Outcome → State → Prop} {XC : String → State → State → Prop} {mc ms : Nat} {free : Addr → Prop} {cc : ByteArray} {maxL : Nat} {ret : Option FieldType}
    (hy : plainName y.cls = true) (hw : ws = Cond.code y cc maxL ret :: ws')
    (body : ∀ p e s m args below meth c s₁, BodyLoose p l y (headSpec ws rm) cc maxL ret e s m args below meth c s₁ → c.maxLocals = maxL → (∀ x ∈ c.exceptionTable.toList, False) → Pc args s →
      W p l e (headSpec ws rm).room s m args below meth c s.heap [] 0 0 (vx_MQ below Qc XC args s mc ms free) (entryFrame m args maxL)) : vx_Met l y ws rm Pc Qc XC mc ms free := by
  refine MetFree.of_bodyS (code := cc) (maxLocals := maxL) (ret := ret) hy ?_ ?_
  · intro args s m h hn
    obtain ⟨meth, c, h1, h2, h3, h4, h5, h6, -, -⟩ := Cond.code_spec hn (atoms_spec (ws := ws) h _ (by rw [hw]; exact List.mem_cons_self))
    exact ⟨meth, c, h1, h2, h3, h4, h5, h6⟩
  · intro p e s m args below meth c s₁ B hml hP _
    have hh0 : s₁.heap = s.heap := by rw [B.state]; rfl
    have ht : ∀ x ∈ c.exceptionTable.toList, False := by
      obtain ⟨meth9, c9, h1, h2, -, -, -, -, h7, -⟩ := Cond.code_spec B.named (atoms_spec (ws := ws) B.pre _ (by rw [hw]; exact List.mem_cons_self))
      cases Option.some.inj (h1.symm.trans B.method)
      cases Option.some.inj (h2.symm.trans (Stand.of_body B).code)
      intro x hx
      rw [Array.isEmpty_iff.mp h7] at hx
      cases hx
    obtain ⟨t, a1, o, b1, b2, b3⟩ := body p e s m args below meth c s₁ B hml ht hP s₁ hh0 (Stand.of_body B)
    exact ⟨t, o, a1, b1, b2, b3⟩
/-- the table of a body with handlers -/
theorem vx_table {p : Program} {x y : MethodName} {S : Spec} {cc bytes : ByteArray} {maxL maxL' : Nat} {ret ret' : Option FieldType} {e : Env} {s s₁ : State} {m : MethodId} {args : Array Value} {below : List Frame} {meth : Method} {c : Code} {hh : List (Nat × Nat × Nat × Nat)}
    (B : BodyLoose p l y S cc maxL ret e s m args below meth c s₁) (h : (Cond.codeWith y bytes maxL' ret' hh).before args s = true) : c.exceptionTable.toList = tableOf hh := by
  obtain ⟨m9, meth9, c9, hn9, h1, h2, -, -, h6, -⟩ := Cond.codeWith_spec h
  cases Option.some.inj (hn9.symm.trans B.named)
  cases Option.some.inj (h1.symm.trans B.method)
  cases Option.some.inj (h2.symm.trans (Stand.of_body B).code)
  rw [← h6, table_eq]
end Bodies
end VXA
/-! ===== END ===== -/
/-! ===== BEGIN a static call of a method with an exception table ===== -/
section VXS
variable {p : Program} {l : Launch} {e : Env} {R : Room} {s : State} {m : MethodId} {args : Array Value} {below : List Frame} {meth : Method} {c : Code} {T : State} {H : Heap} {locs : List Loc} {cells slots : Nat}
abbrev vx_CSW (R : Room) (s : State) (args : Array Value) (own : String) (index : Nat) (y : MethodName) (bytes : ByteArray) (maxL : Nat) (ret : Option FieldType) (hh : List (Nat × Nat × Nat × Nat)) (ws : List Cond) (rm : Room) (mc ms n : Nat) : Prop :=
  (rm.cells = mc ∧ rm.slots = ms ∧ rm.frames + 1 ≤ R.frames ∧ 8 + (maxL + 11) + rm.locals ≤ R.locals ∧ (∀ w ∈ ws, ∀ (a' : Array Value) (U : State), s.WarmedH U.vm → w.before a' U = true) ∧ Cond.codeWith y bytes maxL ret hh ∈ ws) ∧
  (Cond.codeWith y bytes maxL ret hh).before args s = true ∧ (Cond.initialized y.cls).before args s = true ∧ (y.cls ≠ "java/lang/invoke/MethodHandle" ∧ y.cls ≠ "java/lang/invoke/VarHandle") ∧
  (∀ sig, parseMethodDescriptor y.desc = some sig → n = sig.parameters.length) ∧ (Cond.methodLink own index y).before args s = true ∧ (Cond.static y).before args s = true
theorem vx_cwSW {own : String} {index maxL mc ms : Nat} {y : MethodName} {bytes : ByteArray} {ret : Option FieldType} {hh : List (Nat × Nat × Nat × Nat)} {Ts ws ws' : List Cond} {rm : Room} (n : Nat) (ht : ∀ w ∈ Ts, w.before args s = true) (hT : GoodIn Ts (va_wsS own index y ws)) (hw : ws = Cond.codeWith y bytes maxL ret hh :: ws') (hrc : rm.cells = mc) (hrs : rm.slots = ms)
    (hd : y.cls ≠ "java/lang/invoke/MethodHandle" ∧ y.cls ≠ "java/lang/invoke/VarHandle" ∧ (parseMethodDescriptor y.desc).map (fun d => d.parameters.length) = some n) (hR : rm.frames + 1 ≤ R.frames ∧ 8 + (maxL + 11) + rm.locals ≤ R.locals) :
    vx_CSW R s args own index y bytes maxL ret hh ws rm mc ms n := by
  have ok : ∀ w ∈ va_wsS own index y ws, w.before args s = true := fun w h => ht w (hT w h).1
  have hG : GoodIn Ts ws := fun w h => hT w (by unfold va_wsS; exact List.mem_append_right _ h)
  have hc : Cond.codeWith y bytes maxL ret hh ∈ ws := by rw [hw]; exact List.mem_cons_self
  refine ⟨⟨hrc, hrs, hR.1, hR.2, pay_in ht hG, hc⟩, ht _ (hG _ hc).1, ok _ (by simp [va_wsS]), ⟨hd.1, hd.2.1⟩, fun sig h => ?_, ok _ (by simp [va_wsS]), ok _ (by simp [va_wsS])⟩
  have h2 := hd.2.2
  rw [h] at h2
  exact (Option.some.inj h2).symm
theorem vx_callSW (X : Stand p l e R s m args below meth c T locs cells slots) (hexec : p.tables.exec = Jvm.exec) {own : String} {index : Nat} {y : MethodName} {bytes : ByteArray} {maxL : Nat} {ret : Option FieldType} {hh : List (Nat × Nat × Nat × Nat)}
    (hown : s.vm.findClass own = some m.cls) (hlink : (Cond.methodLink own index y).before args s = true) (hstat : (Cond.static y).before args s = true) (hinit : (Cond.initialized y.cls).before args s = true)
    (hcode : (Cond.codeWith y bytes maxL ret hh).before args s = true) (hy : y.cls ≠ "java/lang/invoke/MethodHandle" ∧ y.cls ≠ "java/lang/invoke/VarHandle")
    {W9 : Nat} {Pre : Pt → Array Value → Prop} {Post : Pt → Array Value → Option Value → Pt → Prop} (hK : Back l R p e below s args y 3 W9 Pre Post)
    {g : JFrame} (hg : g.method = m) (hsize : g.locals.size = c.maxLocals) {argsL rest : List Value} (hlen : ∀ sig, parseMethodDescriptor y.desc = some sig → argsL.length = sig.parameters.length)
    (hstack : g.stack = argsL.reverse ++ rest) (hW : 2 * g.monitorRoom + (rest.map fun v => v.category).sum ≤ W9) (hdg : decode c.code g.pc = .ok (.invokestatic index, 3))
    (hpre : ∀ vm₁, s.WarmedH vm₁ → Pre ⟨T.setVm vm₁, locs, cells, slots⟩ argsL.toArray) :
    ∃ (v : Option Value) (vm₁ : Vm) (B : Pt), s.WarmedH vm₁ ∧ Stand p l e R s m args below meth c B.U B.locs B.cells B.slots ∧ Post ⟨T.setVm vm₁, locs, cells, slots⟩ argsL.toArray v B ∧
      ∀ target, Steps p.tables e below (B.U.setTop { g with pc := g.pc + 3, stack := v.toList ++ rest }) target → Steps p.tables e below (T.setTop g) target := by
  obtain ⟨mk, methM, cM, hnamed, hmethM, -, -, -, -, -, -, hsigM⟩ := Cond.codeWith_spec hcode
  have hstatic : methM.isStatic = true := Cond.static_spec hnamed hmethM hstat
  obtain ⟨kP, hkP, -⟩ := className_of_methodNamed hnamed
  have hinitP : kP.init = .initialized := Cond.initialized_spec (findClass_of_methodNamed hnamed) hkP hinit
  obtain ⟨vm₁, X₁, hstep₁⟩ := X.invokestatic hexec hown hlink hnamed hmethM hstatic hkP hinitP hy (g := g) hg (argsL := argsL) (rest := rest) (hlen _ hsigM) hstack hdg
  obtain ⟨v, B, X', hpost, hsteps⟩ := hK m meth c ⟨T.setVm vm₁, locs, cells, slots⟩ { g with stack := rest } (.invokestatic index) mk argsL.toArray X₁ hg hsize hdg hW (X₁.named hnamed) (hpre vm₁ X₁.warmed)
  exact ⟨v, vm₁, B, X₁.warmed, X', hpost, fun target h => hstep₁ _ fun acts => by rw [doInvoke_state]; exact hsteps.trans h⟩
theorem vx_runSW {y : MethodName} {bytes cc : ByteArray} {maxL nL mc ms n index : Nat} {ret : Option FieldType} {hh : List (Nat × Nat × Nat × Nat)} {ws : List Cond} {rm : Room} {Pc : Array Value → State → Prop} {Qc : Array Value → State → Outcome → State → Prop} {free : Addr → Prop} {Ts : List Cond} {own : String} {As rest : List Value} {g : JFrame}
    (S : CallFix p m c cc nL s args Ts own) (hM : Met l y ws rm Pc Qc mc ms free) (cw : vx_CSW R s args own index y bytes maxL ret hh ws rm mc ms n) (hp : PreS s H Pc As)
    (hg : g.method = m) (hn : As.length = n) (hsize : g.locals.size = nL) (hstack : g.stack = As.reverse ++ rest) (hW : 2 * g.monitorRoom + (rest.map fun v => v.category).sum ≤ 8) (hdg : decode cc g.pc = .ok (.invokestatic index, 3)) (hf : cells + mc ≤ R.cells ∧ slots + ms ≤ R.slots) :
    va_Run p l e R s m args below meth c H locs cells slots mc ms g rest (Qc As.toArray) (free) := by
  obtain ⟨⟨hrc, hrs, hfr, hlo, hws, hcw⟩, hcode, hini, hy, hlen, hl, hstt⟩ := cw
  have hK : Back l R p e below s args y 3 8 (PreOf R mc ms Pc) (PostOf Qc mc ms free) := va_backW (hh := hh) (bytes := bytes) (maxL := maxL) (ret := ret) hM hp.1 hrc hrs hfr hlo hws hcw (fun a' U hW => word_at hW (Or.inl (by first | rfl | simp [Cond.onTables, Cond.keeps, Cond.steady])) hini)
  obtain ⟨hx, hb, hml, ho, -⟩ := S
  intro T hT X
  obtain ⟨v, vm₁, ⟨U', l2, c2, s2⟩, hW₁, X', ⟨g', mk, t, L, e1, e2, hq, h1, hL, h2, h3⟩, st⟩ := vx_callSW X hx (hh := hh) (bytes := bytes) (maxL := maxL) (ret := ret) ho hl hstt hini hcode hy hK hg (hsize.trans hml.symm) (argsL := As) (rest := rest) (fun sig h => hn.trans (hlen sig h)) hstack hW (by rw [hb]; exact hdg)
    (fun vm₁ hW₁ => ⟨hf.1, hf.2, hp.2 (T.setVm vm₁) hT hW₁⟩)
  dsimp only [Pt.U, Pt.locs, Pt.cells, Pt.slots] at X' e1 e2 h1 h2 h3 st
  subst h1; subst h2; subst h3
  exact ⟨v, (T.setVm vm₁).calling g' mk As.toArray, t, U', L, hT, X', hL, e1, e2, hq, st⟩
/-- not caught here, past rows that name other classes: it goes on to the caller -/
theorem vx_outP {p : Program} {l : Launch} {e : Env} {R : Room} {s : State} {m : MethodId} {args : Array Value} {below : List Frame} {meth : Method} {c : Code} {H : Heap} {locs : List Loc} {cells slots : Nat} {free : Addr → Prop} {ls : Array Slot} {rest : List Value} {Qc : Array Value → State → Outcome → State → Prop} {XC : String → State → State → Prop}
    {pc : Nat} {own E : String} {ce : Cell} {q : Addr} {mc ms : Nat} (hown : s.vm.findClass own = some m.cls) (hlocks : meth.locks = false)
    (hpass : ∀ z ∈ c.exceptionTable.toList, covers z pc = false ∨ (z.catchType ≠ 0 ∧ ∃ nm : String, (Cond.classLink own z.catchType nm).before args s = true ∧ va_Nc E nm s)) (hcell : H[q]? = some ce) (hv : ce.vm = .none) (hcl : s.vm.findClass E = some ce.cls)
    (hx : ∀ t : State, t.heap = H → s.vm.Alike t.vm → XC E s t) (hf : ∀ z ∈ locs, free z.base) (hc : cells ≤ mc) (hs : slots ≤ ms) :
    vx_W p l e R s m args below meth c H locs cells slots (vx_MQ below Qc XC args s mc ms free) (F0 m pc ls rest) q := by
  intro T hT X
  have hpl : e.platform.magicAccessors = ({} : Platform).magicAccessors := by rw [X.admits.platform]
  obtain ⟨vm', hW', X', st⟩ := X.outThrough hlocks q (g := F0 m pc ls rest) rfl rfl rfl (cell := ce) (by rw [hT]; exact hcell) (by rw [hv]; rfl)
    (by obtain ⟨k9, h9, -⟩ := Vm.findClass_spec hcl; exact ⟨k9, h9⟩) (fun z hz => by
      rcases hpass z hz with h | ⟨hz0, nm, hl1, hn1⟩
      · exact Or.inl h
      · obtain ⟨c6, hc6, hcl6⟩ := Cond.classLink_spec hown hl1 e.platform hpl
        obtain ⟨a8, b8, h1, h2, h3⟩ := hn1
        cases Option.some.inj (h1.symm.trans hcl)
        cases Option.some.inj (h2.symm.trans hc6)
        exact Or.inr ⟨hz0, _, hcl6, h3⟩)
  obtain ⟨g₀, hfr⟩ := X'.frames_eq
  have hcell9 : ((T.setVm vm').setFrames (.throwing q :: below)).heap[q]? = some ce := by
    show T.heap[q]? = some ce
    rw [hT]; exact hcell
  have hend : Ended ((T.setVm vm').setFrames (.throwing q :: below)) below (.threw q) := State.frames_setFrames _ (State.cur_lt_of_frames hfr)
  refine ⟨(T.setVm vm').setFrames (.throwing q :: below), ?_, .threw q, X'.here.running, hend, Or.inr ⟨q, rfl, E, ce, locs, hx _ hT (X'.ends _).1.alike, hcell9, hv, hcl, (X'.ends _).1, (X'.ends _).2.mono hc hs, hf⟩⟩
  rw [X.pushThrowing_eq]
  exact st
/-- a thing of a world lies in the heap -/
theorem vx_lt {D : va_G} {cl : List vw_C} {ws : va_W} {H1 : Heap} (h : va_P D cl ws H1) {k : Nat} {q : Nat × va_E} (hk : ws[k]? = some q) : q.1 < H1.size := (h k q hk).lt
end VXS
/-! ===== END ===== -/
/-! ===== BEGIN methods with a table of their own: called by a name, returning or throwing ===== -/
section VXH
/-! vx_backW, vx_callVX, vx_callSX, vx_callVW, vx_runVW, vx_runVX, vx_runSX, vx_ofWH follow the same proofs as their sisters above (Free/Laws.lean, Shelf42/LK1.lean); vx_outP calls Shelf42/NT130.lean (outThrough). -/
section
variable {l : Launch} {R : Room} {p : Program} {e : Env} {below : List Frame} {s : State} {sargs : Array Value} {y : MethodName} {len W9 : Nat}
theorem vx_backW {ws : List Cond} {rm : Room} {Pc : Array Value → State → Prop} {Qc : Array Value → State → Outcome → State → Prop} {XC : String → State → State → Prop} {mc ms : Nat} {free : Addr → Prop} {bytes : ByteArray} {maxL : Nat} {ret : Option FieldType} {hh : List (Nat × Nat × Nat × Nat)}
    (hM : vx_Met l y ws rm Pc Qc XC mc ms free) (hblind : FrameBlind Pc) (hrc : rm.cells = mc) (hrs : rm.slots = ms)
    (hframes : rm.frames + 1 ≤ R.frames) (hlocals : W9 + (maxL + 11) + rm.locals ≤ R.locals)
    (hws : ∀ w ∈ ws, ∀ a' U, s.WarmedH U.vm → w.before a' U = true) (hcode : Cond.codeWith y bytes maxL ret hh ∈ ws) (hinit : ∀ a' U, s.WarmedH U.vm → (Cond.initialized y.cls).before a' U = true) :
    vx_Back l R p e below s sargs y len W9 (PreOf R mc ms Pc) (PostOf Qc mc ms free) (vx_Post XC mc ms free) := by
  intro m meth c A g ig mk a X hg hsize hdg hW hn hp
  have h1 : (headSpec ws rm).pre.before a A.U = true := atoms_intro fun w hw => hws w hw _ _ X.warmed
  have h2 : (Cond.codeWith y bytes maxL ret hh).before a A.U = true := hws _ hcode _ _ X.warmed
  have h3 : (Cond.initialized y.cls).before a A.U = true := hinit _ _ X.warmed
  have h4 : A.cells + (headSpec ws rm).room.cells ≤ R.cells := by rw [show (headSpec ws rm).room.cells = mc from hrc]; exact hp.1
  have h5 : A.slots + (headSpec ws rm).room.slots ≤ R.slots := by rw [show (headSpec ws rm).room.slots = ms from hrs]; exact hp.2.1
  have hPc : Pc a (A.U.calling g mk a) := hblind _ _ _ _ hp.2.2
  obtain ⟨U, Ls, c0, s0⟩ := A
  dsimp only [Pt.U, Pt.locs, Pt.cells, Pt.slots] at h1 h2 h3 h4 h5 X hn hPc ⊢
  obtain ⟨m9, methY, cY, hn9, hmY, hcY, -, hlY, -⟩ := Cond.codeWith_spec h2
  cases Option.some.inj (hn9.symm.trans hn)
  obtain ⟨kY, hkY, -⟩ := className_of_methodNamed hn
  have hinitY : kY.init = .initialized := Cond.initialized_spec (findClass_of_methodNamed hn) hkY h3
  have h : At U g.method c below := by rw [hg]; exact X.here
  have hlocals9 : W9 + (maxL + 11) + (headSpec ws rm).room.locals ≤ R.locals := hlocals
  have happ : (headSpec ws rm).appliesLoose y e.platform (U.calling g mk a) = true :=
    Spec.appliesLoose_calling (g := g) h hdg hn hkY hinitY
      (X.room_calling (g := g) (R' := (headSpec ws rm).room) hsize hmY hcY hframes (by rw [hlY]; omega) h4 h5) h1
  obtain ⟨mid, hmid⟩ := h.above
  have hfr : (U.setTop g).frames = (.java g :: mid) ++ below := by rw [State.frames_setTop' g h.top, hmid]; rfl
  obtain ⟨o, s₂, hsteps, -, hend, hq⟩ := Steps.callFree hM p X.admits X.cas X.clock (acts := []) hfr happ hPc trivial
  have hq' : vx_Q Qc XC mc ms free a (U.calling g mk a) o s₂ := hq
  rw [State.frames_setTop' g h.top] at hend
  obtain ⟨g₀, hg0⟩ := Option.isSome_iff_exists.mp h.top
  obtain ⟨r, hr⟩ := State.topJava?_eq_some.mp hg0
  have hr' : (({ U with heap := s₂.heap, slotsUsed := s₂.slotsUsed } : State).setVm s₂.vm).frames = .java g₀ :: r := hr
  rcases hq' with ⟨hqc, L, hfe, hL⟩ | ⟨q, rfl, E, ce, L, hx, hce, hcv, hcl, hW₂, hsm, hL⟩
  · obtain ⟨⟨v, rfl⟩, hW₂, e2, q2, q3, q4, q5, q6⟩ := id hfe
    have e3 : s₂ = ({ (U.calling g mk a).setFrames s₂.frames with heap := s₂.heap, slotsUsed := s₂.slotsUsed } : State).setVm s₂.vm := by
      have : s₂ = ({ s₂ with vm := (U.calling g mk a).vm } : State).setVm s₂.vm := rfl
      rw [e2] at this
      exact this
    obtain ⟨c₂, i₂, len₂, hc₂, hd₂, hf₂⟩ := hend
    have hW' : U.WarmedH s₂.vm := hW₂
    have hcc : c₂ = c := by
      have h1 : s₂.code? g.method = U.code? g.method := by
        rw [State.code?_eq, State.code?_eq, hW'.alike.method?]
      exact Option.some.inj (hc₂.symm.trans (h1.trans h.code))
    subst hcc
    have hlen : len₂ = len := by rw [hdg] at hd₂; cases hd₂; rfl
    subst hlen
    have hs₂ : s₂ = (({ U with heap := s₂.heap, slotsUsed := s₂.slotsUsed } : State).setVm s₂.vm).setTop { g with pc := g.pc + len₂, stack := v.toList ++ g.stack } := by
      refine e3.trans ?_
      rw [hf₂, State.calling_eq h.top, State.setFrames_setFrames, State.setTop_of_frames _ hr', hr]
      rfl
    have hsame : U.sameButNew ({ U with heap := s₂.heap, slotsUsed := s₂.slotsUsed } : State) L mc ms := by
      refine ⟨?_, q2, q3, q4, q5, q6⟩
      obtain ⟨t, ht, -⟩ := State.frames_cons hr
      show ({ U with heap := s₂.heap, slotsUsed := s₂.slotsUsed } : State) = { U.setFrames U.frames with heap := s₂.heap, slotsUsed := s₂.slotsUsed }
      rw [State.setFrames_self ht]
    subst hg
    refine Or.inl ⟨v, ⟨(({ U with heap := s₂.heap, slotsUsed := s₂.slotsUsed } : State).setVm s₂.vm), Ls ++ L, c0 + mc, s0 + ms⟩,
      ⟨X.admits, X.cas, X.clock, X.frames, X.room, X.hears, X.method, X.code, (X.here.setHeapUsed s₂.heap s₂.slotsUsed).setVm hW'.alike, X.tail, State.WarmedH.trans X.warmed hW', X.limits, X.bytes, X.same.trans (hsame.setVm s.vm)⟩,
      ⟨g, mk, s₂, L, rfl, rfl, hqc, rfl, hL, rfl, rfl⟩, ?_⟩
    show Steps p.tables e below _ ((({ U with heap := s₂.heap, slotsUsed := s₂.slotsUsed } : State).setVm s₂.vm).setTop { g with pc := g.pc + len₂, stack := v.toList ++ g.stack })
    rw [← hs₂]
    exact hsteps
  · obtain ⟨e2, q2, q3, q4, q5, q6⟩ := id hsm
    have e3 : s₂ = ({ (U.calling g mk a).setFrames s₂.frames with heap := s₂.heap, slotsUsed := s₂.slotsUsed } : State).setVm s₂.vm := by
      have : s₂ = ({ s₂ with vm := (U.calling g mk a).vm } : State).setVm s₂.vm := rfl
      rw [e2] at this
      exact this
    have hf₂ : s₂.frames = .throwing q :: .java g :: U.frames.tail := hend
    have hW' : U.WarmedH s₂.vm := hW₂
    have hs₂ : s₂ = ((({ U with heap := s₂.heap, slotsUsed := s₂.slotsUsed } : State).setVm s₂.vm).setTop g).pushFrame (.throwing q) := by
      refine e3.trans ?_
      rw [hf₂, State.calling_eq h.top, State.setFrames_setFrames, State.pushFrame, State.frames_setTop _ hr', State.setTop_of_frames _ hr', State.setFrames_setFrames, hr]
      rfl
    have hsame : U.sameButNew ({ U with heap := s₂.heap, slotsUsed := s₂.slotsUsed } : State) L mc ms := by
      refine ⟨?_, q2, q3, q4, q5, q6⟩
      obtain ⟨t, ht, -⟩ := State.frames_cons hr
      show ({ U with heap := s₂.heap, slotsUsed := s₂.slotsUsed } : State) = { U.setFrames U.frames with heap := s₂.heap, slotsUsed := s₂.slotsUsed }
      rw [State.setFrames_self ht]
    subst hg
    refine Or.inr ⟨q, ⟨(({ U with heap := s₂.heap, slotsUsed := s₂.slotsUsed } : State).setVm s₂.vm), Ls ++ L, c0 + mc, s0 + ms⟩,
      ⟨X.admits, X.cas, X.clock, X.frames, X.room, X.hears, X.method, X.code, (X.here.setHeapUsed s₂.heap s₂.slotsUsed).setVm hW'.alike, X.tail, State.WarmedH.trans X.warmed hW', X.limits, X.bytes, X.same.trans (hsame.setVm s.vm)⟩,
      ⟨g, mk, s₂, L, E, ce, rfl, rfl, hx, hce, hcv, hcl, rfl, hL, rfl, rfl⟩, ?_⟩
    show Steps p.tables e below _ (((({ U with heap := s₂.heap, slotsUsed := s₂.slotsUsed } : State).setVm s₂.vm).setTop g).pushFrame (.throwing q))
    rw [← hs₂]
    exact hsteps
end
variable {p : Program} {l : Launch} {e : Env} {R : Room} {s : State} {m : MethodId} {args : Array Value} {below : List Frame} {meth : Method} {c : Code} {T : State} {H : Heap} {locs : List Loc} {cells slots : Nat}
theorem vx_callVX (X : Stand p l e R s m args below meth c T locs cells slots) (hexec : p.tables.exec = Jvm.exec) {own C : String} {index : Nat} {y : MethodName} {bytes : ByteArray} {maxL : Nat} {ret : Option FieldType} {hh : List (Nat × Nat × Nat × Nat)}
    (hown : s.vm.findClass own = some m.cls) (hlink : (Cond.methodLink own index y).before args s = true) (hinst : (Cond.instanceMethod y).before args s = true) (hsel : (Cond.selects C y y).before args s = true)
    (hcode : (Cond.codeWith y bytes maxL ret hh).before args s = true) (hy : y.cls ≠ "java/lang/invoke/MethodHandle" ∧ y.cls ≠ "java/lang/invoke/VarHandle")
    {W9 : Nat} {Pre : Pt → Array Value → Prop} {Post : Pt → Array Value → Option Value → Pt → Prop} {PostX : Pt → Array Value → Addr → Pt → Prop} (hK : vx_Back l R p e below s args y 3 W9 Pre Post PostX)
    {b : Addr} {cellB : Cell} (hcell : T.heap[b]? = some cellB) (hobj : cellB.vm.isStatics = false) (hcls : s.vm.findClass C = some cellB.cls)
    {g : JFrame} (hg : g.method = m) (hsize : g.locals.size = c.maxLocals) {argsL rest : List Value} (hlen : ∀ sig, parseMethodDescriptor y.desc = some sig → argsL.length = sig.parameters.length)
    (hstack : g.stack = argsL.reverse ++ .ref b :: rest) (hW : 2 * g.monitorRoom + (rest.map fun v => v.category).sum ≤ W9) (hdg : decode c.code g.pc = .ok (.invokevirtual index, 3))
    (hpre : ∀ vm₁, s.WarmedH vm₁ → Pre ⟨T.setVm vm₁, locs, cells, slots⟩ (Value.ref b :: argsL).toArray) :
    (∃ (v : Option Value) (vm₁ : Vm) (B : Pt), s.WarmedH vm₁ ∧ Stand p l e R s m args below meth c B.U B.locs B.cells B.slots ∧ Post ⟨T.setVm vm₁, locs, cells, slots⟩ (Value.ref b :: argsL).toArray v B ∧
      ∀ target, Steps p.tables e below (B.U.setTop { g with pc := g.pc + 3, stack := v.toList ++ rest }) target → Steps p.tables e below (T.setTop g) target) ∨
    (∃ (q : Addr) (vm₁ : Vm) (B : Pt), s.WarmedH vm₁ ∧ Stand p l e R s m args below meth c B.U B.locs B.cells B.slots ∧ PostX ⟨T.setVm vm₁, locs, cells, slots⟩ (Value.ref b :: argsL).toArray q B ∧
      Steps p.tables e below (T.setTop g) ((B.U.setTop { g with stack := rest }).pushFrame (.throwing q))) := by
  obtain ⟨mk, methM, hnamed, hmethM, hstM, habM⟩ := Cond.instanceMethod_spec hinst
  obtain ⟨m8, methM', cM, hn8, hmethM', -, -, -, -, -, -, hsigM⟩ := Cond.codeWith_spec hcode
  cases Option.some.inj (hn8.symm.trans hnamed)
  cases hmethM.symm.trans hmethM'
  obtain ⟨c2, r2, m2, q1, q2, q3, q4, kP, hkP, hkPi⟩ := Cond.selects_spec hsel
  cases hcls.symm.trans q1
  cases (State.methodFound?_of_named hnamed hy).symm.trans q2
  cases hnamed.symm.trans q3
  have hselP : selectMethod e.platform s.vm cellB.cls mk = .method mk := by rw [Launch.admits_selectMethod X.admits]; exact q4
  obtain ⟨vm₁, X₁, hstep₁⟩ := X.invokevirtual hexec hown hlink hnamed hmethM hstM hkP hkPi hy (a := b) (cell := cellB) hcell
    (fun z h => by rw [h] at hobj; cases hobj) hselP hmethM habM hkP hkPi (g := g) hg (argsL := argsL) (rest := rest) (hlen _ hsigM) hstack hdg
  rcases hK m meth c ⟨T.setVm vm₁, locs, cells, slots⟩ { g with stack := rest } (.invokevirtual index) mk (Value.ref b :: argsL).toArray X₁ hg hsize hdg hW (X₁.named hnamed) (hpre vm₁ X₁.warmed) with ⟨v, B, X', hpost, hsteps⟩ | ⟨q, B, X', hpost, hsteps⟩
  · exact Or.inl ⟨v, vm₁, B, X₁.warmed, X', hpost, fun target h => hstep₁ _ fun acts => by rw [doInvoke_state]; exact hsteps.trans h⟩
  · exact Or.inr ⟨q, vm₁, B, X₁.warmed, X', hpost, hstep₁ _ fun acts => by rw [doInvoke_state]; exact hsteps⟩
theorem vx_callSX (X : Stand p l e R s m args below meth c T locs cells slots) (hexec : p.tables.exec = Jvm.exec) {own : String} {index : Nat} {y : MethodName} {bytes : ByteArray} {maxL : Nat} {ret : Option FieldType} {hh : List (Nat × Nat × Nat × Nat)}
    (hown : s.vm.findClass own = some m.cls) (hlink : (Cond.methodLink own index y).before args s = true) (hstat : (Cond.static y).before args s = true) (hinit : (Cond.initialized y.cls).before args s = true)
    (hcode : (Cond.codeWith y bytes maxL ret hh).before args s = true) (hy : y.cls ≠ "java/lang/invoke/MethodHandle" ∧ y.cls ≠ "java/lang/invoke/VarHandle")
    {W9 : Nat} {Pre : Pt → Array Value → Prop} {Post : Pt → Array Value → Option Value → Pt → Prop} {PostX : Pt → Array Value → Addr → Pt → Prop} (hK : vx_Back l R p e below s args y 3 W9 Pre Post PostX)
    {g : JFrame} (hg : g.method = m) (hsize : g.locals.size = c.maxLocals) {argsL rest : List Value} (hlen : ∀ sig, parseMethodDescriptor y.desc = some sig → argsL.length = sig.parameters.length)
    (hstack : g.stack = argsL.reverse ++ rest) (hW : 2 * g.monitorRoom + (rest.map fun v => v.category).sum ≤ W9) (hdg : decode c.code g.pc = .ok (.invokestatic index, 3))
    (hpre : ∀ vm₁, s.WarmedH vm₁ → Pre ⟨T.setVm vm₁, locs, cells, slots⟩ argsL.toArray) :
    (∃ (v : Option Value) (vm₁ : Vm) (B : Pt), s.WarmedH vm₁ ∧ Stand p l e R s m args below meth c B.U B.locs B.cells B.slots ∧ Post ⟨T.setVm vm₁, locs, cells, slots⟩ argsL.toArray v B ∧
      ∀ target, Steps p.tables e below (B.U.setTop { g with pc := g.pc + 3, stack := v.toList ++ rest }) target → Steps p.tables e below (T.setTop g) target) ∨
    (∃ (q : Addr) (vm₁ : Vm) (B : Pt), s.WarmedH vm₁ ∧ Stand p l e R s m args below meth c B.U B.locs B.cells B.slots ∧ PostX ⟨T.setVm vm₁, locs, cells, slots⟩ argsL.toArray q B ∧
      Steps p.tables e below (T.setTop g) ((B.U.setTop { g with stack := rest }).pushFrame (.throwing q))) := by
  obtain ⟨mk, methM, cM, hnamed, hmethM, -, -, -, -, -, -, hsigM⟩ := Cond.codeWith_spec hcode
  have hstatic : methM.isStatic = true := Cond.static_spec hnamed hmethM hstat
  obtain ⟨kP, hkP, -⟩ := className_of_methodNamed hnamed
  have hinitP : kP.init = .initialized := Cond.initialized_spec (findClass_of_methodNamed hnamed) hkP hinit
  obtain ⟨vm₁, X₁, hstep₁⟩ := X.invokestatic hexec hown hlink hnamed hmethM hstatic hkP hinitP hy (g := g) hg (argsL := argsL) (rest := rest) (hlen _ hsigM) hstack hdg
  rcases hK m meth c ⟨T.setVm vm₁, locs, cells, slots⟩ { g with stack := rest } (.invokestatic index) mk argsL.toArray X₁ hg hsize hdg hW (X₁.named hnamed) (hpre vm₁ X₁.warmed) with ⟨v, B, X', hpost, hsteps⟩ | ⟨q, B, X', hpost, hsteps⟩
  · exact Or.inl ⟨v, vm₁, B, X₁.warmed, X', hpost, fun target h => hstep₁ _ fun acts => by rw [doInvoke_state]; exact hsteps.trans h⟩
  · exact Or.inr ⟨q, vm₁, B, X₁.warmed, X', hpost, hstep₁ _ fun acts => by rw [doInvoke_state]; exact hsteps⟩
theorem vx_callVW (X : Stand p l e R s m args below meth c T locs cells slots) (hexec : p.tables.exec = Jvm.exec) {own C : String} {index : Nat} {y : MethodName} {bytes : ByteArray} {maxL : Nat} {ret : Option FieldType} {hh : List (Nat × Nat × Nat × Nat)}
    (hown : s.vm.findClass own = some m.cls) (hlink : (Cond.methodLink own index y).before args s = true) (hinst : (Cond.instanceMethod y).before args s = true) (hsel : (Cond.selects C y y).before args s = true)
    (hcode : (Cond.codeWith y bytes maxL ret hh).before args s = true) (hy : y.cls ≠ "java/lang/invoke/MethodHandle" ∧ y.cls ≠ "java/lang/invoke/VarHandle")
    {W9 : Nat} {Pre : Pt → Array Value → Prop} {Post : Pt → Array Value → Option Value → Pt → Prop} (hK : Back l R p e below s args y 3 W9 Pre Post)
    {b : Addr} {cellB : Cell} (hcell : T.heap[b]? = some cellB) (hobj : cellB.vm.isStatics = false) (hcls : s.vm.findClass C = some cellB.cls)
    {g : JFrame} (hg : g.method = m) (hsize : g.locals.size = c.maxLocals) {argsL rest : List Value} (hlen : ∀ sig, parseMethodDescriptor y.desc = some sig → argsL.length = sig.parameters.length)
    (hstack : g.stack = argsL.reverse ++ .ref b :: rest) (hW : 2 * g.monitorRoom + (rest.map fun v => v.category).sum ≤ W9) (hdg : decode c.code g.pc = .ok (.invokevirtual index, 3))
    (hpre : ∀ vm₁, s.WarmedH vm₁ → Pre ⟨T.setVm vm₁, locs, cells, slots⟩ (Value.ref b :: argsL).toArray) :
    ∃ (v : Option Value) (vm₁ : Vm) (B : Pt), s.WarmedH vm₁ ∧ Stand p l e R s m args below meth c B.U B.locs B.cells B.slots ∧ Post ⟨T.setVm vm₁, locs, cells, slots⟩ (Value.ref b :: argsL).toArray v B ∧
      ∀ target, Steps p.tables e below (B.U.setTop { g with pc := g.pc + 3, stack := v.toList ++ rest }) target → Steps p.tables e below (T.setTop g) target := by
  obtain ⟨mk, methM, hnamed, hmethM, hstM, habM⟩ := Cond.instanceMethod_spec hinst
  obtain ⟨m8, methM', cM, hn8, hmethM', -, -, -, -, -, -, hsigM⟩ := Cond.codeWith_spec hcode
  cases Option.some.inj (hn8.symm.trans hnamed)
  cases hmethM.symm.trans hmethM'
  obtain ⟨c2, r2, m2, q1, q2, q3, q4, kP, hkP, hkPi⟩ := Cond.selects_spec hsel
  cases hcls.symm.trans q1
  cases (State.methodFound?_of_named hnamed hy).symm.trans q2
  cases hnamed.symm.trans q3
  have hselP : selectMethod e.platform s.vm cellB.cls mk = .method mk := by rw [Launch.admits_selectMethod X.admits]; exact q4
  obtain ⟨vm₁, X₁, hstep₁⟩ := X.invokevirtual hexec hown hlink hnamed hmethM hstM hkP hkPi hy (a := b) (cell := cellB) hcell
    (fun z h => by rw [h] at hobj; cases hobj) hselP hmethM habM hkP hkPi (g := g) hg (argsL := argsL) (rest := rest) (hlen _ hsigM) hstack hdg
  obtain ⟨v, B, X', hpost, hsteps⟩ := hK m meth c ⟨T.setVm vm₁, locs, cells, slots⟩ { g with stack := rest } (.invokevirtual index) mk (Value.ref b :: argsL).toArray X₁ hg hsize hdg hW (X₁.named hnamed) (hpre vm₁ X₁.warmed)
  exact ⟨v, vm₁, B, X₁.warmed, X', hpost, fun target h => hstep₁ _ fun acts => by rw [doInvoke_state]; exact hsteps.trans h⟩
abbrev vx_CVW (R : Room) (s : State) (args : Array Value) (own C : String) (index : Nat) (y : MethodName) (bytes : ByteArray) (maxL : Nat) (ret : Option FieldType) (hh : List (Nat × Nat × Nat × Nat)) (ws : List Cond) (rm : Room) (mc ms n : Nat) : Prop :=
  (rm.cells = mc ∧ rm.slots = ms ∧ rm.frames + 1 ≤ R.frames ∧ 8 + (maxL + 11) + rm.locals ≤ R.locals ∧ (∀ w ∈ ws, ∀ (a' : Array Value) (U : State), s.WarmedH U.vm → w.before a' U = true) ∧ Cond.codeWith y bytes maxL ret hh ∈ ws) ∧
  (Cond.codeWith y bytes maxL ret hh).before args s = true ∧ (Cond.initialized y.cls).before args s = true ∧ (y.cls ≠ "java/lang/invoke/MethodHandle" ∧ y.cls ≠ "java/lang/invoke/VarHandle") ∧
  (∀ sig, parseMethodDescriptor y.desc = some sig → n = sig.parameters.length) ∧ (Cond.methodLink own index y).before args s = true ∧ (Cond.instanceMethod y).before args s = true ∧ (Cond.selects C y y).before args s = true
theorem vx_cwVW {own C : String} {index maxL mc ms : Nat} {y : MethodName} {bytes : ByteArray} {ret : Option FieldType} {hh : List (Nat × Nat × Nat × Nat)} {Ts ws ws' : List Cond} {rm : Room} (n : Nat) (ht : ∀ w ∈ Ts, w.before args s = true) (hT : GoodIn Ts (wsV own index C y ws)) (hw : ws = Cond.codeWith y bytes maxL ret hh :: ws') (hrc : rm.cells = mc) (hrs : rm.slots = ms)
    (hd : y.cls = C ∧ y.cls ≠ "java/lang/invoke/MethodHandle" ∧ y.cls ≠ "java/lang/invoke/VarHandle" ∧ (parseMethodDescriptor y.desc).map (fun d => d.parameters.length) = some n) (hR : rm.frames + 1 ≤ R.frames ∧ 8 + (maxL + 11) + rm.locals ≤ R.locals) :
    vx_CVW R s args own C index y bytes maxL ret hh ws rm mc ms n := by
  obtain ⟨hC, hd⟩ := hd
  subst hC
  have ok : ∀ w ∈ wsV own index y.cls y ws, w.before args s = true := fun w h => ht w (hT w h).1
  have hG : GoodIn Ts ws := fun w h => hT w (by unfold wsV; exact List.mem_append_right _ h)
  have hc : Cond.codeWith y bytes maxL ret hh ∈ ws := by rw [hw]; exact List.mem_cons_self
  refine ⟨⟨hrc, hrs, hR.1, hR.2, pay_in ht hG, hc⟩, ht _ (hG _ hc).1, ok _ (by simp [wsV]), ⟨hd.1, hd.2.1⟩, fun sig h => ?_, ok _ (by simp [wsV]), ok _ (by simp [wsV]), ok _ (by simp [wsV])⟩
  have h2 := hd.2.2
  rw [h] at h2
  exact (Option.some.inj h2).symm
theorem vx_runVW {y : MethodName} {bytes cc : ByteArray} {maxL nL mc ms n index : Nat} {ret : Option FieldType} {hh : List (Nat × Nat × Nat × Nat)} {ws : List Cond} {rm : Room} {Pc : Array Value → State → Prop} {Qc : Array Value → State → Outcome → State → Prop} {free : Addr → Prop} {Ts : List Cond} {own C : String} {b : Addr} {As rest : List Value} {g : JFrame}
    (S : CallFix p m c cc nL s args Ts own) (hM : Met l y ws rm Pc Qc mc ms free) (cw : vx_CVW R s args own C index y bytes maxL ret hh ws rm mc ms n) (hp : PreV s H C b Pc As)
    (hg : g.method = m) (hn : As.length = n) (hsize : g.locals.size = nL) (hstack : g.stack = As.reverse ++ .ref b :: rest) (hW : 2 * g.monitorRoom + (rest.map fun v => v.category).sum ≤ 8) (hdg : decode cc g.pc = .ok (.invokevirtual index, 3)) (hf : cells + mc ≤ R.cells ∧ slots + ms ≤ R.slots) :
    va_Run p l e R s m args below meth c H locs cells slots mc ms g rest (Qc (Value.ref b :: As).toArray) free := by
  obtain ⟨⟨hrc, hrs, hfr, hlo, hws, hcw⟩, hcode, hini, hy, hlen, hl, hin, hse⟩ := cw
  have hK : Back l R p e below s args y 3 8 (PreOf R mc ms Pc) (PostOf Qc mc ms free) := va_backW (hh := hh) (bytes := bytes) (maxL := maxL) (ret := ret) hM hp.1 hrc hrs hfr hlo hws hcw (fun a' U hW => word_at hW (Or.inl (by first | rfl | simp [Cond.onTables, Cond.keeps, Cond.steady])) hini)
  obtain ⟨hx, hb, hml, ho, -⟩ := S
  obtain ⟨-, ⟨cellB, hcB, hoB, hclB⟩, hPc⟩ := hp
  intro T hT X
  obtain ⟨v, vm₁, ⟨U', l2, c2, s2⟩, hW₁, X', ⟨g', mk, t, L, e1, e2, hq, h1, hL, h2, h3⟩, st⟩ := vx_callVW X hx (C := C) (hh := hh) (bytes := bytes) (maxL := maxL) (ret := ret) ho hl hin hse hcode hy hK (by rw [hT]; exact hcB) hoB hclB hg (hsize.trans hml.symm) (argsL := As) (rest := rest) (fun sig h => hn.trans (hlen sig h)) hstack hW (by rw [hb]; exact hdg)
    (fun vm₁ hW₁ => ⟨hf.1, hf.2, hPc (T.setVm vm₁) hT hW₁⟩)
  dsimp only [Pt.U, Pt.locs, Pt.cells, Pt.slots] at X' e1 e2 h1 h2 h3 st
  subst h1; subst h2; subst h3
  exact ⟨v, (T.setVm vm₁).calling g' mk (Value.ref b :: As).toArray, t, U', L, hT, X', hL, e1, e2, hq, st⟩
section
variable {y : MethodName} {bytes cc : ByteArray} {maxL nL mc ms n index : Nat} {ret : Option FieldType} {ws : List Cond} {rm : Room} {Pc : Array Value → State → Prop} {Qc : Array Value → State → Outcome → State → Prop} {XC : String → State → State → Prop} {free : Addr → Prop} {Ts : List Cond} {own C : String} {b : Addr} {As rest : List Value} {g : JFrame}
theorem vx_runVX {hh : List (Nat × Nat × Nat × Nat)} (S : CallFix p m c cc nL s args Ts own) (hM : vx_Met l y ws rm Pc Qc XC mc ms free) (cw : vx_CVW R s args own C index y bytes maxL ret hh ws rm mc ms n) (hp : PreV s H C b Pc As)
    (hg : g.method = m) (hn : As.length = n) (hsize : g.locals.size = nL) (hstack : g.stack = As.reverse ++ .ref b :: rest) (hW : 2 * g.monitorRoom + (rest.map fun v => v.category).sum ≤ 8) (hdg : decode cc g.pc = .ok (.invokevirtual index, 3)) (hf : cells + mc ≤ R.cells ∧ slots + ms ≤ R.slots) :
    vx_Run p l e R s m args below meth c H locs cells slots mc ms g rest (Qc (Value.ref b :: As).toArray) XC free := by
  obtain ⟨⟨hrc, hrs, hfr, hlo, hws, hcw⟩, hcode, hini, hy, hlen, hl, hin, hse⟩ := cw
  have hK : vx_Back l R p e below s args y 3 8 (PreOf R mc ms Pc) (PostOf Qc mc ms free) (vx_Post XC mc ms free) := vx_backW (hh := hh) (bytes := bytes) (maxL := maxL) (ret := ret) hM hp.1 hrc hrs hfr hlo hws hcw (fun a' U hW => word_at hW (Or.inl (by first | rfl | simp [Cond.onTables, Cond.keeps, Cond.steady])) hini)
  obtain ⟨hx, hb, hml, ho, -⟩ := S
  obtain ⟨-, ⟨cellB, hcB, hoB, hclB⟩, hPc⟩ := hp
  intro T hT X
  rcases vx_callVX X hx (C := C) (hh := hh) (bytes := bytes) (maxL := maxL) (ret := ret) ho hl hin hse hcode hy hK (by rw [hT]; exact hcB) hoB hclB hg (hsize.trans hml.symm) (argsL := As) (rest := rest) (fun sig h => hn.trans (hlen sig h)) hstack hW (by rw [hb]; exact hdg)
    (fun vm₁ hW₁ => ⟨hf.1, hf.2, hPc (T.setVm vm₁) hT hW₁⟩) with ⟨v, vm₁, ⟨U', l2, c2, s2⟩, hW₁, X', ⟨g', mk, t, L, e1, e2, hq, h1, hL, h2, h3⟩, st⟩ | ⟨q, vm₁, ⟨U', l2, c2, s2⟩, hW₁, X', ⟨g', mk, t, L, E, ce, e1, e2, hq, hce, hcv, hcl, h1, hL, h2, h3⟩, st⟩
  · dsimp only [Pt.U, Pt.locs, Pt.cells, Pt.slots] at X' e1 e2 h1 h2 h3 st
    subst h1; subst h2; subst h3
    exact Or.inl ⟨v, (T.setVm vm₁).calling g' mk (Value.ref b :: As).toArray, t, U', L, hT, X', hL, e1, e2, hq, st⟩
  · dsimp only [Pt.U, Pt.locs, Pt.cells, Pt.slots] at X' e1 e2 h1 h2 h3 st hcl
    subst h1; subst h2; subst h3
    exact Or.inr ⟨q, (T.setVm vm₁).calling g' mk (Value.ref b :: As).toArray, t, U', L, E, ce, hT, X', hL, e1, e2, hq, hce, hcv, vx_cls hW₁ hcl, st⟩
theorem vx_runSX {hh : List (Nat × Nat × Nat × Nat)} (S : CallFix p m c cc nL s args Ts own) (hM : vx_Met l y ws rm Pc Qc XC mc ms free) (cw : vx_CSW R s args own index y bytes maxL ret hh ws rm mc ms n) (hp : PreS s H Pc As)
    (hg : g.method = m) (hn : As.length = n) (hsize : g.locals.size = nL) (hstack : g.stack = As.reverse ++ rest) (hW : 2 * g.monitorRoom + (rest.map fun v => v.category).sum ≤ 8) (hdg : decode cc g.pc = .ok (.invokestatic index, 3)) (hf : cells + mc ≤ R.cells ∧ slots + ms ≤ R.slots) :
    vx_Run p l e R s m args below meth c H locs cells slots mc ms g rest (Qc As.toArray) XC free := by
  obtain ⟨⟨hrc, hrs, hfr, hlo, hws, hcw⟩, hcode, hini, hy, hlen, hl, hstt⟩ := cw
  have hK : vx_Back l R p e below s args y 3 8 (PreOf R mc ms Pc) (PostOf Qc mc ms free) (vx_Post XC mc ms free) := vx_backW (hh := hh) (bytes := bytes) (maxL := maxL) (ret := ret) hM hp.1 hrc hrs hfr hlo hws hcw (fun a' U hW => word_at hW (Or.inl (by first | rfl | simp [Cond.onTables, Cond.keeps, Cond.steady])) hini)
  obtain ⟨hx, hb, hml, ho, -⟩ := S
  intro T hT X
  rcases vx_callSX X hx (hh := hh) (bytes := bytes) (maxL := maxL) (ret := ret) ho hl hstt hini hcode hy hK hg (hsize.trans hml.symm) (argsL := As) (rest := rest) (fun sig h => hn.trans (hlen sig h)) hstack hW (by rw [hb]; exact hdg)
    (fun vm₁ hW₁ => ⟨hf.1, hf.2, hp.2 (T.setVm vm₁) hT hW₁⟩) with ⟨v, vm₁, ⟨U', l2, c2, s2⟩, hW₁, X', ⟨g', mk, t, L, e1, e2, hq, h1, hL, h2, h3⟩, st⟩ | ⟨q, vm₁, ⟨U', l2, c2, s2⟩, hW₁, X', ⟨g', mk, t, L, E, ce, e1, e2, hq, hce, hcv, hcl, h1, hL, h2, h3⟩, st⟩
  · dsimp only [Pt.U, Pt.locs, Pt.cells, Pt.slots] at X' e1 e2 h1 h2 h3 st
    subst h1; subst h2; subst h3
    exact Or.inl ⟨v, (T.setVm vm₁).calling g' mk As.toArray, t, U', L, hT, X', hL, e1, e2, hq, st⟩
  · dsimp only [Pt.U, Pt.locs, Pt.cells, Pt.slots] at X' e1 e2 h1 h2 h3 st hcl
    subst h1; subst h2; subst h3
    exact Or.inr ⟨q, (T.setVm vm₁).calling g' mk As.toArray, t, U', L, E, ce, hT, X', hL, e1, e2, hq, hce, hcv, vx_cls hW₁ hcl, st⟩
end
end VXH
theorem vx_ofWH {l : Launch} {y : MethodName} {ws ws' : List Cond} {rm : Room} {Pc : Array Value → State → Prop} {Qc : Array Value → State → Outcome → State → Prop} {XC : String → State → State → Prop} {mc ms : Nat} {free : Addr → Prop} {cc : ByteArray} {maxL : Nat} {ret : Option FieldType} {hh : List (Nat × Nat × Nat × Nat)}
    (hy : plainName y.cls = true) (hw : ws = Cond.codeWith y cc maxL ret hh :: ws')
    (body : ∀ p e s m args below meth c s₁, BodyLoose p l y (headSpec ws rm) cc maxL ret e s m args below meth c s₁ → c.maxLocals = maxL → Pc args s →
      W p l e (headSpec ws rm).room s m args below meth c s.heap [] 0 0 (vx_MQ below Qc XC args s mc ms free) (entryFrame m args maxL)) : vx_Met l y ws rm Pc Qc XC mc ms free := by
  refine MetFree.of_bodyS (code := cc) (maxLocals := maxL) (ret := ret) hy ?_ ?_
  · intro args s m h hn
    obtain ⟨m9, meth, c, hn9, h1, h2, h3, h4, -, h5, h6, -⟩ := Cond.codeWith_spec (atoms_spec (ws := ws) h _ (by rw [hw]; exact List.mem_cons_self))
    cases hn.symm.trans hn9
    exact ⟨meth, c, h1, h2, h3, h4, h5, h6⟩
  · intro p e s m args below meth c s₁ B hml hP _
    have hh0 : s₁.heap = s.heap := by rw [B.state]; rfl
    obtain ⟨t, a1, o, b1, b2, b3⟩ := body p e s m args below meth c s₁ B hml hP s₁ hh0 (Stand.of_body B)
    exact ⟨t, o, a1, b1, b2, b3⟩
/-! ===== END ===== -/
end
section
def RX0 : String := "SlabHouse$Blocks"
def TX0 : u_T := fun k => match k with
  | 0 => ("SlabHouse$Blocks", "freeOrder", "[I", true)
  | _ => ("SlabHouse$Blocks", "freePages", "I", false)
def tyX0 : Nat → FieldType := fun k => match k with
  | 0 => .array .int
  | _ => .int
abbrev wsX00 : List Cond := u_ws RX0 TX0 2
theorem nmX0 : ∀ a, a < 2 → ∀ b, b < 2 → a ≠ b → (TX0 a).2.1 ≠ (TX0 b).2.1 := by decide +kernel
theorem tyX0_ok : ∀ k, k < 2 → parseFieldDescriptor (TX0 k).2.2.1 = some (tyX0 k) := by decide +kernel
abbrev cX0_init : ByteArray := prog_2_method_1_code
def yX0_init : MethodName := ⟨RX0, "<init>", "()V"⟩
abbrev cX0_freePage : ByteArray := prog_2_method_2_code
def yX0_freePage : MethodName := ⟨RX0, "freePage", "(II)I"⟩
abbrev cX0_take : ByteArray := prog_2_method_3_code
def yX0_take : MethodName := ⟨RX0, "take", "(I)I"⟩
abbrev cX0_halve : ByteArray := prog_2_method_4_code
def yX0_halve : MethodName := ⟨RX0, "halve", "(III)V"⟩
abbrev cX0_giveBack : ByteArray := prog_2_method_5_code
def yX0_giveBack : MethodName := ⟨RX0, "giveBack", "(II)V"⟩
abbrev cX0_isFree : ByteArray := prog_2_method_6_code
def yX0_isFree : MethodName := ⟨RX0, "isFree", "(II)Z"⟩
abbrev cX0_setFree : ByteArray := prog_2_method_7_code
def yX0_setFree : MethodName := ⟨RX0, "setFree", "(II)V"⟩
def RX1 : String := "SlabHouse$Cache"
def TX1 : u_T := fun k => match k with
  | 0 => ("SlabHouse$Cache", "number", "I", true)
  | 1 => ("SlabHouse$Cache", "size", "I", true)
  | 2 => ("SlabHouse$Cache", "align", "I", true)
  | 3 => ("SlabHouse$Cache", "order", "I", true)
  | 4 => ("SlabHouse$Cache", "tag", "I", true)
  | 5 => ("SlabHouse$Cache", "stride", "I", true)
  | 6 => ("SlabHouse$Cache", "objects", "I", true)
  | 7 => ("SlabHouse$Cache", "colours", "I", true)
  | 8 => ("SlabHouse$Cache", "nextColour", "I", false)
  | 9 => ("SlabHouse$Cache", "slabs", "I", false)
  | 10 => ("SlabHouse$Cache", "live", "I", false)
  | 11 => ("SlabHouse$Cache", "misses", "I", false)
  | 12 => ("SlabHouse$Cache", "lists", "[LSlabHouse$SlabList;", true)
  | 13 => ("SlabHouse$Cache", "loaded", "[LSlabHouse$Magazine;", true)
  | 14 => ("SlabHouse$Cache", "previous", "[LSlabHouse$Magazine;", true)
  | 15 => ("SlabHouse$Cache", "depot", "[LSlabHouse$Magazine;", true)
  | _ => ("SlabHouse$Cache", "inDepot", "I", false)
def tyX1 : Nat → FieldType := fun k => match k with
  | 0 => .int
  | 1 => .int
  | 2 => .int
  | 3 => .int
  | 4 => .int
  | 5 => .int
  | 6 => .int
  | 7 => .int
  | 8 => .int
  | 9 => .int
  | 10 => .int
  | 11 => .int
  | 12 => .array (.object "SlabHouse$SlabList")
  | 13 => .array (.object "SlabHouse$Magazine")
  | 14 => .array (.object "SlabHouse$Magazine")
  | 15 => .array (.object "SlabHouse$Magazine")
  | _ => .int
abbrev wsX10 : List Cond := u_ws RX1 TX1 17
theorem nmX1 : ∀ a, a < 17 → ∀ b, b < 17 → a ≠ b → (TX1 a).2.1 ≠ (TX1 b).2.1 := by decide +kernel
theorem tyX1_ok : ∀ k, k < 17 → parseFieldDescriptor (TX1 k).2.2.1 = some (tyX1 k) := by decide +kernel
abbrev cX1_init : ByteArray := prog_3_method_1_code
def yX1_init : MethodName := ⟨RX1, "<init>", "(IIIII)V"⟩
abbrev cX1_relist : ByteArray := prog_3_method_2_code
def yX1_relist : MethodName := ⟨RX1, "relist", "(LSlabHouse$Slab;)V"⟩
abbrev cX1_unlist : ByteArray := prog_3_method_3_code
def yX1_unlist : MethodName := ⟨RX1, "unlist", "(LSlabHouse$Slab;)V"⟩
abbrev cX1_takeFromMagazines : ByteArray := prog_3_method_4_code
def yX1_takeFromMagazines : MethodName := ⟨RX1, "takeFromMagazines", "(I)I"⟩
abbrev cX1_putIntoMagazines : ByteArray := prog_3_method_5_code
def yX1_putIntoMagazines : MethodName := ⟨RX1, "putIntoMagazines", "(II)Z"⟩
abbrev cX1_changePlaces : ByteArray := prog_3_method_6_code
def yX1_changePlaces : MethodName := ⟨RX1, "changePlaces", "(I)V"⟩
abbrev cX1_takeFromDepot : ByteArray := prog_3_method_7_code
def yX1_takeFromDepot : MethodName := ⟨RX1, "takeFromDepot", "()LSlabHouse$Magazine;"⟩
abbrev cX1_inMagazines : ByteArray := prog_3_method_8_code
def yX1_inMagazines : MethodName := ⟨RX1, "inMagazines", "()I"⟩
def RX2 : String := "SlabHouse$Magazine"
def TX2 : u_T := fun k => match k with
  | 0 => ("SlabHouse$Magazine", "addresses", "[I", true)
  | _ => ("SlabHouse$Magazine", "count", "I", false)
def tyX2 : Nat → FieldType := fun k => match k with
  | 0 => .array .int
  | _ => .int
abbrev wsX20 : List Cond := u_ws RX2 TX2 2
theorem nmX2 : ∀ a, a < 2 → ∀ b, b < 2 → a ≠ b → (TX2 a).2.1 ≠ (TX2 b).2.1 := by decide +kernel
theorem tyX2_ok : ∀ k, k < 2 → parseFieldDescriptor (TX2 k).2.2.1 = some (tyX2 k) := by decide +kernel
abbrev cX2_init : ByteArray := prog_4_method_1_code
def yX2_init : MethodName := ⟨RX2, "<init>", "()V"⟩
abbrev cX2_isFull : ByteArray := prog_4_method_2_code
def yX2_isFull : MethodName := ⟨RX2, "isFull", "()Z"⟩
abbrev cX2_put : ByteArray := prog_4_method_3_code
def yX2_put : MethodName := ⟨RX2, "put", "(I)Z"⟩
abbrev cX2_takeLast : ByteArray := prog_4_method_4_code
def yX2_takeLast : MethodName := ⟨RX2, "takeLast", "()I"⟩
def RX3 : String := "SlabHouse$Slab"
def TX3 : u_T := fun k => match k with
  | 0 => ("SlabHouse$Slab", "owner", "LSlabHouse$Cache;", true)
  | 1 => ("SlabHouse$Slab", "page", "I", true)
  | 2 => ("SlabHouse$Slab", "colour", "I", true)
  | 3 => ("SlabHouse$Slab", "notFree", "I", false)
  | 4 => ("SlabHouse$Slab", "listed", "I", false)
  | 5 => ("SlabHouse$Slab", "before", "LSlabHouse$Slab;", false)
  | 6 => ("SlabHouse$Slab", "after", "LSlabHouse$Slab;", false)
  | 7 => ("SlabHouse$Slab", "neverTaken", "I", false)
  | 8 => ("SlabHouse$Slab", "cameBack", "I", false)
  | 9 => ("SlabHouse$Slab", "links", "[I", false)
  | _ => ("SlabHouse$Slab", "marks", "[I", false)
def tyX3 : Nat → FieldType := fun k => match k with
  | 0 => .object "SlabHouse$Cache"
  | 1 => .int
  | 2 => .int
  | 3 => .int
  | 4 => .int
  | 5 => .object "SlabHouse$Slab"
  | 6 => .object "SlabHouse$Slab"
  | 7 => .int
  | 8 => .int
  | 9 => .array .int
  | _ => .array .int
abbrev wsX30 : List Cond := u_ws RX3 TX3 11
theorem nmX3 : ∀ a, a < 11 → ∀ b, b < 11 → a ≠ b → (TX3 a).2.1 ≠ (TX3 b).2.1 := by decide +kernel
theorem tyX3_ok : ∀ k, k < 11 → parseFieldDescriptor (TX3 k).2.2.1 = some (tyX3 k) := by decide +kernel
abbrev cX3_init : ByteArray := prog_5_method_1_code
def yX3_init : MethodName := ⟨RX3, "<init>", "(LSlabHouse$Cache;II)V"⟩
abbrev cX3_firstByte : ByteArray := prog_5_method_2_code
def yX3_firstByte : MethodName := ⟨RX3, "firstByte", "()I"⟩
abbrev cX3_beginOf : ByteArray := prog_5_method_3_code
def yX3_beginOf : MethodName := ⟨RX3, "beginOf", "(I)I"⟩
abbrev cX3_numberOver : ByteArray := prog_5_method_4_code
def yX3_numberOver : MethodName := ⟨RX3, "numberOver", "(I)I"⟩
abbrev cX3_isLive : ByteArray := prog_5_method_5_code
def yX3_isLive : MethodName := ⟨RX3, "isLive", "(I)Z"⟩
abbrev cX3_liveBeginsAt : ByteArray := prog_5_method_6_code
def yX3_liveBeginsAt : MethodName := ⟨RX3, "liveBeginsAt", "(I)Z"⟩
abbrev cX3_markOf : ByteArray := prog_5_method_7_code
def yX3_markOf : MethodName := ⟨RX3, "markOf", "(I)I"⟩
abbrev cX3_changeMark : ByteArray := prog_5_method_8_code
def yX3_changeMark : MethodName := ⟨RX3, "changeMark", "(II)I"⟩
abbrev cX3_kind : ByteArray := prog_5_method_9_code
def yX3_kind : MethodName := ⟨RX3, "kind", "()I"⟩
abbrev cX3_firstFree : ByteArray := prog_5_method_10_code
def yX3_firstFree : MethodName := ⟨RX3, "firstFree", "()I"⟩
abbrev cX3_takeFirst : ByteArray := prog_5_method_11_code
def yX3_takeFirst : MethodName := ⟨RX3, "takeFirst", "()I"⟩
abbrev cX3_become : ByteArray := prog_5_method_12_code
def yX3_become : MethodName := ⟨RX3, "become", "(II)V"⟩
abbrev cX3_putFirst : ByteArray := prog_5_method_13_code
def yX3_putFirst : MethodName := ⟨RX3, "putFirst", "(I)V"⟩
abbrev cX3_wasTaken : ByteArray := prog_5_method_14_code
def yX3_wasTaken : MethodName := ⟨RX3, "wasTaken", "(I)Z"⟩
abbrev cX3_makeRoomForOne : ByteArray := prog_5_method_15_code
def yX3_makeRoomForOne : MethodName := ⟨RX3, "makeRoomForOne", "()V"⟩
def RX4 : String := "SlabHouse$SlabList"
def TX4 : u_T := fun k => match k with
  | _ => ("SlabHouse$SlabList", "first", "LSlabHouse$Slab;", false)
def tyX4 : Nat → FieldType := fun k => match k with
  | _ => .object "SlabHouse$Slab"
abbrev wsX40 : List Cond := u_ws RX4 TX4 1
theorem nmX4 : ∀ a, a < 1 → ∀ b, b < 1 → a ≠ b → (TX4 a).2.1 ≠ (TX4 b).2.1 := by decide +kernel
theorem tyX4_ok : ∀ k, k < 1 → parseFieldDescriptor (TX4 k).2.2.1 = some (tyX4 k) := by decide +kernel
abbrev cX4_init : ByteArray := prog_6_method_1_code
def yX4_init : MethodName := ⟨RX4, "<init>", "()V"⟩
abbrev cX4_putFirst : ByteArray := prog_6_method_2_code
def yX4_putFirst : MethodName := ⟨RX4, "putFirst", "(LSlabHouse$Slab;)V"⟩
abbrev cX4_remove : ByteArray := prog_6_method_3_code
def yX4_remove : MethodName := ⟨RX4, "remove", "(LSlabHouse$Slab;)V"⟩
abbrev cX4_slabAtPlace : ByteArray := prog_6_method_4_code
def yX4_slabAtPlace : MethodName := ⟨RX4, "slabAtPlace", "(I)LSlabHouse$Slab;"⟩
def RX5 : String := "SlabHouse"
def TX5 : u_T := fun k => match k with
  | 0 => ("SlabHouse", "blocks", "LSlabHouse$Blocks;", true)
  | 1 => ("SlabHouse", "slabOfPage", "[LSlabHouse$Slab;", true)
  | 2 => ("SlabHouse", "caches", "[LSlabHouse$Cache;", true)
  | _ => ("SlabHouse", "toldCaches", "I", false)
def tyX5 : Nat → FieldType := fun k => match k with
  | 0 => .object "SlabHouse$Blocks"
  | 1 => .array (.object "SlabHouse$Slab")
  | 2 => .array (.object "SlabHouse$Cache")
  | _ => .int
abbrev wsX50 : List Cond := u_ws RX5 TX5 4
theorem nmX5 : ∀ a, a < 4 → ∀ b, b < 4 → a ≠ b → (TX5 a).2.1 ≠ (TX5 b).2.1 := by decide +kernel
theorem tyX5_ok : ∀ k, k < 4 → parseFieldDescriptor (TX5 k).2.2.1 = some (tyX5 k) := by decide +kernel
abbrev cX5_init : ByteArray := prog_1_method_1_code
def yX5_init : MethodName := ⟨RX5, "<init>", "()V"⟩
abbrev cX5_cache : ByteArray := prog_1_method_2_code
def yX5_cache : MethodName := ⟨RX5, "cache", "(IIII)I"⟩
abbrev cX5_drop : ByteArray := prog_1_method_3_code
def yX5_drop : MethodName := ⟨RX5, "drop", "(I)I"⟩
abbrev cX5_allocate : ByteArray := prog_1_method_4_code
def yX5_allocate : MethodName := ⟨RX5, "allocate", "(II)I"⟩
abbrev cX5_free : ByteArray := prog_1_method_5_code
def yX5_free : MethodName := ⟨RX5, "free", "(II)I"⟩
abbrev cX5_mark : ByteArray := prog_1_method_6_code
def yX5_mark : MethodName := ⟨RX5, "mark", "(II)I"⟩
abbrev cX5_flush : ByteArray := prog_1_method_7_code
def yX5_flush : MethodName := ⟨RX5, "flush", "(I)I"⟩
abbrev cX5_empty : ByteArray := prog_1_method_8_code
def yX5_empty : MethodName := ⟨RX5, "empty", "(I)I"⟩
abbrev cX5_reap : ByteArray := prog_1_method_9_code
def yX5_reap : MethodName := ⟨RX5, "reap", "()I"⟩
abbrev cX5_cacheOf : ByteArray := prog_1_method_10_code
def yX5_cacheOf : MethodName := ⟨RX5, "cacheOf", "(I)I"⟩
abbrev cX5_objectOf : ByteArray := prog_1_method_11_code
def yX5_objectOf : MethodName := ⟨RX5, "objectOf", "(I)I"⟩
abbrev cX5_about : ByteArray := prog_1_method_12_code
def yX5_about : MethodName := ⟨RX5, "about", "(II)I"⟩
abbrev cX5_list : ByteArray := prog_1_method_13_code
def yX5_list : MethodName := ⟨RX5, "list", "(III)I"⟩
abbrev cX5_slab : ByteArray := prog_1_method_14_code
def yX5_slab : MethodName := ⟨RX5, "slab", "(II)I"⟩
abbrev cX5_magazine : ByteArray := prog_1_method_15_code
def yX5_magazine : MethodName := ⟨RX5, "magazine", "(III)I"⟩
abbrev cX5_block : ByteArray := prog_1_method_16_code
def yX5_block : MethodName := ⟨RX5, "block", "(II)I"⟩
abbrev cX5_pages : ByteArray := prog_1_method_17_code
def yX5_pages : MethodName := ⟨RX5, "pages", "(I)I"⟩
abbrev cX5_knownCache : ByteArray := prog_1_method_18_code
def yX5_knownCache : MethodName := ⟨RX5, "knownCache", "(I)LSlabHouse$Cache;"⟩
abbrev cX5_requireProcessor : ByteArray := prog_1_method_19_code
def yX5_requireProcessor : MethodName := ⟨RX5, "requireProcessor", "(I)V"⟩
abbrev cX5_roundedUp : ByteArray := prog_1_method_20_code
def yX5_roundedUp : MethodName := ⟨RX5, "roundedUp", "(II)I"⟩
abbrev cX5_slabAt : ByteArray := prog_1_method_21_code
def yX5_slabAt : MethodName := ⟨RX5, "slabAt", "(I)LSlabHouse$Slab;"⟩
abbrev cX5_takeFromSlabs : ByteArray := prog_1_method_22_code
def yX5_takeFromSlabs : MethodName := ⟨RX5, "takeFromSlabs", "(LSlabHouse$Cache;)I"⟩
abbrev cX5_makeSlab : ByteArray := prog_1_method_23_code
def yX5_makeSlab : MethodName := ⟨RX5, "makeSlab", "(LSlabHouse$Cache;)LSlabHouse$Slab;"⟩
abbrev cX5_unload : ByteArray := prog_1_method_24_code
def yX5_unload : MethodName := ⟨RX5, "unload", "(LSlabHouse$Magazine;)I"⟩
abbrev cX5_comeBack : ByteArray := prog_1_method_25_code
def yX5_comeBack : MethodName := ⟨RX5, "comeBack", "(I)V"⟩
abbrev cX5_giveBack : ByteArray := prog_1_method_26_code
def yX5_giveBack : MethodName := ⟨RX5, "giveBack", "(LSlabHouse$Slab;)I"⟩
abbrev cX5_setPages : ByteArray := prog_1_method_27_code
def yX5_setPages : MethodName := ⟨RX5, "setPages", "(LSlabHouse$Slab;LSlabHouse$Slab;)V"⟩
def RX6 : String := "SlabHouseModel"
def TX6 : u_T := fun k => match k with
  | 0 => ("SlabHouseModel", "fault", "I", false)
  | 1 => ("SlabHouseModel", "freeOrder", "[I", true)
  | 2 => ("SlabHouseModel", "slabPage", "[I", true)
  | 3 => ("SlabHouseModel", "told", "I", false)
  | 4 => ("SlabHouseModel", "isGone", "[Z", true)
  | 5 => ("SlabHouseModel", "sizes", "[I", true)
  | 6 => ("SlabHouseModel", "aligns", "[I", true)
  | 7 => ("SlabHouseModel", "orders", "[I", true)
  | 8 => ("SlabHouseModel", "tags", "[I", true)
  | 9 => ("SlabHouseModel", "strides", "[I", true)
  | 10 => ("SlabHouseModel", "fits", "[I", true)
  | 11 => ("SlabHouseModel", "colours", "[I", true)
  | 12 => ("SlabHouseModel", "nextColour", "[I", true)
  | 13 => ("SlabHouseModel", "misses", "[I", true)
  | 14 => ("SlabHouseModel", "owner", "[I", true)
  | 15 => ("SlabHouseModel", "colour", "[I", true)
  | 16 => ("SlabHouseModel", "used", "[I", true)
  | 17 => ("SlabHouseModel", "head", "[I", true)
  | 18 => ("SlabHouseModel", "state", "[I", true)
  | 19 => ("SlabHouseModel", "next", "[I", true)
  | 20 => ("SlabHouseModel", "marks", "[I", true)
  | 21 => ("SlabHouseModel", "listSize", "[I", true)
  | 22 => ("SlabHouseModel", "lists", "[I", true)
  | 23 => ("SlabHouseModel", "heldSize", "[I", true)
  | 24 => ("SlabHouseModel", "held", "[I", true)
  | 25 => ("SlabHouseModel", "depotSize", "[I", true)
  | _ => ("SlabHouseModel", "depot", "[I", true)
def tyX6 : Nat → FieldType := fun k => match k with
  | 0 => .int
  | 1 => .array .int
  | 2 => .array .int
  | 3 => .int
  | 4 => .array .boolean
  | 5 => .array .int
  | 6 => .array .int
  | 7 => .array .int
  | 8 => .array .int
  | 9 => .array .int
  | 10 => .array .int
  | 11 => .array .int
  | 12 => .array .int
  | 13 => .array .int
  | 14 => .array .int
  | 15 => .array .int
  | 16 => .array .int
  | 17 => .array .int
  | 18 => .array .int
  | 19 => .array .int
  | 20 => .array .int
  | 21 => .array .int
  | 22 => .array .int
  | 23 => .array .int
  | 24 => .array .int
  | 25 => .array .int
  | _ => .array .int
abbrev wsX60 : List Cond := u_ws RX6 TX6 27
theorem nmX6 : ∀ a, a < 27 → ∀ b, b < 27 → a ≠ b → (TX6 a).2.1 ≠ (TX6 b).2.1 := by decide +kernel
theorem tyX6_ok : ∀ k, k < 27 → parseFieldDescriptor (TX6 k).2.2.1 = some (tyX6 k) := by decide +kernel
abbrev cX6_init : ByteArray := prog_8_method_1_code
def yX6_init : MethodName := ⟨RX6, "<init>", "()V"⟩
abbrev cX6_thrown : ByteArray := prog_8_method_2_code
def yX6_thrown : MethodName := ⟨RX6, "thrown", "()I"⟩
abbrev cX6_refused : ByteArray := prog_8_method_3_code
def yX6_refused : MethodName := ⟨RX6, "refused", "(I)Z"⟩
abbrev cX6_isIn : ByteArray := prog_8_method_4_code
def yX6_isIn : MethodName := ⟨RX6, "isIn", "(III)Z"⟩
abbrev cX6_isCache : ByteArray := prog_8_method_5_code
def yX6_isCache : MethodName := ⟨RX6, "isCache", "(I)Z"⟩
abbrev cX6_takeBlock : ByteArray := prog_8_method_6_code
def yX6_takeBlock : MethodName := ⟨RX6, "takeBlock", "(I)I"⟩
abbrev cX6_giveBlock : ByteArray := prog_8_method_7_code
def yX6_giveBlock : MethodName := ⟨RX6, "giveBlock", "(II)V"⟩
abbrev cX6_enter : ByteArray := prog_8_method_8_code
def yX6_enter : MethodName := ⟨RX6, "enter", "(III)V"⟩
abbrev cX6_leave : ByteArray := prog_8_method_9_code
def yX6_leave : MethodName := ⟨RX6, "leave", "(III)V"⟩
abbrev cX6_whichOf : ByteArray := prog_8_method_10_code
def yX6_whichOf : MethodName := ⟨RX6, "whichOf", "(I)I"⟩
abbrev cX6_change : ByteArray := prog_8_method_11_code
def yX6_change : MethodName := ⟨RX6, "change", "(II)V"⟩
abbrev cX6_unitOf : ByteArray := prog_8_method_12_code
def yX6_unitOf : MethodName := ⟨RX6, "unitOf", "(II)I"⟩
abbrev cX6_makeSlab : ByteArray := prog_8_method_13_code
def yX6_makeSlab : MethodName := ⟨RX6, "makeSlab", "(I)Z"⟩
abbrev cX6_giveSlab : ByteArray := prog_8_method_14_code
def yX6_giveSlab : MethodName := ⟨RX6, "giveSlab", "(I)I"⟩
abbrev cX6_reapAll : ByteArray := prog_8_method_15_code
def yX6_reapAll : MethodName := ⟨RX6, "reapAll", "()I"⟩
abbrev cX6_fromSlabs : ByteArray := prog_8_method_16_code
def yX6_fromSlabs : MethodName := ⟨RX6, "fromSlabs", "(I)I"⟩
abbrev cX6_toSlab : ByteArray := prog_8_method_17_code
def yX6_toSlab : MethodName := ⟨RX6, "toSlab", "(I)V"⟩
abbrev cX6_cache : ByteArray := prog_8_method_18_code
def yX6_cache : MethodName := ⟨RX6, "cache", "(IIII)I"⟩
abbrev cX6_liveOf : ByteArray := prog_8_method_19_code
def yX6_liveOf : MethodName := ⟨RX6, "liveOf", "(I)I"⟩
abbrev cX6_emptyHeld : ByteArray := prog_8_method_20_code
def yX6_emptyHeld : MethodName := ⟨RX6, "emptyHeld", "(I)I"⟩
abbrev cX6_emptyDepot : ByteArray := prog_8_method_21_code
def yX6_emptyDepot : MethodName := ⟨RX6, "emptyDepot", "(I)I"⟩
abbrev cX6_drop : ByteArray := prog_8_method_22_code
def yX6_drop : MethodName := ⟨RX6, "drop", "(I)I"⟩
abbrev cX6_swap : ByteArray := prog_8_method_23_code
def yX6_swap : MethodName := ⟨RX6, "swap", "(I)V"⟩
abbrev cX6_allocate : ByteArray := prog_8_method_24_code
def yX6_allocate : MethodName := ⟨RX6, "allocate", "(II)I"⟩
abbrev cX6_isLive : ByteArray := prog_8_method_25_code
def yX6_isLive : MethodName := ⟨RX6, "isLive", "(I)Z"⟩
abbrev cX6_cacheAt : ByteArray := prog_8_method_26_code
def yX6_cacheAt : MethodName := ⟨RX6, "cacheAt", "(I)I"⟩
abbrev cX6_free : ByteArray := prog_8_method_27_code
def yX6_free : MethodName := ⟨RX6, "free", "(II)I"⟩
abbrev cX6_mark : ByteArray := prog_8_method_28_code
def yX6_mark : MethodName := ⟨RX6, "mark", "(II)I"⟩
abbrev cX6_flush : ByteArray := prog_8_method_29_code
def yX6_flush : MethodName := ⟨RX6, "flush", "(I)I"⟩
abbrev cX6_empty : ByteArray := prog_8_method_30_code
def yX6_empty : MethodName := ⟨RX6, "empty", "(I)I"⟩
abbrev cX6_reap : ByteArray := prog_8_method_31_code
def yX6_reap : MethodName := ⟨RX6, "reap", "()I"⟩
abbrev cX6_slabAt : ByteArray := prog_8_method_32_code
def yX6_slabAt : MethodName := ⟨RX6, "slabAt", "(I)I"⟩
abbrev cX6_cacheOf : ByteArray := prog_8_method_33_code
def yX6_cacheOf : MethodName := ⟨RX6, "cacheOf", "(I)I"⟩
abbrev cX6_objectOf : ByteArray := prog_8_method_34_code
def yX6_objectOf : MethodName := ⟨RX6, "objectOf", "(I)I"⟩
abbrev cX6_about : ByteArray := prog_8_method_35_code
def yX6_about : MethodName := ⟨RX6, "about", "(II)I"⟩
abbrev cX6_list : ByteArray := prog_8_method_36_code
def yX6_list : MethodName := ⟨RX6, "list", "(III)I"⟩
abbrev cX6_slab : ByteArray := prog_8_method_37_code
def yX6_slab : MethodName := ⟨RX6, "slab", "(II)I"⟩
abbrev cX6_magazine : ByteArray := prog_8_method_38_code
def yX6_magazine : MethodName := ⟨RX6, "magazine", "(III)I"⟩
abbrev cX6_block : ByteArray := prog_8_method_39_code
def yX6_block : MethodName := ⟨RX6, "block", "(II)I"⟩
abbrev cX6_pages : ByteArray := prog_8_method_40_code
def yX6_pages : MethodName := ⟨RX6, "pages", "(I)I"⟩
def RJx145de : String := "java/io/Serializable"
def TJx145de : u_T := fun k => match k with
  | _ => ("", "", "", false)
def tyJx145de : Nat → FieldType := fun k => match k with
  | _ => .int
abbrev wsJx145de0 : List Cond := u_ws RJx145de TJx145de 0
theorem nmJx145de : ∀ a, a < 0 → ∀ b, b < 0 → a ≠ b → (TJx145de a).2.1 ≠ (TJx145de b).2.1 := by decide +kernel
theorem tyJx145de_ok : ∀ k, k < 0 → parseFieldDescriptor (TJx145de k).2.2.1 = some (tyJx145de k) := by decide +kernel
def RJx8e188 : String := "java/lang/Cloneable"
def TJx8e188 : u_T := fun k => match k with
  | _ => ("", "", "", false)
def tyJx8e188 : Nat → FieldType := fun k => match k with
  | _ => .int
abbrev wsJx8e1880 : List Cond := u_ws RJx8e188 TJx8e188 0
theorem nmJx8e188 : ∀ a, a < 0 → ∀ b, b < 0 → a ≠ b → (TJx8e188 a).2.1 ≠ (TJx8e188 b).2.1 := by decide +kernel
theorem tyJx8e188_ok : ∀ k, k < 0 → parseFieldDescriptor (TJx8e188 k).2.2.1 = some (tyJx8e188 k) := by decide +kernel
def RJ9 : String := "java/lang/Math"
def TJ9 : u_T := fun k => match k with
  | _ => ("", "", "", false)
def tyJ9 : Nat → FieldType := fun k => match k with
  | _ => .int
abbrev wsJ90 : List Cond := u_ws RJ9 TJ9 0
theorem nmJ9 : ∀ a, a < 0 → ∀ b, b < 0 → a ≠ b → (TJ9 a).2.1 ≠ (TJ9 b).2.1 := by decide +kernel
theorem tyJ9_ok : ∀ k, k < 0 → parseFieldDescriptor (TJ9 k).2.2.1 = some (tyJ9 k) := by decide +kernel
abbrev cJ9_max_7cf53 : ByteArray := prog_14_method_65_code
def yJ9_max_7cf53 : MethodName := ⟨RJ9, "max", "(II)I"⟩
abbrev cJ9_min_7cf53 : ByteArray := prog_14_method_69_code
def yJ9_min_7cf53 : MethodName := ⟨RJ9, "min", "(II)I"⟩
def RJ0 : String := "java/lang/String"
def TJ0 : u_T := fun k => match k with
  | _ => ("", "", "", false)
def tyJ0 : Nat → FieldType := fun k => match k with
  | _ => .int
abbrev wsJ00 : List Cond := u_ws RJ0 TJ0 0
theorem nmJ0 : ∀ a, a < 0 → ∀ b, b < 0 → a ≠ b → (TJ0 a).2.1 ≠ (TJ0 b).2.1 := by decide +kernel
theorem tyJ0_ok : ∀ k, k < 0 → parseFieldDescriptor (TJ0 k).2.2.1 = some (tyJ0 k) := by decide +kernel
def RJ10 : String := "java/lang/System"
def TJ10 : u_T := fun k => match k with
  | _ => ("", "", "", false)
def tyJ10 : Nat → FieldType := fun k => match k with
  | _ => .int
abbrev wsJ100 : List Cond := u_ws RJ10 TJ10 0
theorem nmJ10 : ∀ a, a < 0 → ∀ b, b < 0 → a ≠ b → (TJ10 a).2.1 ≠ (TJ10 b).2.1 := by decide +kernel
theorem tyJ10_ok : ∀ k, k < 0 → parseFieldDescriptor (TJ10 k).2.2.1 = some (tyJ10 k) := by decide +kernel
def RJ7 : String := "java/util/Arrays"
def TJ7 : u_T := fun k => match k with
  | _ => ("", "", "", false)
def tyJ7 : Nat → FieldType := fun k => match k with
  | _ => .int
abbrev wsJ70 : List Cond := u_ws RJ7 TJ7 0
theorem nmJ7 : ∀ a, a < 0 → ∀ b, b < 0 → a ≠ b → (TJ7 a).2.1 ≠ (TJ7 b).2.1 := by decide +kernel
theorem tyJ7_ok : ∀ k, k < 0 → parseFieldDescriptor (TJ7 k).2.2.1 = some (tyJ7 k) := by decide +kernel
abbrev cJ7_fill_53178 : ByteArray := prog_19_method_103_code
def yJ7_fill_53178 : MethodName := ⟨RJ7, "fill", "([II)V"⟩
abbrev cJ7_copyOf_59c91 : ByteArray := prog_19_method_123_code
def yJ7_copyOf_59c91 : MethodName := ⟨RJ7, "copyOf", "([II)[I"⟩
def RL : String := "SlabHouseLaw"
abbrev cL_cache : ByteArray := method_3_code
def yL_cache : MethodName := ⟨RL, "cache", "(LSlabHouse;IIII[J)I"⟩
abbrev cL_drop : ByteArray := method_4_code
def yL_drop : MethodName := ⟨RL, "drop", "(LSlabHouse;I[J)I"⟩
abbrev cL_allocate : ByteArray := method_5_code
def yL_allocate : MethodName := ⟨RL, "allocate", "(LSlabHouse;II[J)I"⟩
abbrev cL_free : ByteArray := method_6_code
def yL_free : MethodName := ⟨RL, "free", "(LSlabHouse;II[J)I"⟩
abbrev cL_mark : ByteArray := method_7_code
def yL_mark : MethodName := ⟨RL, "mark", "(LSlabHouse;II[J)I"⟩
abbrev cL_flush : ByteArray := method_8_code
def yL_flush : MethodName := ⟨RL, "flush", "(LSlabHouse;I[J)I"⟩
abbrev cL_empty : ByteArray := method_9_code
def yL_empty : MethodName := ⟨RL, "empty", "(LSlabHouse;I[J)I"⟩
abbrev cL_about : ByteArray := method_10_code
def yL_about : MethodName := ⟨RL, "about", "(LSlabHouse;II[J)I"⟩
abbrev cL_list : ByteArray := method_11_code
def yL_list : MethodName := ⟨RL, "list", "(LSlabHouse;III[J)I"⟩
abbrev cL_slab : ByteArray := method_12_code
def yL_slab : MethodName := ⟨RL, "slab", "(LSlabHouse;II[J)I"⟩
abbrev cL_magazine : ByteArray := method_13_code
def yL_magazine : MethodName := ⟨RL, "magazine", "(LSlabHouse;III[J)I"⟩
abbrev cL_block : ByteArray := method_14_code
def yL_block : MethodName := ⟨RL, "block", "(LSlabHouse;II[J)I"⟩
abbrev cL_law : ByteArray := code
def yL_law : MethodName := ⟨RL, "law", "([I)Z"⟩
abbrev vwCl : List vw_C := [(RX0, TX0, 2), (RX1, TX1, 17), (RX2, TX2, 2), (RX3, TX3, 11), (RX4, TX4, 1), (RX5, TX5, 4), (RX6, TX6, 27)]
end
section
theorem dX0_init_0 : decode cX0_init 0 = .ok (.aload_n 0, 1) := by decide +kernel
theorem dX0_init_1 : decode cX0_init 1 = .ok (.invokespecial 3, 3) := by decide +kernel
theorem dX0_init_4 : decode cX0_init 4 = .ok (.aload_n 0, 1) := by decide +kernel
theorem dX0_init_5 : decode cX0_init 5 = .ok (.sipush 256, 3) := by decide +kernel
theorem dX0_init_8 : decode cX0_init 8 = .ok (.newarray .int, 2) := by decide +kernel
theorem dX0_init_10 : decode cX0_init 10 = .ok (.putfield 9, 3) := by decide +kernel
theorem dX0_init_13 : decode cX0_init 13 = .ok (.aload_n 0, 1) := by decide +kernel
theorem dX0_init_14 : decode cX0_init 14 = .ok (.sipush 256, 3) := by decide +kernel
theorem dX0_init_17 : decode cX0_init 17 = .ok (.putfield 15, 3) := by decide +kernel
theorem dX0_init_20 : decode cX0_init 20 = .ok (.aload_n 0, 1) := by decide +kernel
theorem dX0_init_21 : decode cX0_init 21 = .ok (.getfield 9, 3) := by decide +kernel
theorem dX0_init_24 : decode cX0_init 24 = .ok (.iconst (-1), 1) := by decide +kernel
theorem dX0_init_25 : decode cX0_init 25 = .ok (.invokestatic 19, 3) := by decide +kernel
theorem dX0_init_28 : decode cX0_init 28 = .ok (.iconst 0, 1) := by decide +kernel
theorem dX0_init_29 : decode cX0_init 29 = .ok (.istore_n 1, 1) := by decide +kernel
theorem dX0_init_30 : decode cX0_init 30 = .ok (.iload_n 1, 1) := by decide +kernel
theorem dX0_init_31 : decode cX0_init 31 = .ok (.sipush 256, 3) := by decide +kernel
theorem dX0_init_34 : decode cX0_init 34 = .ok (.if_icmp .ge 17, 3) := by decide +kernel
theorem dX0_init_37 : decode cX0_init 37 = .ok (.aload_n 0, 1) := by decide +kernel
theorem dX0_init_38 : decode cX0_init 38 = .ok (.getfield 9, 3) := by decide +kernel
theorem dX0_init_41 : decode cX0_init 41 = .ok (.iload_n 1, 1) := by decide +kernel
theorem dX0_init_42 : decode cX0_init 42 = .ok (.bipush 6, 2) := by decide +kernel
theorem dX0_init_44 : decode cX0_init 44 = .ok (.iastore, 1) := by decide +kernel
theorem dX0_init_45 : decode cX0_init 45 = .ok (.iinc 1 64, 3) := by decide +kernel
theorem dX0_init_48 : decode cX0_init 48 = .ok (.goto (-18), 3) := by decide +kernel
theorem dX0_init_51 : decode cX0_init 51 = .ok (.return_, 1) := by decide +kernel
theorem dX0_freePage_0 : decode cX0_freePage 0 = .ok (.iconst 0, 1) := by decide +kernel
theorem dX0_freePage_1 : decode cX0_freePage 1 = .ok (.istore_n 3, 1) := by decide +kernel
theorem dX0_freePage_2 : decode cX0_freePage 2 = .ok (.iconst 0, 1) := by decide +kernel
theorem dX0_freePage_3 : decode cX0_freePage 3 = .ok (.istore 4, 2) := by decide +kernel
theorem dX0_freePage_5 : decode cX0_freePage 5 = .ok (.iload 4, 2) := by decide +kernel
theorem dX0_freePage_7 : decode cX0_freePage 7 = .ok (.sipush 256, 3) := by decide +kernel
theorem dX0_freePage_10 : decode cX0_freePage 10 = .ok (.if_icmp .ge 31, 3) := by decide +kernel
theorem dX0_freePage_13 : decode cX0_freePage 13 = .ok (.aload_n 0, 1) := by decide +kernel
theorem dX0_freePage_14 : decode cX0_freePage 14 = .ok (.getfield 9, 3) := by decide +kernel
theorem dX0_freePage_17 : decode cX0_freePage 17 = .ok (.iload 4, 2) := by decide +kernel
theorem dX0_freePage_19 : decode cX0_freePage 19 = .ok (.iaload, 1) := by decide +kernel
theorem dX0_freePage_20 : decode cX0_freePage 20 = .ok (.iload_n 1, 1) := by decide +kernel
theorem dX0_freePage_21 : decode cX0_freePage 21 = .ok (.if_icmp .ne 14, 3) := by decide +kernel
theorem dX0_freePage_24 : decode cX0_freePage 24 = .ok (.iload_n 3, 1) := by decide +kernel
theorem dX0_freePage_25 : decode cX0_freePage 25 = .ok (.iload_n 2, 1) := by decide +kernel
theorem dX0_freePage_26 : decode cX0_freePage 26 = .ok (.if_icmp .ne 6, 3) := by decide +kernel
theorem dX0_freePage_29 : decode cX0_freePage 29 = .ok (.iload 4, 2) := by decide +kernel
theorem dX0_freePage_31 : decode cX0_freePage 31 = .ok (.ireturn, 1) := by decide +kernel
theorem dX0_freePage_32 : decode cX0_freePage 32 = .ok (.iinc 3 1, 3) := by decide +kernel
theorem dX0_freePage_35 : decode cX0_freePage 35 = .ok (.iinc 4 1, 3) := by decide +kernel
theorem dX0_freePage_38 : decode cX0_freePage 38 = .ok (.goto (-33), 3) := by decide +kernel
theorem dX0_freePage_41 : decode cX0_freePage 41 = .ok (.iconst (-1), 1) := by decide +kernel
theorem dX0_freePage_42 : decode cX0_freePage 42 = .ok (.ireturn, 1) := by decide +kernel
theorem dX0_take_0 : decode cX0_take 0 = .ok (.iload_n 1, 1) := by decide +kernel
theorem dX0_take_1 : decode cX0_take 1 = .ok (.istore_n 2, 1) := by decide +kernel
theorem dX0_take_2 : decode cX0_take 2 = .ok (.iload_n 2, 1) := by decide +kernel
theorem dX0_take_3 : decode cX0_take 3 = .ok (.bipush 6, 2) := by decide +kernel
theorem dX0_take_5 : decode cX0_take 5 = .ok (.if_icmp .gt 30, 3) := by decide +kernel
theorem dX0_take_8 : decode cX0_take 8 = .ok (.aload_n 0, 1) := by decide +kernel
theorem dX0_take_9 : decode cX0_take 9 = .ok (.iload_n 2, 1) := by decide +kernel
theorem dX0_take_10 : decode cX0_take 10 = .ok (.iconst 0, 1) := by decide +kernel
theorem dX0_take_11 : decode cX0_take 11 = .ok (.invokevirtual 25, 3) := by decide +kernel
theorem dX0_take_14 : decode cX0_take 14 = .ok (.istore_n 3, 1) := by decide +kernel
theorem dX0_take_15 : decode cX0_take 15 = .ok (.iload_n 3, 1) := by decide +kernel
theorem dX0_take_16 : decode cX0_take 16 = .ok (.iconst (-1), 1) := by decide +kernel
theorem dX0_take_17 : decode cX0_take 17 = .ok (.if_icmp .eq 12, 3) := by decide +kernel
theorem dX0_take_20 : decode cX0_take 20 = .ok (.aload_n 0, 1) := by decide +kernel
theorem dX0_take_21 : decode cX0_take 21 = .ok (.iload_n 3, 1) := by decide +kernel
theorem dX0_take_22 : decode cX0_take 22 = .ok (.iload_n 2, 1) := by decide +kernel
theorem dX0_take_23 : decode cX0_take 23 = .ok (.iload_n 1, 1) := by decide +kernel
theorem dX0_take_24 : decode cX0_take 24 = .ok (.invokevirtual 29, 3) := by decide +kernel
theorem dX0_take_27 : decode cX0_take 27 = .ok (.iload_n 3, 1) := by decide +kernel
theorem dX0_take_28 : decode cX0_take 28 = .ok (.ireturn, 1) := by decide +kernel
theorem dX0_take_29 : decode cX0_take 29 = .ok (.iinc 2 1, 3) := by decide +kernel
theorem dX0_take_32 : decode cX0_take 32 = .ok (.goto (-30), 3) := by decide +kernel
theorem dX0_take_35 : decode cX0_take 35 = .ok (.iconst (-1), 1) := by decide +kernel
theorem dX0_take_36 : decode cX0_take 36 = .ok (.ireturn, 1) := by decide +kernel
theorem dX0_halve_0 : decode cX0_halve 0 = .ok (.aload_n 0, 1) := by decide +kernel
theorem dX0_halve_1 : decode cX0_halve 1 = .ok (.getfield 9, 3) := by decide +kernel
theorem dX0_halve_4 : decode cX0_halve 4 = .ok (.iload_n 1, 1) := by decide +kernel
theorem dX0_halve_5 : decode cX0_halve 5 = .ok (.iconst (-1), 1) := by decide +kernel
theorem dX0_halve_6 : decode cX0_halve 6 = .ok (.iastore, 1) := by decide +kernel
theorem dX0_halve_7 : decode cX0_halve 7 = .ok (.iload_n 2, 1) := by decide +kernel
theorem dX0_halve_8 : decode cX0_halve 8 = .ok (.iconst 1, 1) := by decide +kernel
theorem dX0_halve_9 : decode cX0_halve 9 = .ok (.isub, 1) := by decide +kernel
theorem dX0_halve_10 : decode cX0_halve 10 = .ok (.istore 4, 2) := by decide +kernel
theorem dX0_halve_12 : decode cX0_halve 12 = .ok (.iload 4, 2) := by decide +kernel
theorem dX0_halve_14 : decode cX0_halve 14 = .ok (.iload_n 3, 1) := by decide +kernel
theorem dX0_halve_15 : decode cX0_halve 15 = .ok (.if_icmp .lt 21, 3) := by decide +kernel
theorem dX0_halve_18 : decode cX0_halve 18 = .ok (.aload_n 0, 1) := by decide +kernel
theorem dX0_halve_19 : decode cX0_halve 19 = .ok (.iload_n 1, 1) := by decide +kernel
theorem dX0_halve_20 : decode cX0_halve 20 = .ok (.iconst 1, 1) := by decide +kernel
theorem dX0_halve_21 : decode cX0_halve 21 = .ok (.iload 4, 2) := by decide +kernel
theorem dX0_halve_23 : decode cX0_halve 23 = .ok (.ishl, 1) := by decide +kernel
theorem dX0_halve_24 : decode cX0_halve 24 = .ok (.iadd, 1) := by decide +kernel
theorem dX0_halve_25 : decode cX0_halve 25 = .ok (.iload 4, 2) := by decide +kernel
theorem dX0_halve_27 : decode cX0_halve 27 = .ok (.invokevirtual 33, 3) := by decide +kernel
theorem dX0_halve_30 : decode cX0_halve 30 = .ok (.iinc 4 (-1), 3) := by decide +kernel
theorem dX0_halve_33 : decode cX0_halve 33 = .ok (.goto (-21), 3) := by decide +kernel
theorem dX0_halve_36 : decode cX0_halve 36 = .ok (.aload_n 0, 1) := by decide +kernel
theorem dX0_halve_37 : decode cX0_halve 37 = .ok (.dup, 1) := by decide +kernel
theorem dX0_halve_38 : decode cX0_halve 38 = .ok (.getfield 15, 3) := by decide +kernel
theorem dX0_halve_41 : decode cX0_halve 41 = .ok (.iconst 1, 1) := by decide +kernel
theorem dX0_halve_42 : decode cX0_halve 42 = .ok (.iload_n 3, 1) := by decide +kernel
theorem dX0_halve_43 : decode cX0_halve 43 = .ok (.ishl, 1) := by decide +kernel
theorem dX0_halve_44 : decode cX0_halve 44 = .ok (.isub, 1) := by decide +kernel
theorem dX0_halve_45 : decode cX0_halve 45 = .ok (.putfield 15, 3) := by decide +kernel
theorem dX0_halve_48 : decode cX0_halve 48 = .ok (.return_, 1) := by decide +kernel
theorem dX0_giveBack_0 : decode cX0_giveBack 0 = .ok (.iload_n 1, 1) := by decide +kernel
theorem dX0_giveBack_1 : decode cX0_giveBack 1 = .ok (.istore_n 3, 1) := by decide +kernel
theorem dX0_giveBack_2 : decode cX0_giveBack 2 = .ok (.iload_n 2, 1) := by decide +kernel
theorem dX0_giveBack_3 : decode cX0_giveBack 3 = .ok (.istore 4, 2) := by decide +kernel
theorem dX0_giveBack_5 : decode cX0_giveBack 5 = .ok (.iload 4, 2) := by decide +kernel
theorem dX0_giveBack_7 : decode cX0_giveBack 7 = .ok (.bipush 6, 2) := by decide +kernel
theorem dX0_giveBack_9 : decode cX0_giveBack 9 = .ok (.if_icmp .ge 44, 3) := by decide +kernel
theorem dX0_giveBack_12 : decode cX0_giveBack 12 = .ok (.aload_n 0, 1) := by decide +kernel
theorem dX0_giveBack_13 : decode cX0_giveBack 13 = .ok (.iload_n 3, 1) := by decide +kernel
theorem dX0_giveBack_14 : decode cX0_giveBack 14 = .ok (.iconst 1, 1) := by decide +kernel
theorem dX0_giveBack_15 : decode cX0_giveBack 15 = .ok (.iload 4, 2) := by decide +kernel
theorem dX0_giveBack_17 : decode cX0_giveBack 17 = .ok (.ishl, 1) := by decide +kernel
theorem dX0_giveBack_18 : decode cX0_giveBack 18 = .ok (.ixor, 1) := by decide +kernel
theorem dX0_giveBack_19 : decode cX0_giveBack 19 = .ok (.iload 4, 2) := by decide +kernel
theorem dX0_giveBack_21 : decode cX0_giveBack 21 = .ok (.invokevirtual 37, 3) := by decide +kernel
theorem dX0_giveBack_24 : decode cX0_giveBack 24 = .ok (.ifCond .eq 29, 3) := by decide +kernel
theorem dX0_giveBack_27 : decode cX0_giveBack 27 = .ok (.aload_n 0, 1) := by decide +kernel
theorem dX0_giveBack_28 : decode cX0_giveBack 28 = .ok (.iload_n 3, 1) := by decide +kernel
theorem dX0_giveBack_29 : decode cX0_giveBack 29 = .ok (.iconst 1, 1) := by decide +kernel
theorem dX0_giveBack_30 : decode cX0_giveBack 30 = .ok (.iload 4, 2) := by decide +kernel
theorem dX0_giveBack_32 : decode cX0_giveBack 32 = .ok (.ishl, 1) := by decide +kernel
theorem dX0_giveBack_33 : decode cX0_giveBack 33 = .ok (.ixor, 1) := by decide +kernel
theorem dX0_giveBack_34 : decode cX0_giveBack 34 = .ok (.iconst (-1), 1) := by decide +kernel
theorem dX0_giveBack_35 : decode cX0_giveBack 35 = .ok (.invokevirtual 33, 3) := by decide +kernel
theorem dX0_giveBack_38 : decode cX0_giveBack 38 = .ok (.iload_n 3, 1) := by decide +kernel
theorem dX0_giveBack_39 : decode cX0_giveBack 39 = .ok (.iconst 1, 1) := by decide +kernel
theorem dX0_giveBack_40 : decode cX0_giveBack 40 = .ok (.iload 4, 2) := by decide +kernel
theorem dX0_giveBack_42 : decode cX0_giveBack 42 = .ok (.ishl, 1) := by decide +kernel
theorem dX0_giveBack_43 : decode cX0_giveBack 43 = .ok (.iconst (-1), 1) := by decide +kernel
theorem dX0_giveBack_44 : decode cX0_giveBack 44 = .ok (.ixor, 1) := by decide +kernel
theorem dX0_giveBack_45 : decode cX0_giveBack 45 = .ok (.iand, 1) := by decide +kernel
theorem dX0_giveBack_46 : decode cX0_giveBack 46 = .ok (.istore_n 3, 1) := by decide +kernel
theorem dX0_giveBack_47 : decode cX0_giveBack 47 = .ok (.iinc 4 1, 3) := by decide +kernel
theorem dX0_giveBack_50 : decode cX0_giveBack 50 = .ok (.goto (-45), 3) := by decide +kernel
theorem dX0_giveBack_53 : decode cX0_giveBack 53 = .ok (.aload_n 0, 1) := by decide +kernel
theorem dX0_giveBack_54 : decode cX0_giveBack 54 = .ok (.iload_n 3, 1) := by decide +kernel
theorem dX0_giveBack_55 : decode cX0_giveBack 55 = .ok (.iload 4, 2) := by decide +kernel
theorem dX0_giveBack_57 : decode cX0_giveBack 57 = .ok (.invokevirtual 33, 3) := by decide +kernel
theorem dX0_giveBack_60 : decode cX0_giveBack 60 = .ok (.aload_n 0, 1) := by decide +kernel
theorem dX0_giveBack_61 : decode cX0_giveBack 61 = .ok (.dup, 1) := by decide +kernel
theorem dX0_giveBack_62 : decode cX0_giveBack 62 = .ok (.getfield 15, 3) := by decide +kernel
theorem dX0_giveBack_65 : decode cX0_giveBack 65 = .ok (.iconst 1, 1) := by decide +kernel
theorem dX0_giveBack_66 : decode cX0_giveBack 66 = .ok (.iload_n 2, 1) := by decide +kernel
theorem dX0_giveBack_67 : decode cX0_giveBack 67 = .ok (.ishl, 1) := by decide +kernel
theorem dX0_giveBack_68 : decode cX0_giveBack 68 = .ok (.iadd, 1) := by decide +kernel
theorem dX0_giveBack_69 : decode cX0_giveBack 69 = .ok (.putfield 15, 3) := by decide +kernel
theorem dX0_giveBack_72 : decode cX0_giveBack 72 = .ok (.return_, 1) := by decide +kernel
theorem dX0_isFree_0 : decode cX0_isFree 0 = .ok (.iload_n 1, 1) := by decide +kernel
theorem dX0_isFree_1 : decode cX0_isFree 1 = .ok (.ifCond .lt 24, 3) := by decide +kernel
theorem dX0_isFree_4 : decode cX0_isFree 4 = .ok (.iload_n 1, 1) := by decide +kernel
theorem dX0_isFree_5 : decode cX0_isFree 5 = .ok (.sipush 256, 3) := by decide +kernel
theorem dX0_isFree_8 : decode cX0_isFree 8 = .ok (.if_icmp .ge 17, 3) := by decide +kernel
theorem dX0_isFree_11 : decode cX0_isFree 11 = .ok (.aload_n 0, 1) := by decide +kernel
theorem dX0_isFree_12 : decode cX0_isFree 12 = .ok (.getfield 9, 3) := by decide +kernel
theorem dX0_isFree_15 : decode cX0_isFree 15 = .ok (.iload_n 1, 1) := by decide +kernel
theorem dX0_isFree_16 : decode cX0_isFree 16 = .ok (.iaload, 1) := by decide +kernel
theorem dX0_isFree_17 : decode cX0_isFree 17 = .ok (.iload_n 2, 1) := by decide +kernel
theorem dX0_isFree_18 : decode cX0_isFree 18 = .ok (.if_icmp .ne 7, 3) := by decide +kernel
theorem dX0_isFree_21 : decode cX0_isFree 21 = .ok (.iconst 1, 1) := by decide +kernel
theorem dX0_isFree_22 : decode cX0_isFree 22 = .ok (.goto 4, 3) := by decide +kernel
theorem dX0_isFree_25 : decode cX0_isFree 25 = .ok (.iconst 0, 1) := by decide +kernel
theorem dX0_isFree_26 : decode cX0_isFree 26 = .ok (.ireturn, 1) := by decide +kernel
theorem dX0_setFree_0 : decode cX0_setFree 0 = .ok (.iload_n 1, 1) := by decide +kernel
theorem dX0_setFree_1 : decode cX0_setFree 1 = .ok (.ifCond .lt 17, 3) := by decide +kernel
theorem dX0_setFree_4 : decode cX0_setFree 4 = .ok (.iload_n 1, 1) := by decide +kernel
theorem dX0_setFree_5 : decode cX0_setFree 5 = .ok (.sipush 256, 3) := by decide +kernel
theorem dX0_setFree_8 : decode cX0_setFree 8 = .ok (.if_icmp .ge 10, 3) := by decide +kernel
theorem dX0_setFree_11 : decode cX0_setFree 11 = .ok (.aload_n 0, 1) := by decide +kernel
theorem dX0_setFree_12 : decode cX0_setFree 12 = .ok (.getfield 9, 3) := by decide +kernel
theorem dX0_setFree_15 : decode cX0_setFree 15 = .ok (.iload_n 1, 1) := by decide +kernel
theorem dX0_setFree_16 : decode cX0_setFree 16 = .ok (.iload_n 2, 1) := by decide +kernel
theorem dX0_setFree_17 : decode cX0_setFree 17 = .ok (.iastore, 1) := by decide +kernel
theorem dX0_setFree_18 : decode cX0_setFree 18 = .ok (.return_, 1) := by decide +kernel
theorem dX1_init_0 : decode cX1_init 0 = .ok (.aload_n 0, 1) := by decide +kernel
theorem dX1_init_1 : decode cX1_init 1 = .ok (.invokespecial 3, 3) := by decide +kernel
theorem dX1_init_4 : decode cX1_init 4 = .ok (.aload_n 0, 1) := by decide +kernel
theorem dX1_init_5 : decode cX1_init 5 = .ok (.iconst 3, 1) := by decide +kernel
theorem dX1_init_6 : decode cX1_init 6 = .ok (.anewarray 9, 3) := by decide +kernel
theorem dX1_init_9 : decode cX1_init 9 = .ok (.putfield 11, 3) := by decide +kernel
theorem dX1_init_12 : decode cX1_init 12 = .ok (.aload_n 0, 1) := by decide +kernel
theorem dX1_init_13 : decode cX1_init 13 = .ok (.iconst 4, 1) := by decide +kernel
theorem dX1_init_14 : decode cX1_init 14 = .ok (.anewarray 17, 3) := by decide +kernel
theorem dX1_init_17 : decode cX1_init 17 = .ok (.putfield 19, 3) := by decide +kernel
theorem dX1_init_20 : decode cX1_init 20 = .ok (.aload_n 0, 1) := by decide +kernel
theorem dX1_init_21 : decode cX1_init 21 = .ok (.iconst 4, 1) := by decide +kernel
theorem dX1_init_22 : decode cX1_init 22 = .ok (.anewarray 17, 3) := by decide +kernel
theorem dX1_init_25 : decode cX1_init 25 = .ok (.putfield 23, 3) := by decide +kernel
theorem dX1_init_28 : decode cX1_init 28 = .ok (.aload_n 0, 1) := by decide +kernel
theorem dX1_init_29 : decode cX1_init 29 = .ok (.iconst 3, 1) := by decide +kernel
theorem dX1_init_30 : decode cX1_init 30 = .ok (.anewarray 17, 3) := by decide +kernel
theorem dX1_init_33 : decode cX1_init 33 = .ok (.putfield 26, 3) := by decide +kernel
theorem dX1_init_36 : decode cX1_init 36 = .ok (.aload_n 0, 1) := by decide +kernel
theorem dX1_init_37 : decode cX1_init 37 = .ok (.iload_n 1, 1) := by decide +kernel
theorem dX1_init_38 : decode cX1_init 38 = .ok (.putfield 29, 3) := by decide +kernel
theorem dX1_init_41 : decode cX1_init 41 = .ok (.aload_n 0, 1) := by decide +kernel
theorem dX1_init_42 : decode cX1_init 42 = .ok (.iload_n 2, 1) := by decide +kernel
theorem dX1_init_43 : decode cX1_init 43 = .ok (.putfield 33, 3) := by decide +kernel
theorem dX1_init_46 : decode cX1_init 46 = .ok (.aload_n 0, 1) := by decide +kernel
theorem dX1_init_47 : decode cX1_init 47 = .ok (.iload_n 3, 1) := by decide +kernel
theorem dX1_init_48 : decode cX1_init 48 = .ok (.putfield 36, 3) := by decide +kernel
theorem dX1_init_51 : decode cX1_init 51 = .ok (.aload_n 0, 1) := by decide +kernel
theorem dX1_init_52 : decode cX1_init 52 = .ok (.iload 4, 2) := by decide +kernel
theorem dX1_init_54 : decode cX1_init 54 = .ok (.putfield 39, 3) := by decide +kernel
theorem dX1_init_57 : decode cX1_init 57 = .ok (.aload_n 0, 1) := by decide +kernel
theorem dX1_init_58 : decode cX1_init 58 = .ok (.iload 5, 2) := by decide +kernel
theorem dX1_init_60 : decode cX1_init 60 = .ok (.putfield 42, 3) := by decide +kernel
theorem dX1_init_63 : decode cX1_init 63 = .ok (.aload_n 0, 1) := by decide +kernel
theorem dX1_init_64 : decode cX1_init 64 = .ok (.iload_n 2, 1) := by decide +kernel
theorem dX1_init_65 : decode cX1_init 65 = .ok (.iload_n 3, 1) := by decide +kernel
theorem dX1_init_66 : decode cX1_init 66 = .ok (.invokestatic 45, 3) := by decide +kernel
theorem dX1_init_69 : decode cX1_init 69 = .ok (.putfield 49, 3) := by decide +kernel
theorem dX1_init_72 : decode cX1_init 72 = .ok (.sipush 1024, 3) := by decide +kernel
theorem dX1_init_75 : decode cX1_init 75 = .ok (.iload 4, 2) := by decide +kernel
theorem dX1_init_77 : decode cX1_init 77 = .ok (.ishl, 1) := by decide +kernel
theorem dX1_init_78 : decode cX1_init 78 = .ok (.istore 6, 2) := by decide +kernel
theorem dX1_init_80 : decode cX1_init 80 = .ok (.aload_n 0, 1) := by decide +kernel
theorem dX1_init_81 : decode cX1_init 81 = .ok (.aload_n 0, 1) := by decide +kernel
theorem dX1_init_82 : decode cX1_init 82 = .ok (.getfield 49, 3) := by decide +kernel
theorem dX1_init_85 : decode cX1_init 85 = .ok (.ifCond .le 13, 3) := by decide +kernel
theorem dX1_init_88 : decode cX1_init 88 = .ok (.iload 6, 2) := by decide +kernel
theorem dX1_init_90 : decode cX1_init 90 = .ok (.aload_n 0, 1) := by decide +kernel
theorem dX1_init_91 : decode cX1_init 91 = .ok (.getfield 49, 3) := by decide +kernel
theorem dX1_init_94 : decode cX1_init 94 = .ok (.idiv, 1) := by decide +kernel
theorem dX1_init_95 : decode cX1_init 95 = .ok (.goto 4, 3) := by decide +kernel
theorem dX1_init_98 : decode cX1_init 98 = .ok (.iconst 0, 1) := by decide +kernel
theorem dX1_init_99 : decode cX1_init 99 = .ok (.putfield 52, 3) := by decide +kernel
theorem dX1_init_102 : decode cX1_init 102 = .ok (.iload 6, 2) := by decide +kernel
theorem dX1_init_104 : decode cX1_init 104 = .ok (.aload_n 0, 1) := by decide +kernel
theorem dX1_init_105 : decode cX1_init 105 = .ok (.getfield 52, 3) := by decide +kernel
theorem dX1_init_108 : decode cX1_init 108 = .ok (.aload_n 0, 1) := by decide +kernel
theorem dX1_init_109 : decode cX1_init 109 = .ok (.getfield 49, 3) := by decide +kernel
theorem dX1_init_112 : decode cX1_init 112 = .ok (.imul, 1) := by decide +kernel
theorem dX1_init_113 : decode cX1_init 113 = .ok (.isub, 1) := by decide +kernel
theorem dX1_init_114 : decode cX1_init 114 = .ok (.istore 7, 2) := by decide +kernel
theorem dX1_init_116 : decode cX1_init 116 = .ok (.aload_n 0, 1) := by decide +kernel
theorem dX1_init_117 : decode cX1_init 117 = .ok (.iload_n 3, 1) := by decide +kernel
theorem dX1_init_118 : decode cX1_init 118 = .ok (.ifCond .le 12, 3) := by decide +kernel
theorem dX1_init_121 : decode cX1_init 121 = .ok (.iload 7, 2) := by decide +kernel
theorem dX1_init_123 : decode cX1_init 123 = .ok (.iload_n 3, 1) := by decide +kernel
theorem dX1_init_124 : decode cX1_init 124 = .ok (.idiv, 1) := by decide +kernel
theorem dX1_init_125 : decode cX1_init 125 = .ok (.iconst 1, 1) := by decide +kernel
theorem dX1_init_126 : decode cX1_init 126 = .ok (.iadd, 1) := by decide +kernel
theorem dX1_init_127 : decode cX1_init 127 = .ok (.goto 4, 3) := by decide +kernel
theorem dX1_init_130 : decode cX1_init 130 = .ok (.iconst 1, 1) := by decide +kernel
theorem dX1_init_131 : decode cX1_init 131 = .ok (.putfield 55, 3) := by decide +kernel
theorem dX1_init_134 : decode cX1_init 134 = .ok (.iconst 0, 1) := by decide +kernel
theorem dX1_init_135 : decode cX1_init 135 = .ok (.istore 8, 2) := by decide +kernel
theorem dX1_init_137 : decode cX1_init 137 = .ok (.iload 8, 2) := by decide +kernel
theorem dX1_init_139 : decode cX1_init 139 = .ok (.iconst 3, 1) := by decide +kernel
theorem dX1_init_140 : decode cX1_init 140 = .ok (.if_icmp .ge 23, 3) := by decide +kernel
theorem dX1_init_143 : decode cX1_init 143 = .ok (.aload_n 0, 1) := by decide +kernel
theorem dX1_init_144 : decode cX1_init 144 = .ok (.getfield 11, 3) := by decide +kernel
theorem dX1_init_147 : decode cX1_init 147 = .ok (.iload 8, 2) := by decide +kernel
theorem dX1_init_149 : decode cX1_init 149 = .ok (.new 9, 3) := by decide +kernel
theorem dX1_init_152 : decode cX1_init 152 = .ok (.dup, 1) := by decide +kernel
theorem dX1_init_153 : decode cX1_init 153 = .ok (.invokespecial 58, 3) := by decide +kernel
theorem dX1_init_156 : decode cX1_init 156 = .ok (.aastore, 1) := by decide +kernel
theorem dX1_init_157 : decode cX1_init 157 = .ok (.iinc 8 1, 3) := by decide +kernel
theorem dX1_init_160 : decode cX1_init 160 = .ok (.goto (-23), 3) := by decide +kernel
theorem dX1_init_163 : decode cX1_init 163 = .ok (.iconst 0, 1) := by decide +kernel
theorem dX1_init_164 : decode cX1_init 164 = .ok (.istore 8, 2) := by decide +kernel
theorem dX1_init_166 : decode cX1_init 166 = .ok (.iload 8, 2) := by decide +kernel
theorem dX1_init_168 : decode cX1_init 168 = .ok (.iconst 4, 1) := by decide +kernel
theorem dX1_init_169 : decode cX1_init 169 = .ok (.if_icmp .ge 37, 3) := by decide +kernel
theorem dX1_init_172 : decode cX1_init 172 = .ok (.aload_n 0, 1) := by decide +kernel
theorem dX1_init_173 : decode cX1_init 173 = .ok (.getfield 19, 3) := by decide +kernel
theorem dX1_init_176 : decode cX1_init 176 = .ok (.iload 8, 2) := by decide +kernel
theorem dX1_init_178 : decode cX1_init 178 = .ok (.new 17, 3) := by decide +kernel
theorem dX1_init_181 : decode cX1_init 181 = .ok (.dup, 1) := by decide +kernel
theorem dX1_init_182 : decode cX1_init 182 = .ok (.invokespecial 59, 3) := by decide +kernel
theorem dX1_init_185 : decode cX1_init 185 = .ok (.aastore, 1) := by decide +kernel
theorem dX1_init_186 : decode cX1_init 186 = .ok (.aload_n 0, 1) := by decide +kernel
theorem dX1_init_187 : decode cX1_init 187 = .ok (.getfield 23, 3) := by decide +kernel
theorem dX1_init_190 : decode cX1_init 190 = .ok (.iload 8, 2) := by decide +kernel
theorem dX1_init_192 : decode cX1_init 192 = .ok (.new 17, 3) := by decide +kernel
theorem dX1_init_195 : decode cX1_init 195 = .ok (.dup, 1) := by decide +kernel
theorem dX1_init_196 : decode cX1_init 196 = .ok (.invokespecial 59, 3) := by decide +kernel
theorem dX1_init_199 : decode cX1_init 199 = .ok (.aastore, 1) := by decide +kernel
theorem dX1_init_200 : decode cX1_init 200 = .ok (.iinc 8 1, 3) := by decide +kernel
theorem dX1_init_203 : decode cX1_init 203 = .ok (.goto (-37), 3) := by decide +kernel
theorem dX1_init_206 : decode cX1_init 206 = .ok (.return_, 1) := by decide +kernel
theorem dX1_relist_0 : decode cX1_relist 0 = .ok (.aload_n 1, 1) := by decide +kernel
theorem dX1_relist_1 : decode cX1_relist 1 = .ok (.invokevirtual 60, 3) := by decide +kernel
theorem dX1_relist_4 : decode cX1_relist 4 = .ok (.istore_n 2, 1) := by decide +kernel
theorem dX1_relist_5 : decode cX1_relist 5 = .ok (.aload_n 1, 1) := by decide +kernel
theorem dX1_relist_6 : decode cX1_relist 6 = .ok (.getfield 66, 3) := by decide +kernel
theorem dX1_relist_9 : decode cX1_relist 9 = .ok (.iload_n 2, 1) := by decide +kernel
theorem dX1_relist_10 : decode cX1_relist 10 = .ok (.if_icmp .eq 23, 3) := by decide +kernel
theorem dX1_relist_13 : decode cX1_relist 13 = .ok (.aload_n 0, 1) := by decide +kernel
theorem dX1_relist_14 : decode cX1_relist 14 = .ok (.aload_n 1, 1) := by decide +kernel
theorem dX1_relist_15 : decode cX1_relist 15 = .ok (.invokevirtual 69, 3) := by decide +kernel
theorem dX1_relist_18 : decode cX1_relist 18 = .ok (.aload_n 1, 1) := by decide +kernel
theorem dX1_relist_19 : decode cX1_relist 19 = .ok (.iload_n 2, 1) := by decide +kernel
theorem dX1_relist_20 : decode cX1_relist 20 = .ok (.putfield 66, 3) := by decide +kernel
theorem dX1_relist_23 : decode cX1_relist 23 = .ok (.aload_n 0, 1) := by decide +kernel
theorem dX1_relist_24 : decode cX1_relist 24 = .ok (.getfield 11, 3) := by decide +kernel
theorem dX1_relist_27 : decode cX1_relist 27 = .ok (.iload_n 2, 1) := by decide +kernel
theorem dX1_relist_28 : decode cX1_relist 28 = .ok (.aaload, 1) := by decide +kernel
theorem dX1_relist_29 : decode cX1_relist 29 = .ok (.aload_n 1, 1) := by decide +kernel
theorem dX1_relist_30 : decode cX1_relist 30 = .ok (.invokevirtual 73, 3) := by decide +kernel
theorem dX1_relist_33 : decode cX1_relist 33 = .ok (.return_, 1) := by decide +kernel
theorem dX1_unlist_0 : decode cX1_unlist 0 = .ok (.aload_n 1, 1) := by decide +kernel
theorem dX1_unlist_1 : decode cX1_unlist 1 = .ok (.getfield 66, 3) := by decide +kernel
theorem dX1_unlist_4 : decode cX1_unlist 4 = .ok (.iconst (-1), 1) := by decide +kernel
theorem dX1_unlist_5 : decode cX1_unlist 5 = .ok (.if_icmp .eq 21, 3) := by decide +kernel
theorem dX1_unlist_8 : decode cX1_unlist 8 = .ok (.aload_n 0, 1) := by decide +kernel
theorem dX1_unlist_9 : decode cX1_unlist 9 = .ok (.getfield 11, 3) := by decide +kernel
theorem dX1_unlist_12 : decode cX1_unlist 12 = .ok (.aload_n 1, 1) := by decide +kernel
theorem dX1_unlist_13 : decode cX1_unlist 13 = .ok (.getfield 66, 3) := by decide +kernel
theorem dX1_unlist_16 : decode cX1_unlist 16 = .ok (.aaload, 1) := by decide +kernel
theorem dX1_unlist_17 : decode cX1_unlist 17 = .ok (.aload_n 1, 1) := by decide +kernel
theorem dX1_unlist_18 : decode cX1_unlist 18 = .ok (.invokevirtual 76, 3) := by decide +kernel
theorem dX1_unlist_21 : decode cX1_unlist 21 = .ok (.aload_n 1, 1) := by decide +kernel
theorem dX1_unlist_22 : decode cX1_unlist 22 = .ok (.iconst (-1), 1) := by decide +kernel
theorem dX1_unlist_23 : decode cX1_unlist 23 = .ok (.putfield 66, 3) := by decide +kernel
theorem dX1_unlist_26 : decode cX1_unlist 26 = .ok (.return_, 1) := by decide +kernel
theorem dX1_takeFromMagazines_0 : decode cX1_takeFromMagazines 0 = .ok (.aload_n 0, 1) := by decide +kernel
theorem dX1_takeFromMagazines_1 : decode cX1_takeFromMagazines 1 = .ok (.getfield 19, 3) := by decide +kernel
theorem dX1_takeFromMagazines_4 : decode cX1_takeFromMagazines 4 = .ok (.iload_n 1, 1) := by decide +kernel
theorem dX1_takeFromMagazines_5 : decode cX1_takeFromMagazines 5 = .ok (.aaload, 1) := by decide +kernel
theorem dX1_takeFromMagazines_6 : decode cX1_takeFromMagazines 6 = .ok (.getfield 79, 3) := by decide +kernel
theorem dX1_takeFromMagazines_9 : decode cX1_takeFromMagazines 9 = .ok (.ifCond .ne 23, 3) := by decide +kernel
theorem dX1_takeFromMagazines_12 : decode cX1_takeFromMagazines 12 = .ok (.aload_n 0, 1) := by decide +kernel
theorem dX1_takeFromMagazines_13 : decode cX1_takeFromMagazines 13 = .ok (.getfield 23, 3) := by decide +kernel
theorem dX1_takeFromMagazines_16 : decode cX1_takeFromMagazines 16 = .ok (.iload_n 1, 1) := by decide +kernel
theorem dX1_takeFromMagazines_17 : decode cX1_takeFromMagazines 17 = .ok (.aaload, 1) := by decide +kernel
theorem dX1_takeFromMagazines_18 : decode cX1_takeFromMagazines 18 = .ok (.getfield 79, 3) := by decide +kernel
theorem dX1_takeFromMagazines_21 : decode cX1_takeFromMagazines 21 = .ok (.ifCond .le 11, 3) := by decide +kernel
theorem dX1_takeFromMagazines_24 : decode cX1_takeFromMagazines 24 = .ok (.aload_n 0, 1) := by decide +kernel
theorem dX1_takeFromMagazines_25 : decode cX1_takeFromMagazines 25 = .ok (.iload_n 1, 1) := by decide +kernel
theorem dX1_takeFromMagazines_26 : decode cX1_takeFromMagazines 26 = .ok (.invokevirtual 82, 3) := by decide +kernel
theorem dX1_takeFromMagazines_29 : decode cX1_takeFromMagazines 29 = .ok (.goto 40, 3) := by decide +kernel
theorem dX1_takeFromMagazines_32 : decode cX1_takeFromMagazines 32 = .ok (.aload_n 0, 1) := by decide +kernel
theorem dX1_takeFromMagazines_33 : decode cX1_takeFromMagazines 33 = .ok (.getfield 19, 3) := by decide +kernel
theorem dX1_takeFromMagazines_36 : decode cX1_takeFromMagazines 36 = .ok (.iload_n 1, 1) := by decide +kernel
theorem dX1_takeFromMagazines_37 : decode cX1_takeFromMagazines 37 = .ok (.aaload, 1) := by decide +kernel
theorem dX1_takeFromMagazines_38 : decode cX1_takeFromMagazines 38 = .ok (.getfield 79, 3) := by decide +kernel
theorem dX1_takeFromMagazines_41 : decode cX1_takeFromMagazines 41 = .ok (.ifCond .ne 28, 3) := by decide +kernel
theorem dX1_takeFromMagazines_44 : decode cX1_takeFromMagazines 44 = .ok (.aload_n 0, 1) := by decide +kernel
theorem dX1_takeFromMagazines_45 : decode cX1_takeFromMagazines 45 = .ok (.invokevirtual 86, 3) := by decide +kernel
theorem dX1_takeFromMagazines_48 : decode cX1_takeFromMagazines 48 = .ok (.astore_n 2, 1) := by decide +kernel
theorem dX1_takeFromMagazines_49 : decode cX1_takeFromMagazines 49 = .ok (.aload_n 0, 1) := by decide +kernel
theorem dX1_takeFromMagazines_50 : decode cX1_takeFromMagazines 50 = .ok (.getfield 19, 3) := by decide +kernel
theorem dX1_takeFromMagazines_53 : decode cX1_takeFromMagazines 53 = .ok (.iload_n 1, 1) := by decide +kernel
theorem dX1_takeFromMagazines_54 : decode cX1_takeFromMagazines 54 = .ok (.aload_n 2, 1) := by decide +kernel
theorem dX1_takeFromMagazines_55 : decode cX1_takeFromMagazines 55 = .ok (.ifnonnull 12, 3) := by decide +kernel
theorem dX1_takeFromMagazines_58 : decode cX1_takeFromMagazines 58 = .ok (.aload_n 0, 1) := by decide +kernel
theorem dX1_takeFromMagazines_59 : decode cX1_takeFromMagazines 59 = .ok (.getfield 19, 3) := by decide +kernel
theorem dX1_takeFromMagazines_62 : decode cX1_takeFromMagazines 62 = .ok (.iload_n 1, 1) := by decide +kernel
theorem dX1_takeFromMagazines_63 : decode cX1_takeFromMagazines 63 = .ok (.aaload, 1) := by decide +kernel
theorem dX1_takeFromMagazines_64 : decode cX1_takeFromMagazines 64 = .ok (.goto 4, 3) := by decide +kernel
theorem dX1_takeFromMagazines_67 : decode cX1_takeFromMagazines 67 = .ok (.aload_n 2, 1) := by decide +kernel
theorem dX1_takeFromMagazines_68 : decode cX1_takeFromMagazines 68 = .ok (.aastore, 1) := by decide +kernel
theorem dX1_takeFromMagazines_69 : decode cX1_takeFromMagazines 69 = .ok (.aload_n 0, 1) := by decide +kernel
theorem dX1_takeFromMagazines_70 : decode cX1_takeFromMagazines 70 = .ok (.getfield 19, 3) := by decide +kernel
theorem dX1_takeFromMagazines_73 : decode cX1_takeFromMagazines 73 = .ok (.iload_n 1, 1) := by decide +kernel
theorem dX1_takeFromMagazines_74 : decode cX1_takeFromMagazines 74 = .ok (.aaload, 1) := by decide +kernel
theorem dX1_takeFromMagazines_75 : decode cX1_takeFromMagazines 75 = .ok (.invokevirtual 90, 3) := by decide +kernel
theorem dX1_takeFromMagazines_78 : decode cX1_takeFromMagazines 78 = .ok (.ireturn, 1) := by decide +kernel
theorem dX1_putIntoMagazines_0 : decode cX1_putIntoMagazines 0 = .ok (.aload_n 0, 1) := by decide +kernel
theorem dX1_putIntoMagazines_1 : decode cX1_putIntoMagazines 1 = .ok (.getfield 19, 3) := by decide +kernel
theorem dX1_putIntoMagazines_4 : decode cX1_putIntoMagazines 4 = .ok (.iload_n 1, 1) := by decide +kernel
theorem dX1_putIntoMagazines_5 : decode cX1_putIntoMagazines 5 = .ok (.aaload, 1) := by decide +kernel
theorem dX1_putIntoMagazines_6 : decode cX1_putIntoMagazines 6 = .ok (.invokevirtual 93, 3) := by decide +kernel
theorem dX1_putIntoMagazines_9 : decode cX1_putIntoMagazines 9 = .ok (.ifCond .eq 81, 3) := by decide +kernel
theorem dX1_putIntoMagazines_12 : decode cX1_putIntoMagazines 12 = .ok (.aload_n 0, 1) := by decide +kernel
theorem dX1_putIntoMagazines_13 : decode cX1_putIntoMagazines 13 = .ok (.getfield 23, 3) := by decide +kernel
theorem dX1_putIntoMagazines_16 : decode cX1_putIntoMagazines 16 = .ok (.iload_n 1, 1) := by decide +kernel
theorem dX1_putIntoMagazines_17 : decode cX1_putIntoMagazines 17 = .ok (.aaload, 1) := by decide +kernel
theorem dX1_putIntoMagazines_18 : decode cX1_putIntoMagazines 18 = .ok (.invokevirtual 93, 3) := by decide +kernel
theorem dX1_putIntoMagazines_21 : decode cX1_putIntoMagazines 21 = .ok (.ifCond .ne 11, 3) := by decide +kernel
theorem dX1_putIntoMagazines_24 : decode cX1_putIntoMagazines 24 = .ok (.aload_n 0, 1) := by decide +kernel
theorem dX1_putIntoMagazines_25 : decode cX1_putIntoMagazines 25 = .ok (.iload_n 1, 1) := by decide +kernel
theorem dX1_putIntoMagazines_26 : decode cX1_putIntoMagazines 26 = .ok (.invokevirtual 82, 3) := by decide +kernel
theorem dX1_putIntoMagazines_29 : decode cX1_putIntoMagazines 29 = .ok (.goto 61, 3) := by decide +kernel
theorem dX1_putIntoMagazines_32 : decode cX1_putIntoMagazines 32 = .ok (.aload_n 0, 1) := by decide +kernel
theorem dX1_putIntoMagazines_33 : decode cX1_putIntoMagazines 33 = .ok (.getfield 97, 3) := by decide +kernel
theorem dX1_putIntoMagazines_36 : decode cX1_putIntoMagazines 36 = .ok (.iconst 3, 1) := by decide +kernel
theorem dX1_putIntoMagazines_37 : decode cX1_putIntoMagazines 37 = .ok (.if_icmp .ge 53, 3) := by decide +kernel
theorem dX1_putIntoMagazines_40 : decode cX1_putIntoMagazines 40 = .ok (.aload_n 0, 1) := by decide +kernel
theorem dX1_putIntoMagazines_41 : decode cX1_putIntoMagazines 41 = .ok (.getfield 26, 3) := by decide +kernel
theorem dX1_putIntoMagazines_44 : decode cX1_putIntoMagazines 44 = .ok (.aload_n 0, 1) := by decide +kernel
theorem dX1_putIntoMagazines_45 : decode cX1_putIntoMagazines 45 = .ok (.getfield 97, 3) := by decide +kernel
theorem dX1_putIntoMagazines_48 : decode cX1_putIntoMagazines 48 = .ok (.aload_n 0, 1) := by decide +kernel
theorem dX1_putIntoMagazines_49 : decode cX1_putIntoMagazines 49 = .ok (.getfield 23, 3) := by decide +kernel
theorem dX1_putIntoMagazines_52 : decode cX1_putIntoMagazines 52 = .ok (.iload_n 1, 1) := by decide +kernel
theorem dX1_putIntoMagazines_53 : decode cX1_putIntoMagazines 53 = .ok (.aaload, 1) := by decide +kernel
theorem dX1_putIntoMagazines_54 : decode cX1_putIntoMagazines 54 = .ok (.aastore, 1) := by decide +kernel
theorem dX1_putIntoMagazines_55 : decode cX1_putIntoMagazines 55 = .ok (.aload_n 0, 1) := by decide +kernel
theorem dX1_putIntoMagazines_56 : decode cX1_putIntoMagazines 56 = .ok (.dup, 1) := by decide +kernel
theorem dX1_putIntoMagazines_57 : decode cX1_putIntoMagazines 57 = .ok (.getfield 97, 3) := by decide +kernel
theorem dX1_putIntoMagazines_60 : decode cX1_putIntoMagazines 60 = .ok (.iconst 1, 1) := by decide +kernel
theorem dX1_putIntoMagazines_61 : decode cX1_putIntoMagazines 61 = .ok (.iadd, 1) := by decide +kernel
theorem dX1_putIntoMagazines_62 : decode cX1_putIntoMagazines 62 = .ok (.putfield 97, 3) := by decide +kernel
theorem dX1_putIntoMagazines_65 : decode cX1_putIntoMagazines 65 = .ok (.aload_n 0, 1) := by decide +kernel
theorem dX1_putIntoMagazines_66 : decode cX1_putIntoMagazines 66 = .ok (.getfield 23, 3) := by decide +kernel
theorem dX1_putIntoMagazines_69 : decode cX1_putIntoMagazines 69 = .ok (.iload_n 1, 1) := by decide +kernel
theorem dX1_putIntoMagazines_70 : decode cX1_putIntoMagazines 70 = .ok (.aload_n 0, 1) := by decide +kernel
theorem dX1_putIntoMagazines_71 : decode cX1_putIntoMagazines 71 = .ok (.getfield 19, 3) := by decide +kernel
theorem dX1_putIntoMagazines_74 : decode cX1_putIntoMagazines 74 = .ok (.iload_n 1, 1) := by decide +kernel
theorem dX1_putIntoMagazines_75 : decode cX1_putIntoMagazines 75 = .ok (.aaload, 1) := by decide +kernel
theorem dX1_putIntoMagazines_76 : decode cX1_putIntoMagazines 76 = .ok (.aastore, 1) := by decide +kernel
theorem dX1_putIntoMagazines_77 : decode cX1_putIntoMagazines 77 = .ok (.aload_n 0, 1) := by decide +kernel
theorem dX1_putIntoMagazines_78 : decode cX1_putIntoMagazines 78 = .ok (.getfield 19, 3) := by decide +kernel
theorem dX1_putIntoMagazines_81 : decode cX1_putIntoMagazines 81 = .ok (.iload_n 1, 1) := by decide +kernel
theorem dX1_putIntoMagazines_82 : decode cX1_putIntoMagazines 82 = .ok (.new 17, 3) := by decide +kernel
theorem dX1_putIntoMagazines_85 : decode cX1_putIntoMagazines 85 = .ok (.dup, 1) := by decide +kernel
theorem dX1_putIntoMagazines_86 : decode cX1_putIntoMagazines 86 = .ok (.invokespecial 59, 3) := by decide +kernel
theorem dX1_putIntoMagazines_89 : decode cX1_putIntoMagazines 89 = .ok (.aastore, 1) := by decide +kernel
theorem dX1_putIntoMagazines_90 : decode cX1_putIntoMagazines 90 = .ok (.aload_n 0, 1) := by decide +kernel
theorem dX1_putIntoMagazines_91 : decode cX1_putIntoMagazines 91 = .ok (.getfield 19, 3) := by decide +kernel
theorem dX1_putIntoMagazines_94 : decode cX1_putIntoMagazines 94 = .ok (.iload_n 1, 1) := by decide +kernel
theorem dX1_putIntoMagazines_95 : decode cX1_putIntoMagazines 95 = .ok (.aaload, 1) := by decide +kernel
theorem dX1_putIntoMagazines_96 : decode cX1_putIntoMagazines 96 = .ok (.iload_n 2, 1) := by decide +kernel
theorem dX1_putIntoMagazines_97 : decode cX1_putIntoMagazines 97 = .ok (.invokevirtual 100, 3) := by decide +kernel
theorem dX1_putIntoMagazines_100 : decode cX1_putIntoMagazines 100 = .ok (.ireturn, 1) := by decide +kernel
theorem dX1_changePlaces_0 : decode cX1_changePlaces 0 = .ok (.aload_n 0, 1) := by decide +kernel
theorem dX1_changePlaces_1 : decode cX1_changePlaces 1 = .ok (.getfield 19, 3) := by decide +kernel
theorem dX1_changePlaces_4 : decode cX1_changePlaces 4 = .ok (.iload_n 1, 1) := by decide +kernel
theorem dX1_changePlaces_5 : decode cX1_changePlaces 5 = .ok (.aaload, 1) := by decide +kernel
theorem dX1_changePlaces_6 : decode cX1_changePlaces 6 = .ok (.astore_n 2, 1) := by decide +kernel
theorem dX1_changePlaces_7 : decode cX1_changePlaces 7 = .ok (.aload_n 0, 1) := by decide +kernel
theorem dX1_changePlaces_8 : decode cX1_changePlaces 8 = .ok (.getfield 19, 3) := by decide +kernel
theorem dX1_changePlaces_11 : decode cX1_changePlaces 11 = .ok (.iload_n 1, 1) := by decide +kernel
theorem dX1_changePlaces_12 : decode cX1_changePlaces 12 = .ok (.aload_n 0, 1) := by decide +kernel
theorem dX1_changePlaces_13 : decode cX1_changePlaces 13 = .ok (.getfield 23, 3) := by decide +kernel
theorem dX1_changePlaces_16 : decode cX1_changePlaces 16 = .ok (.iload_n 1, 1) := by decide +kernel
theorem dX1_changePlaces_17 : decode cX1_changePlaces 17 = .ok (.aaload, 1) := by decide +kernel
theorem dX1_changePlaces_18 : decode cX1_changePlaces 18 = .ok (.aastore, 1) := by decide +kernel
theorem dX1_changePlaces_19 : decode cX1_changePlaces 19 = .ok (.aload_n 0, 1) := by decide +kernel
theorem dX1_changePlaces_20 : decode cX1_changePlaces 20 = .ok (.getfield 23, 3) := by decide +kernel
theorem dX1_changePlaces_23 : decode cX1_changePlaces 23 = .ok (.iload_n 1, 1) := by decide +kernel
theorem dX1_changePlaces_24 : decode cX1_changePlaces 24 = .ok (.aload_n 2, 1) := by decide +kernel
theorem dX1_changePlaces_25 : decode cX1_changePlaces 25 = .ok (.aastore, 1) := by decide +kernel
theorem dX1_changePlaces_26 : decode cX1_changePlaces 26 = .ok (.return_, 1) := by decide +kernel
theorem dX1_takeFromDepot_0 : decode cX1_takeFromDepot 0 = .ok (.aload_n 0, 1) := by decide +kernel
theorem dX1_takeFromDepot_1 : decode cX1_takeFromDepot 1 = .ok (.getfield 97, 3) := by decide +kernel
theorem dX1_takeFromDepot_4 : decode cX1_takeFromDepot 4 = .ok (.ifCond .gt 5, 3) := by decide +kernel
theorem dX1_takeFromDepot_7 : decode cX1_takeFromDepot 7 = .ok (.aconst_null, 1) := by decide +kernel
theorem dX1_takeFromDepot_8 : decode cX1_takeFromDepot 8 = .ok (.areturn, 1) := by decide +kernel
theorem dX1_takeFromDepot_9 : decode cX1_takeFromDepot 9 = .ok (.aload_n 0, 1) := by decide +kernel
theorem dX1_takeFromDepot_10 : decode cX1_takeFromDepot 10 = .ok (.dup, 1) := by decide +kernel
theorem dX1_takeFromDepot_11 : decode cX1_takeFromDepot 11 = .ok (.getfield 97, 3) := by decide +kernel
theorem dX1_takeFromDepot_14 : decode cX1_takeFromDepot 14 = .ok (.iconst 1, 1) := by decide +kernel
theorem dX1_takeFromDepot_15 : decode cX1_takeFromDepot 15 = .ok (.isub, 1) := by decide +kernel
theorem dX1_takeFromDepot_16 : decode cX1_takeFromDepot 16 = .ok (.putfield 97, 3) := by decide +kernel
theorem dX1_takeFromDepot_19 : decode cX1_takeFromDepot 19 = .ok (.aload_n 0, 1) := by decide +kernel
theorem dX1_takeFromDepot_20 : decode cX1_takeFromDepot 20 = .ok (.getfield 26, 3) := by decide +kernel
theorem dX1_takeFromDepot_23 : decode cX1_takeFromDepot 23 = .ok (.aload_n 0, 1) := by decide +kernel
theorem dX1_takeFromDepot_24 : decode cX1_takeFromDepot 24 = .ok (.getfield 97, 3) := by decide +kernel
theorem dX1_takeFromDepot_27 : decode cX1_takeFromDepot 27 = .ok (.aaload, 1) := by decide +kernel
theorem dX1_takeFromDepot_28 : decode cX1_takeFromDepot 28 = .ok (.astore_n 1, 1) := by decide +kernel
theorem dX1_takeFromDepot_29 : decode cX1_takeFromDepot 29 = .ok (.aload_n 0, 1) := by decide +kernel
theorem dX1_takeFromDepot_30 : decode cX1_takeFromDepot 30 = .ok (.getfield 26, 3) := by decide +kernel
theorem dX1_takeFromDepot_33 : decode cX1_takeFromDepot 33 = .ok (.aload_n 0, 1) := by decide +kernel
theorem dX1_takeFromDepot_34 : decode cX1_takeFromDepot 34 = .ok (.getfield 97, 3) := by decide +kernel
theorem dX1_takeFromDepot_37 : decode cX1_takeFromDepot 37 = .ok (.aconst_null, 1) := by decide +kernel
theorem dX1_takeFromDepot_38 : decode cX1_takeFromDepot 38 = .ok (.aastore, 1) := by decide +kernel
theorem dX1_takeFromDepot_39 : decode cX1_takeFromDepot 39 = .ok (.aload_n 1, 1) := by decide +kernel
theorem dX1_takeFromDepot_40 : decode cX1_takeFromDepot 40 = .ok (.areturn, 1) := by decide +kernel
theorem dX1_inMagazines_0 : decode cX1_inMagazines 0 = .ok (.aload_n 0, 1) := by decide +kernel
theorem dX1_inMagazines_1 : decode cX1_inMagazines 1 = .ok (.getfield 97, 3) := by decide +kernel
theorem dX1_inMagazines_4 : decode cX1_inMagazines 4 = .ok (.iconst 4, 1) := by decide +kernel
theorem dX1_inMagazines_5 : decode cX1_inMagazines 5 = .ok (.imul, 1) := by decide +kernel
theorem dX1_inMagazines_6 : decode cX1_inMagazines 6 = .ok (.istore_n 1, 1) := by decide +kernel
theorem dX1_inMagazines_7 : decode cX1_inMagazines 7 = .ok (.iconst 0, 1) := by decide +kernel
theorem dX1_inMagazines_8 : decode cX1_inMagazines 8 = .ok (.istore_n 2, 1) := by decide +kernel
theorem dX1_inMagazines_9 : decode cX1_inMagazines 9 = .ok (.iload_n 2, 1) := by decide +kernel
theorem dX1_inMagazines_10 : decode cX1_inMagazines 10 = .ok (.iconst 4, 1) := by decide +kernel
theorem dX1_inMagazines_11 : decode cX1_inMagazines 11 = .ok (.if_icmp .ge 31, 3) := by decide +kernel
theorem dX1_inMagazines_14 : decode cX1_inMagazines 14 = .ok (.iload_n 1, 1) := by decide +kernel
theorem dX1_inMagazines_15 : decode cX1_inMagazines 15 = .ok (.aload_n 0, 1) := by decide +kernel
theorem dX1_inMagazines_16 : decode cX1_inMagazines 16 = .ok (.getfield 19, 3) := by decide +kernel
theorem dX1_inMagazines_19 : decode cX1_inMagazines 19 = .ok (.iload_n 2, 1) := by decide +kernel
theorem dX1_inMagazines_20 : decode cX1_inMagazines 20 = .ok (.aaload, 1) := by decide +kernel
theorem dX1_inMagazines_21 : decode cX1_inMagazines 21 = .ok (.getfield 79, 3) := by decide +kernel
theorem dX1_inMagazines_24 : decode cX1_inMagazines 24 = .ok (.aload_n 0, 1) := by decide +kernel
theorem dX1_inMagazines_25 : decode cX1_inMagazines 25 = .ok (.getfield 23, 3) := by decide +kernel
theorem dX1_inMagazines_28 : decode cX1_inMagazines 28 = .ok (.iload_n 2, 1) := by decide +kernel
theorem dX1_inMagazines_29 : decode cX1_inMagazines 29 = .ok (.aaload, 1) := by decide +kernel
theorem dX1_inMagazines_30 : decode cX1_inMagazines 30 = .ok (.getfield 79, 3) := by decide +kernel
theorem dX1_inMagazines_33 : decode cX1_inMagazines 33 = .ok (.iadd, 1) := by decide +kernel
theorem dX1_inMagazines_34 : decode cX1_inMagazines 34 = .ok (.iadd, 1) := by decide +kernel
theorem dX1_inMagazines_35 : decode cX1_inMagazines 35 = .ok (.istore_n 1, 1) := by decide +kernel
theorem dX1_inMagazines_36 : decode cX1_inMagazines 36 = .ok (.iinc 2 1, 3) := by decide +kernel
theorem dX1_inMagazines_39 : decode cX1_inMagazines 39 = .ok (.goto (-30), 3) := by decide +kernel
theorem dX1_inMagazines_42 : decode cX1_inMagazines 42 = .ok (.iload_n 1, 1) := by decide +kernel
theorem dX1_inMagazines_43 : decode cX1_inMagazines 43 = .ok (.ireturn, 1) := by decide +kernel
theorem dX2_init_0 : decode cX2_init 0 = .ok (.aload_n 0, 1) := by decide +kernel
theorem dX2_init_1 : decode cX2_init 1 = .ok (.invokespecial 3, 3) := by decide +kernel
theorem dX2_init_4 : decode cX2_init 4 = .ok (.aload_n 0, 1) := by decide +kernel
theorem dX2_init_5 : decode cX2_init 5 = .ok (.iconst 4, 1) := by decide +kernel
theorem dX2_init_6 : decode cX2_init 6 = .ok (.newarray .int, 2) := by decide +kernel
theorem dX2_init_8 : decode cX2_init 8 = .ok (.putfield 9, 3) := by decide +kernel
theorem dX2_init_11 : decode cX2_init 11 = .ok (.return_, 1) := by decide +kernel
theorem dX2_isFull_0 : decode cX2_isFull 0 = .ok (.aload_n 0, 1) := by decide +kernel
theorem dX2_isFull_1 : decode cX2_isFull 1 = .ok (.getfield 15, 3) := by decide +kernel
theorem dX2_isFull_4 : decode cX2_isFull 4 = .ok (.iconst 4, 1) := by decide +kernel
theorem dX2_isFull_5 : decode cX2_isFull 5 = .ok (.if_icmp .lt 7, 3) := by decide +kernel
theorem dX2_isFull_8 : decode cX2_isFull 8 = .ok (.iconst 1, 1) := by decide +kernel
theorem dX2_isFull_9 : decode cX2_isFull 9 = .ok (.goto 4, 3) := by decide +kernel
theorem dX2_isFull_12 : decode cX2_isFull 12 = .ok (.iconst 0, 1) := by decide +kernel
theorem dX2_isFull_13 : decode cX2_isFull 13 = .ok (.ireturn, 1) := by decide +kernel
theorem dX2_put_0 : decode cX2_put 0 = .ok (.aload_n 0, 1) := by decide +kernel
theorem dX2_put_1 : decode cX2_put 1 = .ok (.invokevirtual 19, 3) := by decide +kernel
theorem dX2_put_4 : decode cX2_put 4 = .ok (.ifCond .eq 5, 3) := by decide +kernel
theorem dX2_put_7 : decode cX2_put 7 = .ok (.iconst 0, 1) := by decide +kernel
theorem dX2_put_8 : decode cX2_put 8 = .ok (.ireturn, 1) := by decide +kernel
theorem dX2_put_9 : decode cX2_put 9 = .ok (.aload_n 0, 1) := by decide +kernel
theorem dX2_put_10 : decode cX2_put 10 = .ok (.getfield 9, 3) := by decide +kernel
theorem dX2_put_13 : decode cX2_put 13 = .ok (.aload_n 0, 1) := by decide +kernel
theorem dX2_put_14 : decode cX2_put 14 = .ok (.getfield 15, 3) := by decide +kernel
theorem dX2_put_17 : decode cX2_put 17 = .ok (.iload_n 1, 1) := by decide +kernel
theorem dX2_put_18 : decode cX2_put 18 = .ok (.iastore, 1) := by decide +kernel
theorem dX2_put_19 : decode cX2_put 19 = .ok (.aload_n 0, 1) := by decide +kernel
theorem dX2_put_20 : decode cX2_put 20 = .ok (.dup, 1) := by decide +kernel
theorem dX2_put_21 : decode cX2_put 21 = .ok (.getfield 15, 3) := by decide +kernel
theorem dX2_put_24 : decode cX2_put 24 = .ok (.iconst 1, 1) := by decide +kernel
theorem dX2_put_25 : decode cX2_put 25 = .ok (.iadd, 1) := by decide +kernel
theorem dX2_put_26 : decode cX2_put 26 = .ok (.putfield 15, 3) := by decide +kernel
theorem dX2_put_29 : decode cX2_put 29 = .ok (.iconst 1, 1) := by decide +kernel
theorem dX2_put_30 : decode cX2_put 30 = .ok (.ireturn, 1) := by decide +kernel
theorem dX2_takeLast_0 : decode cX2_takeLast 0 = .ok (.aload_n 0, 1) := by decide +kernel
theorem dX2_takeLast_1 : decode cX2_takeLast 1 = .ok (.getfield 15, 3) := by decide +kernel
theorem dX2_takeLast_4 : decode cX2_takeLast 4 = .ok (.ifCond .gt 5, 3) := by decide +kernel
theorem dX2_takeLast_7 : decode cX2_takeLast 7 = .ok (.iconst (-1), 1) := by decide +kernel
theorem dX2_takeLast_8 : decode cX2_takeLast 8 = .ok (.ireturn, 1) := by decide +kernel
theorem dX2_takeLast_9 : decode cX2_takeLast 9 = .ok (.aload_n 0, 1) := by decide +kernel
theorem dX2_takeLast_10 : decode cX2_takeLast 10 = .ok (.dup, 1) := by decide +kernel
theorem dX2_takeLast_11 : decode cX2_takeLast 11 = .ok (.getfield 15, 3) := by decide +kernel
theorem dX2_takeLast_14 : decode cX2_takeLast 14 = .ok (.iconst 1, 1) := by decide +kernel
theorem dX2_takeLast_15 : decode cX2_takeLast 15 = .ok (.isub, 1) := by decide +kernel
theorem dX2_takeLast_16 : decode cX2_takeLast 16 = .ok (.putfield 15, 3) := by decide +kernel
theorem dX2_takeLast_19 : decode cX2_takeLast 19 = .ok (.aload_n 0, 1) := by decide +kernel
theorem dX2_takeLast_20 : decode cX2_takeLast 20 = .ok (.getfield 9, 3) := by decide +kernel
theorem dX2_takeLast_23 : decode cX2_takeLast 23 = .ok (.aload_n 0, 1) := by decide +kernel
theorem dX2_takeLast_24 : decode cX2_takeLast 24 = .ok (.getfield 15, 3) := by decide +kernel
theorem dX2_takeLast_27 : decode cX2_takeLast 27 = .ok (.iaload, 1) := by decide +kernel
theorem dX2_takeLast_28 : decode cX2_takeLast 28 = .ok (.ireturn, 1) := by decide +kernel
theorem dX3_init_0 : decode cX3_init 0 = .ok (.aload_n 0, 1) := by decide +kernel
theorem dX3_init_1 : decode cX3_init 1 = .ok (.invokespecial 3, 3) := by decide +kernel
theorem dX3_init_4 : decode cX3_init 4 = .ok (.aload_n 0, 1) := by decide +kernel
theorem dX3_init_5 : decode cX3_init 5 = .ok (.iconst (-1), 1) := by decide +kernel
theorem dX3_init_6 : decode cX3_init 6 = .ok (.putfield 9, 3) := by decide +kernel
theorem dX3_init_9 : decode cX3_init 9 = .ok (.aload_n 0, 1) := by decide +kernel
theorem dX3_init_10 : decode cX3_init 10 = .ok (.iconst (-1), 1) := by decide +kernel
theorem dX3_init_11 : decode cX3_init 11 = .ok (.putfield 15, 3) := by decide +kernel
theorem dX3_init_14 : decode cX3_init 14 = .ok (.aload_n 0, 1) := by decide +kernel
theorem dX3_init_15 : decode cX3_init 15 = .ok (.aload_n 1, 1) := by decide +kernel
theorem dX3_init_16 : decode cX3_init 16 = .ok (.putfield 18, 3) := by decide +kernel
theorem dX3_init_19 : decode cX3_init 19 = .ok (.aload_n 0, 1) := by decide +kernel
theorem dX3_init_20 : decode cX3_init 20 = .ok (.iload_n 2, 1) := by decide +kernel
theorem dX3_init_21 : decode cX3_init 21 = .ok (.putfield 22, 3) := by decide +kernel
theorem dX3_init_24 : decode cX3_init 24 = .ok (.aload_n 0, 1) := by decide +kernel
theorem dX3_init_25 : decode cX3_init 25 = .ok (.iload_n 3, 1) := by decide +kernel
theorem dX3_init_26 : decode cX3_init 26 = .ok (.putfield 25, 3) := by decide +kernel
theorem dX3_init_29 : decode cX3_init 29 = .ok (.iconst 1, 1) := by decide +kernel
theorem dX3_init_30 : decode cX3_init 30 = .ok (.iconst 4, 1) := by decide +kernel
theorem dX3_init_31 : decode cX3_init 31 = .ok (.aload_n 1, 1) := by decide +kernel
theorem dX3_init_32 : decode cX3_init 32 = .ok (.getfield 28, 3) := by decide +kernel
theorem dX3_init_35 : decode cX3_init 35 = .ok (.invokestatic 33, 3) := by decide +kernel
theorem dX3_init_38 : decode cX3_init 38 = .ok (.invokestatic 39, 3) := by decide +kernel
theorem dX3_init_41 : decode cX3_init 41 = .ok (.istore 4, 2) := by decide +kernel
theorem dX3_init_43 : decode cX3_init 43 = .ok (.aload_n 0, 1) := by decide +kernel
theorem dX3_init_44 : decode cX3_init 44 = .ok (.iload 4, 2) := by decide +kernel
theorem dX3_init_46 : decode cX3_init 46 = .ok (.newarray .int, 2) := by decide +kernel
theorem dX3_init_48 : decode cX3_init 48 = .ok (.putfield 42, 3) := by decide +kernel
theorem dX3_init_51 : decode cX3_init 51 = .ok (.aload_n 0, 1) := by decide +kernel
theorem dX3_init_52 : decode cX3_init 52 = .ok (.iload 4, 2) := by decide +kernel
theorem dX3_init_54 : decode cX3_init 54 = .ok (.newarray .int, 2) := by decide +kernel
theorem dX3_init_56 : decode cX3_init 56 = .ok (.putfield 46, 3) := by decide +kernel
theorem dX3_init_59 : decode cX3_init 59 = .ok (.return_, 1) := by decide +kernel
theorem dX3_firstByte_0 : decode cX3_firstByte 0 = .ok (.aload_n 0, 1) := by decide +kernel
theorem dX3_firstByte_1 : decode cX3_firstByte 1 = .ok (.getfield 22, 3) := by decide +kernel
theorem dX3_firstByte_4 : decode cX3_firstByte 4 = .ok (.sipush 1024, 3) := by decide +kernel
theorem dX3_firstByte_7 : decode cX3_firstByte 7 = .ok (.imul, 1) := by decide +kernel
theorem dX3_firstByte_8 : decode cX3_firstByte 8 = .ok (.ireturn, 1) := by decide +kernel
theorem dX3_beginOf_0 : decode cX3_beginOf 0 = .ok (.aload_n 0, 1) := by decide +kernel
theorem dX3_beginOf_1 : decode cX3_beginOf 1 = .ok (.invokevirtual 49, 3) := by decide +kernel
theorem dX3_beginOf_4 : decode cX3_beginOf 4 = .ok (.aload_n 0, 1) := by decide +kernel
theorem dX3_beginOf_5 : decode cX3_beginOf 5 = .ok (.getfield 25, 3) := by decide +kernel
theorem dX3_beginOf_8 : decode cX3_beginOf 8 = .ok (.aload_n 0, 1) := by decide +kernel
theorem dX3_beginOf_9 : decode cX3_beginOf 9 = .ok (.getfield 18, 3) := by decide +kernel
theorem dX3_beginOf_12 : decode cX3_beginOf 12 = .ok (.getfield 53, 3) := by decide +kernel
theorem dX3_beginOf_15 : decode cX3_beginOf 15 = .ok (.imul, 1) := by decide +kernel
theorem dX3_beginOf_16 : decode cX3_beginOf 16 = .ok (.iadd, 1) := by decide +kernel
theorem dX3_beginOf_17 : decode cX3_beginOf 17 = .ok (.iload_n 1, 1) := by decide +kernel
theorem dX3_beginOf_18 : decode cX3_beginOf 18 = .ok (.aload_n 0, 1) := by decide +kernel
theorem dX3_beginOf_19 : decode cX3_beginOf 19 = .ok (.getfield 18, 3) := by decide +kernel
theorem dX3_beginOf_22 : decode cX3_beginOf 22 = .ok (.getfield 56, 3) := by decide +kernel
theorem dX3_beginOf_25 : decode cX3_beginOf 25 = .ok (.imul, 1) := by decide +kernel
theorem dX3_beginOf_26 : decode cX3_beginOf 26 = .ok (.iadd, 1) := by decide +kernel
theorem dX3_beginOf_27 : decode cX3_beginOf 27 = .ok (.ireturn, 1) := by decide +kernel
theorem dX3_numberOver_0 : decode cX3_numberOver 0 = .ok (.iload_n 1, 1) := by decide +kernel
theorem dX3_numberOver_1 : decode cX3_numberOver 1 = .ok (.aload_n 0, 1) := by decide +kernel
theorem dX3_numberOver_2 : decode cX3_numberOver 2 = .ok (.iconst 0, 1) := by decide +kernel
theorem dX3_numberOver_3 : decode cX3_numberOver 3 = .ok (.invokevirtual 59, 3) := by decide +kernel
theorem dX3_numberOver_6 : decode cX3_numberOver 6 = .ok (.isub, 1) := by decide +kernel
theorem dX3_numberOver_7 : decode cX3_numberOver 7 = .ok (.istore_n 2, 1) := by decide +kernel
theorem dX3_numberOver_8 : decode cX3_numberOver 8 = .ok (.iload_n 2, 1) := by decide +kernel
theorem dX3_numberOver_9 : decode cX3_numberOver 9 = .ok (.ifCond .lt 13, 3) := by decide +kernel
theorem dX3_numberOver_12 : decode cX3_numberOver 12 = .ok (.aload_n 0, 1) := by decide +kernel
theorem dX3_numberOver_13 : decode cX3_numberOver 13 = .ok (.getfield 18, 3) := by decide +kernel
theorem dX3_numberOver_16 : decode cX3_numberOver 16 = .ok (.getfield 56, 3) := by decide +kernel
theorem dX3_numberOver_19 : decode cX3_numberOver 19 = .ok (.ifCond .gt 5, 3) := by decide +kernel
theorem dX3_numberOver_22 : decode cX3_numberOver 22 = .ok (.iconst (-1), 1) := by decide +kernel
theorem dX3_numberOver_23 : decode cX3_numberOver 23 = .ok (.ireturn, 1) := by decide +kernel
theorem dX3_numberOver_24 : decode cX3_numberOver 24 = .ok (.iload_n 2, 1) := by decide +kernel
theorem dX3_numberOver_25 : decode cX3_numberOver 25 = .ok (.aload_n 0, 1) := by decide +kernel
theorem dX3_numberOver_26 : decode cX3_numberOver 26 = .ok (.getfield 18, 3) := by decide +kernel
theorem dX3_numberOver_29 : decode cX3_numberOver 29 = .ok (.getfield 56, 3) := by decide +kernel
theorem dX3_numberOver_32 : decode cX3_numberOver 32 = .ok (.idiv, 1) := by decide +kernel
theorem dX3_numberOver_33 : decode cX3_numberOver 33 = .ok (.istore_n 3, 1) := by decide +kernel
theorem dX3_numberOver_34 : decode cX3_numberOver 34 = .ok (.iload_n 3, 1) := by decide +kernel
theorem dX3_numberOver_35 : decode cX3_numberOver 35 = .ok (.aload_n 0, 1) := by decide +kernel
theorem dX3_numberOver_36 : decode cX3_numberOver 36 = .ok (.getfield 18, 3) := by decide +kernel
theorem dX3_numberOver_39 : decode cX3_numberOver 39 = .ok (.getfield 28, 3) := by decide +kernel
theorem dX3_numberOver_42 : decode cX3_numberOver 42 = .ok (.if_icmp .ge 7, 3) := by decide +kernel
theorem dX3_numberOver_45 : decode cX3_numberOver 45 = .ok (.iload_n 3, 1) := by decide +kernel
theorem dX3_numberOver_46 : decode cX3_numberOver 46 = .ok (.goto 4, 3) := by decide +kernel
theorem dX3_numberOver_49 : decode cX3_numberOver 49 = .ok (.iconst (-1), 1) := by decide +kernel
theorem dX3_numberOver_50 : decode cX3_numberOver 50 = .ok (.ireturn, 1) := by decide +kernel
theorem dX3_isLive_0 : decode cX3_isLive 0 = .ok (.aload_n 0, 1) := by decide +kernel
theorem dX3_isLive_1 : decode cX3_isLive 1 = .ok (.iload_n 1, 1) := by decide +kernel
theorem dX3_isLive_2 : decode cX3_isLive 2 = .ok (.invokevirtual 63, 3) := by decide +kernel
theorem dX3_isLive_5 : decode cX3_isLive 5 = .ok (.ifCond .eq 18, 3) := by decide +kernel
theorem dX3_isLive_8 : decode cX3_isLive 8 = .ok (.aload_n 0, 1) := by decide +kernel
theorem dX3_isLive_9 : decode cX3_isLive 9 = .ok (.getfield 42, 3) := by decide +kernel
theorem dX3_isLive_12 : decode cX3_isLive 12 = .ok (.iload_n 1, 1) := by decide +kernel
theorem dX3_isLive_13 : decode cX3_isLive 13 = .ok (.iaload, 1) := by decide +kernel
theorem dX3_isLive_14 : decode cX3_isLive 14 = .ok (.bipush (-2), 2) := by decide +kernel
theorem dX3_isLive_16 : decode cX3_isLive 16 = .ok (.if_icmp .ne 7, 3) := by decide +kernel
theorem dX3_isLive_19 : decode cX3_isLive 19 = .ok (.iconst 1, 1) := by decide +kernel
theorem dX3_isLive_20 : decode cX3_isLive 20 = .ok (.goto 4, 3) := by decide +kernel
theorem dX3_isLive_23 : decode cX3_isLive 23 = .ok (.iconst 0, 1) := by decide +kernel
theorem dX3_isLive_24 : decode cX3_isLive 24 = .ok (.ireturn, 1) := by decide +kernel
theorem dX3_liveBeginsAt_0 : decode cX3_liveBeginsAt 0 = .ok (.aload_n 0, 1) := by decide +kernel
theorem dX3_liveBeginsAt_1 : decode cX3_liveBeginsAt 1 = .ok (.iload_n 1, 1) := by decide +kernel
theorem dX3_liveBeginsAt_2 : decode cX3_liveBeginsAt 2 = .ok (.invokevirtual 67, 3) := by decide +kernel
theorem dX3_liveBeginsAt_5 : decode cX3_liveBeginsAt 5 = .ok (.istore_n 2, 1) := by decide +kernel
theorem dX3_liveBeginsAt_6 : decode cX3_liveBeginsAt 6 = .ok (.aload_n 0, 1) := by decide +kernel
theorem dX3_liveBeginsAt_7 : decode cX3_liveBeginsAt 7 = .ok (.iload_n 2, 1) := by decide +kernel
theorem dX3_liveBeginsAt_8 : decode cX3_liveBeginsAt 8 = .ok (.invokevirtual 70, 3) := by decide +kernel
theorem dX3_liveBeginsAt_11 : decode cX3_liveBeginsAt 11 = .ok (.ifCond .eq 16, 3) := by decide +kernel
theorem dX3_liveBeginsAt_14 : decode cX3_liveBeginsAt 14 = .ok (.aload_n 0, 1) := by decide +kernel
theorem dX3_liveBeginsAt_15 : decode cX3_liveBeginsAt 15 = .ok (.iload_n 2, 1) := by decide +kernel
theorem dX3_liveBeginsAt_16 : decode cX3_liveBeginsAt 16 = .ok (.invokevirtual 59, 3) := by decide +kernel
theorem dX3_liveBeginsAt_19 : decode cX3_liveBeginsAt 19 = .ok (.iload_n 1, 1) := by decide +kernel
theorem dX3_liveBeginsAt_20 : decode cX3_liveBeginsAt 20 = .ok (.if_icmp .ne 7, 3) := by decide +kernel
theorem dX3_liveBeginsAt_23 : decode cX3_liveBeginsAt 23 = .ok (.iconst 1, 1) := by decide +kernel
theorem dX3_liveBeginsAt_24 : decode cX3_liveBeginsAt 24 = .ok (.goto 4, 3) := by decide +kernel
theorem dX3_liveBeginsAt_27 : decode cX3_liveBeginsAt 27 = .ok (.iconst 0, 1) := by decide +kernel
theorem dX3_liveBeginsAt_28 : decode cX3_liveBeginsAt 28 = .ok (.ireturn, 1) := by decide +kernel
theorem dX3_markOf_0 : decode cX3_markOf 0 = .ok (.aload_n 0, 1) := by decide +kernel
theorem dX3_markOf_1 : decode cX3_markOf 1 = .ok (.iload_n 1, 1) := by decide +kernel
theorem dX3_markOf_2 : decode cX3_markOf 2 = .ok (.invokevirtual 63, 3) := by decide +kernel
theorem dX3_markOf_5 : decode cX3_markOf 5 = .ok (.ifCond .eq 12, 3) := by decide +kernel
theorem dX3_markOf_8 : decode cX3_markOf 8 = .ok (.aload_n 0, 1) := by decide +kernel
theorem dX3_markOf_9 : decode cX3_markOf 9 = .ok (.getfield 46, 3) := by decide +kernel
theorem dX3_markOf_12 : decode cX3_markOf 12 = .ok (.iload_n 1, 1) := by decide +kernel
theorem dX3_markOf_13 : decode cX3_markOf 13 = .ok (.iaload, 1) := by decide +kernel
theorem dX3_markOf_14 : decode cX3_markOf 14 = .ok (.goto 10, 3) := by decide +kernel
theorem dX3_markOf_17 : decode cX3_markOf 17 = .ok (.aload_n 0, 1) := by decide +kernel
theorem dX3_markOf_18 : decode cX3_markOf 18 = .ok (.getfield 18, 3) := by decide +kernel
theorem dX3_markOf_21 : decode cX3_markOf 21 = .ok (.getfield 73, 3) := by decide +kernel
theorem dX3_markOf_24 : decode cX3_markOf 24 = .ok (.ireturn, 1) := by decide +kernel
theorem dX3_changeMark_0 : decode cX3_changeMark 0 = .ok (.aload_n 0, 1) := by decide +kernel
theorem dX3_changeMark_1 : decode cX3_changeMark 1 = .ok (.iload_n 1, 1) := by decide +kernel
theorem dX3_changeMark_2 : decode cX3_changeMark 2 = .ok (.invokevirtual 76, 3) := by decide +kernel
theorem dX3_changeMark_5 : decode cX3_changeMark 5 = .ok (.istore_n 3, 1) := by decide +kernel
theorem dX3_changeMark_6 : decode cX3_changeMark 6 = .ok (.aload_n 0, 1) := by decide +kernel
theorem dX3_changeMark_7 : decode cX3_changeMark 7 = .ok (.iload_n 1, 1) := by decide +kernel
theorem dX3_changeMark_8 : decode cX3_changeMark 8 = .ok (.invokevirtual 63, 3) := by decide +kernel
theorem dX3_changeMark_11 : decode cX3_changeMark 11 = .ok (.ifCond .eq 10, 3) := by decide +kernel
theorem dX3_changeMark_14 : decode cX3_changeMark 14 = .ok (.aload_n 0, 1) := by decide +kernel
theorem dX3_changeMark_15 : decode cX3_changeMark 15 = .ok (.getfield 46, 3) := by decide +kernel
theorem dX3_changeMark_18 : decode cX3_changeMark 18 = .ok (.iload_n 1, 1) := by decide +kernel
theorem dX3_changeMark_19 : decode cX3_changeMark 19 = .ok (.iload_n 2, 1) := by decide +kernel
theorem dX3_changeMark_20 : decode cX3_changeMark 20 = .ok (.iastore, 1) := by decide +kernel
theorem dX3_changeMark_21 : decode cX3_changeMark 21 = .ok (.iload_n 3, 1) := by decide +kernel
theorem dX3_changeMark_22 : decode cX3_changeMark 22 = .ok (.ireturn, 1) := by decide +kernel
theorem dX3_kind_0 : decode cX3_kind 0 = .ok (.aload_n 0, 1) := by decide +kernel
theorem dX3_kind_1 : decode cX3_kind 1 = .ok (.getfield 79, 3) := by decide +kernel
theorem dX3_kind_4 : decode cX3_kind 4 = .ok (.aload_n 0, 1) := by decide +kernel
theorem dX3_kind_5 : decode cX3_kind 5 = .ok (.getfield 18, 3) := by decide +kernel
theorem dX3_kind_8 : decode cX3_kind 8 = .ok (.getfield 28, 3) := by decide +kernel
theorem dX3_kind_11 : decode cX3_kind 11 = .ok (.if_icmp .lt 5, 3) := by decide +kernel
theorem dX3_kind_14 : decode cX3_kind 14 = .ok (.iconst 0, 1) := by decide +kernel
theorem dX3_kind_15 : decode cX3_kind 15 = .ok (.ireturn, 1) := by decide +kernel
theorem dX3_kind_16 : decode cX3_kind 16 = .ok (.aload_n 0, 1) := by decide +kernel
theorem dX3_kind_17 : decode cX3_kind 17 = .ok (.getfield 79, 3) := by decide +kernel
theorem dX3_kind_20 : decode cX3_kind 20 = .ok (.ifCond .ne 7, 3) := by decide +kernel
theorem dX3_kind_23 : decode cX3_kind 23 = .ok (.iconst 2, 1) := by decide +kernel
theorem dX3_kind_24 : decode cX3_kind 24 = .ok (.goto 4, 3) := by decide +kernel
theorem dX3_kind_27 : decode cX3_kind 27 = .ok (.iconst 1, 1) := by decide +kernel
theorem dX3_kind_28 : decode cX3_kind 28 = .ok (.ireturn, 1) := by decide +kernel
theorem dX3_firstFree_0 : decode cX3_firstFree 0 = .ok (.aload_n 0, 1) := by decide +kernel
theorem dX3_firstFree_1 : decode cX3_firstFree 1 = .ok (.getfield 15, 3) := by decide +kernel
theorem dX3_firstFree_4 : decode cX3_firstFree 4 = .ok (.iconst (-1), 1) := by decide +kernel
theorem dX3_firstFree_5 : decode cX3_firstFree 5 = .ok (.if_icmp .eq 8, 3) := by decide +kernel
theorem dX3_firstFree_8 : decode cX3_firstFree 8 = .ok (.aload_n 0, 1) := by decide +kernel
theorem dX3_firstFree_9 : decode cX3_firstFree 9 = .ok (.getfield 15, 3) := by decide +kernel
theorem dX3_firstFree_12 : decode cX3_firstFree 12 = .ok (.ireturn, 1) := by decide +kernel
theorem dX3_firstFree_13 : decode cX3_firstFree 13 = .ok (.aload_n 0, 1) := by decide +kernel
theorem dX3_firstFree_14 : decode cX3_firstFree 14 = .ok (.getfield 82, 3) := by decide +kernel
theorem dX3_firstFree_17 : decode cX3_firstFree 17 = .ok (.aload_n 0, 1) := by decide +kernel
theorem dX3_firstFree_18 : decode cX3_firstFree 18 = .ok (.getfield 18, 3) := by decide +kernel
theorem dX3_firstFree_21 : decode cX3_firstFree 21 = .ok (.getfield 28, 3) := by decide +kernel
theorem dX3_firstFree_24 : decode cX3_firstFree 24 = .ok (.if_icmp .ge 10, 3) := by decide +kernel
theorem dX3_firstFree_27 : decode cX3_firstFree 27 = .ok (.aload_n 0, 1) := by decide +kernel
theorem dX3_firstFree_28 : decode cX3_firstFree 28 = .ok (.getfield 82, 3) := by decide +kernel
theorem dX3_firstFree_31 : decode cX3_firstFree 31 = .ok (.goto 4, 3) := by decide +kernel
theorem dX3_firstFree_34 : decode cX3_firstFree 34 = .ok (.iconst (-1), 1) := by decide +kernel
theorem dX3_firstFree_35 : decode cX3_firstFree 35 = .ok (.ireturn, 1) := by decide +kernel
theorem dX3_takeFirst_0 : decode cX3_takeFirst 0 = .ok (.aload_n 0, 1) := by decide +kernel
theorem dX3_takeFirst_1 : decode cX3_takeFirst 1 = .ok (.invokevirtual 85, 3) := by decide +kernel
theorem dX3_takeFirst_4 : decode cX3_takeFirst 4 = .ok (.istore_n 1, 1) := by decide +kernel
theorem dX3_takeFirst_5 : decode cX3_takeFirst 5 = .ok (.aload_n 0, 1) := by decide +kernel
theorem dX3_takeFirst_6 : decode cX3_takeFirst 6 = .ok (.iload_n 1, 1) := by decide +kernel
theorem dX3_takeFirst_7 : decode cX3_takeFirst 7 = .ok (.invokevirtual 63, 3) := by decide +kernel
theorem dX3_takeFirst_10 : decode cX3_takeFirst 10 = .ok (.ifCond .eq 26, 3) := by decide +kernel
theorem dX3_takeFirst_13 : decode cX3_takeFirst 13 = .ok (.aload_n 0, 1) := by decide +kernel
theorem dX3_takeFirst_14 : decode cX3_takeFirst 14 = .ok (.aload_n 0, 1) := by decide +kernel
theorem dX3_takeFirst_15 : decode cX3_takeFirst 15 = .ok (.getfield 42, 3) := by decide +kernel
theorem dX3_takeFirst_18 : decode cX3_takeFirst 18 = .ok (.iload_n 1, 1) := by decide +kernel
theorem dX3_takeFirst_19 : decode cX3_takeFirst 19 = .ok (.iaload, 1) := by decide +kernel
theorem dX3_takeFirst_20 : decode cX3_takeFirst 20 = .ok (.putfield 15, 3) := by decide +kernel
theorem dX3_takeFirst_23 : decode cX3_takeFirst 23 = .ok (.aload_n 0, 1) := by decide +kernel
theorem dX3_takeFirst_24 : decode cX3_takeFirst 24 = .ok (.dup, 1) := by decide +kernel
theorem dX3_takeFirst_25 : decode cX3_takeFirst 25 = .ok (.getfield 79, 3) := by decide +kernel
theorem dX3_takeFirst_28 : decode cX3_takeFirst 28 = .ok (.iconst 1, 1) := by decide +kernel
theorem dX3_takeFirst_29 : decode cX3_takeFirst 29 = .ok (.iadd, 1) := by decide +kernel
theorem dX3_takeFirst_30 : decode cX3_takeFirst 30 = .ok (.putfield 79, 3) := by decide +kernel
theorem dX3_takeFirst_33 : decode cX3_takeFirst 33 = .ok (.goto 48, 3) := by decide +kernel
theorem dX3_takeFirst_36 : decode cX3_takeFirst 36 = .ok (.iload_n 1, 1) := by decide +kernel
theorem dX3_takeFirst_37 : decode cX3_takeFirst 37 = .ok (.iconst (-1), 1) := by decide +kernel
theorem dX3_takeFirst_38 : decode cX3_takeFirst 38 = .ok (.if_icmp .eq 43, 3) := by decide +kernel
theorem dX3_takeFirst_41 : decode cX3_takeFirst 41 = .ok (.aload_n 0, 1) := by decide +kernel
theorem dX3_takeFirst_42 : decode cX3_takeFirst 42 = .ok (.invokevirtual 88, 3) := by decide +kernel
theorem dX3_takeFirst_45 : decode cX3_takeFirst 45 = .ok (.aload_n 0, 1) := by decide +kernel
theorem dX3_takeFirst_46 : decode cX3_takeFirst 46 = .ok (.getfield 46, 3) := by decide +kernel
theorem dX3_takeFirst_49 : decode cX3_takeFirst 49 = .ok (.aload_n 0, 1) := by decide +kernel
theorem dX3_takeFirst_50 : decode cX3_takeFirst 50 = .ok (.getfield 82, 3) := by decide +kernel
theorem dX3_takeFirst_53 : decode cX3_takeFirst 53 = .ok (.aload_n 0, 1) := by decide +kernel
theorem dX3_takeFirst_54 : decode cX3_takeFirst 54 = .ok (.getfield 18, 3) := by decide +kernel
theorem dX3_takeFirst_57 : decode cX3_takeFirst 57 = .ok (.getfield 73, 3) := by decide +kernel
theorem dX3_takeFirst_60 : decode cX3_takeFirst 60 = .ok (.iastore, 1) := by decide +kernel
theorem dX3_takeFirst_61 : decode cX3_takeFirst 61 = .ok (.aload_n 0, 1) := by decide +kernel
theorem dX3_takeFirst_62 : decode cX3_takeFirst 62 = .ok (.dup, 1) := by decide +kernel
theorem dX3_takeFirst_63 : decode cX3_takeFirst 63 = .ok (.getfield 82, 3) := by decide +kernel
theorem dX3_takeFirst_66 : decode cX3_takeFirst 66 = .ok (.iconst 1, 1) := by decide +kernel
theorem dX3_takeFirst_67 : decode cX3_takeFirst 67 = .ok (.iadd, 1) := by decide +kernel
theorem dX3_takeFirst_68 : decode cX3_takeFirst 68 = .ok (.putfield 82, 3) := by decide +kernel
theorem dX3_takeFirst_71 : decode cX3_takeFirst 71 = .ok (.aload_n 0, 1) := by decide +kernel
theorem dX3_takeFirst_72 : decode cX3_takeFirst 72 = .ok (.dup, 1) := by decide +kernel
theorem dX3_takeFirst_73 : decode cX3_takeFirst 73 = .ok (.getfield 79, 3) := by decide +kernel
theorem dX3_takeFirst_76 : decode cX3_takeFirst 76 = .ok (.iconst 1, 1) := by decide +kernel
theorem dX3_takeFirst_77 : decode cX3_takeFirst 77 = .ok (.iadd, 1) := by decide +kernel
theorem dX3_takeFirst_78 : decode cX3_takeFirst 78 = .ok (.putfield 79, 3) := by decide +kernel
theorem dX3_takeFirst_81 : decode cX3_takeFirst 81 = .ok (.iload_n 1, 1) := by decide +kernel
theorem dX3_takeFirst_82 : decode cX3_takeFirst 82 = .ok (.ireturn, 1) := by decide +kernel
theorem dX3_become_0 : decode cX3_become 0 = .ok (.aload_n 0, 1) := by decide +kernel
theorem dX3_become_1 : decode cX3_become 1 = .ok (.iload_n 1, 1) := by decide +kernel
theorem dX3_become_2 : decode cX3_become 2 = .ok (.invokevirtual 63, 3) := by decide +kernel
theorem dX3_become_5 : decode cX3_become 5 = .ok (.ifCond .eq 10, 3) := by decide +kernel
theorem dX3_become_8 : decode cX3_become 8 = .ok (.aload_n 0, 1) := by decide +kernel
theorem dX3_become_9 : decode cX3_become 9 = .ok (.getfield 42, 3) := by decide +kernel
theorem dX3_become_12 : decode cX3_become 12 = .ok (.iload_n 1, 1) := by decide +kernel
theorem dX3_become_13 : decode cX3_become 13 = .ok (.iload_n 2, 1) := by decide +kernel
theorem dX3_become_14 : decode cX3_become 14 = .ok (.iastore, 1) := by decide +kernel
theorem dX3_become_15 : decode cX3_become 15 = .ok (.return_, 1) := by decide +kernel
theorem dX3_putFirst_0 : decode cX3_putFirst 0 = .ok (.aload_n 0, 1) := by decide +kernel
theorem dX3_putFirst_1 : decode cX3_putFirst 1 = .ok (.iload_n 1, 1) := by decide +kernel
theorem dX3_putFirst_2 : decode cX3_putFirst 2 = .ok (.invokevirtual 63, 3) := by decide +kernel
theorem dX3_putFirst_5 : decode cX3_putFirst 5 = .ok (.ifCond .eq 28, 3) := by decide +kernel
theorem dX3_putFirst_8 : decode cX3_putFirst 8 = .ok (.aload_n 0, 1) := by decide +kernel
theorem dX3_putFirst_9 : decode cX3_putFirst 9 = .ok (.getfield 42, 3) := by decide +kernel
theorem dX3_putFirst_12 : decode cX3_putFirst 12 = .ok (.iload_n 1, 1) := by decide +kernel
theorem dX3_putFirst_13 : decode cX3_putFirst 13 = .ok (.aload_n 0, 1) := by decide +kernel
theorem dX3_putFirst_14 : decode cX3_putFirst 14 = .ok (.getfield 15, 3) := by decide +kernel
theorem dX3_putFirst_17 : decode cX3_putFirst 17 = .ok (.iastore, 1) := by decide +kernel
theorem dX3_putFirst_18 : decode cX3_putFirst 18 = .ok (.aload_n 0, 1) := by decide +kernel
theorem dX3_putFirst_19 : decode cX3_putFirst 19 = .ok (.iload_n 1, 1) := by decide +kernel
theorem dX3_putFirst_20 : decode cX3_putFirst 20 = .ok (.putfield 15, 3) := by decide +kernel
theorem dX3_putFirst_23 : decode cX3_putFirst 23 = .ok (.aload_n 0, 1) := by decide +kernel
theorem dX3_putFirst_24 : decode cX3_putFirst 24 = .ok (.dup, 1) := by decide +kernel
theorem dX3_putFirst_25 : decode cX3_putFirst 25 = .ok (.getfield 79, 3) := by decide +kernel
theorem dX3_putFirst_28 : decode cX3_putFirst 28 = .ok (.iconst 1, 1) := by decide +kernel
theorem dX3_putFirst_29 : decode cX3_putFirst 29 = .ok (.isub, 1) := by decide +kernel
theorem dX3_putFirst_30 : decode cX3_putFirst 30 = .ok (.putfield 79, 3) := by decide +kernel
theorem dX3_putFirst_33 : decode cX3_putFirst 33 = .ok (.return_, 1) := by decide +kernel
theorem dX3_wasTaken_0 : decode cX3_wasTaken 0 = .ok (.iload_n 1, 1) := by decide +kernel
theorem dX3_wasTaken_1 : decode cX3_wasTaken 1 = .ok (.ifCond .lt 15, 3) := by decide +kernel
theorem dX3_wasTaken_4 : decode cX3_wasTaken 4 = .ok (.iload_n 1, 1) := by decide +kernel
theorem dX3_wasTaken_5 : decode cX3_wasTaken 5 = .ok (.aload_n 0, 1) := by decide +kernel
theorem dX3_wasTaken_6 : decode cX3_wasTaken 6 = .ok (.getfield 82, 3) := by decide +kernel
theorem dX3_wasTaken_9 : decode cX3_wasTaken 9 = .ok (.if_icmp .ge 7, 3) := by decide +kernel
theorem dX3_wasTaken_12 : decode cX3_wasTaken 12 = .ok (.iconst 1, 1) := by decide +kernel
theorem dX3_wasTaken_13 : decode cX3_wasTaken 13 = .ok (.goto 4, 3) := by decide +kernel
theorem dX3_wasTaken_16 : decode cX3_wasTaken 16 = .ok (.iconst 0, 1) := by decide +kernel
theorem dX3_wasTaken_17 : decode cX3_wasTaken 17 = .ok (.ireturn, 1) := by decide +kernel
theorem dX3_makeRoomForOne_0 : decode cX3_makeRoomForOne 0 = .ok (.aload_n 0, 1) := by decide +kernel
theorem dX3_makeRoomForOne_1 : decode cX3_makeRoomForOne 1 = .ok (.getfield 82, 3) := by decide +kernel
theorem dX3_makeRoomForOne_4 : decode cX3_makeRoomForOne 4 = .ok (.aload_n 0, 1) := by decide +kernel
theorem dX3_makeRoomForOne_5 : decode cX3_makeRoomForOne 5 = .ok (.getfield 42, 3) := by decide +kernel
theorem dX3_makeRoomForOne_8 : decode cX3_makeRoomForOne 8 = .ok (.arraylength, 1) := by decide +kernel
theorem dX3_makeRoomForOne_9 : decode cX3_makeRoomForOne 9 = .ok (.if_icmp .lt 45, 3) := by decide +kernel
theorem dX3_makeRoomForOne_12 : decode cX3_makeRoomForOne 12 = .ok (.aload_n 0, 1) := by decide +kernel
theorem dX3_makeRoomForOne_13 : decode cX3_makeRoomForOne 13 = .ok (.getfield 18, 3) := by decide +kernel
theorem dX3_makeRoomForOne_16 : decode cX3_makeRoomForOne 16 = .ok (.getfield 28, 3) := by decide +kernel
theorem dX3_makeRoomForOne_19 : decode cX3_makeRoomForOne 19 = .ok (.iconst 2, 1) := by decide +kernel
theorem dX3_makeRoomForOne_20 : decode cX3_makeRoomForOne 20 = .ok (.aload_n 0, 1) := by decide +kernel
theorem dX3_makeRoomForOne_21 : decode cX3_makeRoomForOne 21 = .ok (.getfield 42, 3) := by decide +kernel
theorem dX3_makeRoomForOne_24 : decode cX3_makeRoomForOne 24 = .ok (.arraylength, 1) := by decide +kernel
theorem dX3_makeRoomForOne_25 : decode cX3_makeRoomForOne 25 = .ok (.imul, 1) := by decide +kernel
theorem dX3_makeRoomForOne_26 : decode cX3_makeRoomForOne 26 = .ok (.invokestatic 33, 3) := by decide +kernel
theorem dX3_makeRoomForOne_29 : decode cX3_makeRoomForOne 29 = .ok (.istore_n 1, 1) := by decide +kernel
theorem dX3_makeRoomForOne_30 : decode cX3_makeRoomForOne 30 = .ok (.aload_n 0, 1) := by decide +kernel
theorem dX3_makeRoomForOne_31 : decode cX3_makeRoomForOne 31 = .ok (.aload_n 0, 1) := by decide +kernel
theorem dX3_makeRoomForOne_32 : decode cX3_makeRoomForOne 32 = .ok (.getfield 42, 3) := by decide +kernel
theorem dX3_makeRoomForOne_35 : decode cX3_makeRoomForOne 35 = .ok (.iload_n 1, 1) := by decide +kernel
theorem dX3_makeRoomForOne_36 : decode cX3_makeRoomForOne 36 = .ok (.invokestatic 91, 3) := by decide +kernel
theorem dX3_makeRoomForOne_39 : decode cX3_makeRoomForOne 39 = .ok (.putfield 42, 3) := by decide +kernel
theorem dX3_makeRoomForOne_42 : decode cX3_makeRoomForOne 42 = .ok (.aload_n 0, 1) := by decide +kernel
theorem dX3_makeRoomForOne_43 : decode cX3_makeRoomForOne 43 = .ok (.aload_n 0, 1) := by decide +kernel
theorem dX3_makeRoomForOne_44 : decode cX3_makeRoomForOne 44 = .ok (.getfield 46, 3) := by decide +kernel
theorem dX3_makeRoomForOne_47 : decode cX3_makeRoomForOne 47 = .ok (.iload_n 1, 1) := by decide +kernel
theorem dX3_makeRoomForOne_48 : decode cX3_makeRoomForOne 48 = .ok (.invokestatic 91, 3) := by decide +kernel
theorem dX3_makeRoomForOne_51 : decode cX3_makeRoomForOne 51 = .ok (.putfield 46, 3) := by decide +kernel
theorem dX3_makeRoomForOne_54 : decode cX3_makeRoomForOne 54 = .ok (.return_, 1) := by decide +kernel
theorem dX4_init_0 : decode cX4_init 0 = .ok (.aload_n 0, 1) := by decide +kernel
theorem dX4_init_1 : decode cX4_init 1 = .ok (.invokespecial 1, 3) := by decide +kernel
theorem dX4_init_4 : decode cX4_init 4 = .ok (.return_, 1) := by decide +kernel
theorem dX4_putFirst_0 : decode cX4_putFirst 0 = .ok (.aload_n 1, 1) := by decide +kernel
theorem dX4_putFirst_1 : decode cX4_putFirst 1 = .ok (.aconst_null, 1) := by decide +kernel
theorem dX4_putFirst_2 : decode cX4_putFirst 2 = .ok (.putfield 7, 3) := by decide +kernel
theorem dX4_putFirst_5 : decode cX4_putFirst 5 = .ok (.aload_n 1, 1) := by decide +kernel
theorem dX4_putFirst_6 : decode cX4_putFirst 6 = .ok (.aload_n 0, 1) := by decide +kernel
theorem dX4_putFirst_7 : decode cX4_putFirst 7 = .ok (.getfield 13, 3) := by decide +kernel
theorem dX4_putFirst_10 : decode cX4_putFirst 10 = .ok (.putfield 18, 3) := by decide +kernel
theorem dX4_putFirst_13 : decode cX4_putFirst 13 = .ok (.aload_n 0, 1) := by decide +kernel
theorem dX4_putFirst_14 : decode cX4_putFirst 14 = .ok (.getfield 13, 3) := by decide +kernel
theorem dX4_putFirst_17 : decode cX4_putFirst 17 = .ok (.ifnull 11, 3) := by decide +kernel
theorem dX4_putFirst_20 : decode cX4_putFirst 20 = .ok (.aload_n 0, 1) := by decide +kernel
theorem dX4_putFirst_21 : decode cX4_putFirst 21 = .ok (.getfield 13, 3) := by decide +kernel
theorem dX4_putFirst_24 : decode cX4_putFirst 24 = .ok (.aload_n 1, 1) := by decide +kernel
theorem dX4_putFirst_25 : decode cX4_putFirst 25 = .ok (.putfield 7, 3) := by decide +kernel
theorem dX4_putFirst_28 : decode cX4_putFirst 28 = .ok (.aload_n 0, 1) := by decide +kernel
theorem dX4_putFirst_29 : decode cX4_putFirst 29 = .ok (.aload_n 1, 1) := by decide +kernel
theorem dX4_putFirst_30 : decode cX4_putFirst 30 = .ok (.putfield 13, 3) := by decide +kernel
theorem dX4_putFirst_33 : decode cX4_putFirst 33 = .ok (.return_, 1) := by decide +kernel
theorem dX4_remove_0 : decode cX4_remove 0 = .ok (.aload_n 1, 1) := by decide +kernel
theorem dX4_remove_1 : decode cX4_remove 1 = .ok (.getfield 7, 3) := by decide +kernel
theorem dX4_remove_4 : decode cX4_remove 4 = .ok (.ifnonnull 14, 3) := by decide +kernel
theorem dX4_remove_7 : decode cX4_remove 7 = .ok (.aload_n 0, 1) := by decide +kernel
theorem dX4_remove_8 : decode cX4_remove 8 = .ok (.aload_n 1, 1) := by decide +kernel
theorem dX4_remove_9 : decode cX4_remove 9 = .ok (.getfield 18, 3) := by decide +kernel
theorem dX4_remove_12 : decode cX4_remove 12 = .ok (.putfield 13, 3) := by decide +kernel
theorem dX4_remove_15 : decode cX4_remove 15 = .ok (.goto 14, 3) := by decide +kernel
theorem dX4_remove_18 : decode cX4_remove 18 = .ok (.aload_n 1, 1) := by decide +kernel
theorem dX4_remove_19 : decode cX4_remove 19 = .ok (.getfield 7, 3) := by decide +kernel
theorem dX4_remove_22 : decode cX4_remove 22 = .ok (.aload_n 1, 1) := by decide +kernel
theorem dX4_remove_23 : decode cX4_remove 23 = .ok (.getfield 18, 3) := by decide +kernel
theorem dX4_remove_26 : decode cX4_remove 26 = .ok (.putfield 18, 3) := by decide +kernel
theorem dX4_remove_29 : decode cX4_remove 29 = .ok (.aload_n 1, 1) := by decide +kernel
theorem dX4_remove_30 : decode cX4_remove 30 = .ok (.getfield 18, 3) := by decide +kernel
theorem dX4_remove_33 : decode cX4_remove 33 = .ok (.ifnull 14, 3) := by decide +kernel
theorem dX4_remove_36 : decode cX4_remove 36 = .ok (.aload_n 1, 1) := by decide +kernel
theorem dX4_remove_37 : decode cX4_remove 37 = .ok (.getfield 18, 3) := by decide +kernel
theorem dX4_remove_40 : decode cX4_remove 40 = .ok (.aload_n 1, 1) := by decide +kernel
theorem dX4_remove_41 : decode cX4_remove 41 = .ok (.getfield 7, 3) := by decide +kernel
theorem dX4_remove_44 : decode cX4_remove 44 = .ok (.putfield 7, 3) := by decide +kernel
theorem dX4_remove_47 : decode cX4_remove 47 = .ok (.aload_n 1, 1) := by decide +kernel
theorem dX4_remove_48 : decode cX4_remove 48 = .ok (.aconst_null, 1) := by decide +kernel
theorem dX4_remove_49 : decode cX4_remove 49 = .ok (.putfield 7, 3) := by decide +kernel
theorem dX4_remove_52 : decode cX4_remove 52 = .ok (.aload_n 1, 1) := by decide +kernel
theorem dX4_remove_53 : decode cX4_remove 53 = .ok (.aconst_null, 1) := by decide +kernel
theorem dX4_remove_54 : decode cX4_remove 54 = .ok (.putfield 18, 3) := by decide +kernel
theorem dX4_remove_57 : decode cX4_remove 57 = .ok (.return_, 1) := by decide +kernel
theorem dX4_slabAtPlace_0 : decode cX4_slabAtPlace 0 = .ok (.iload_n 1, 1) := by decide +kernel
theorem dX4_slabAtPlace_1 : decode cX4_slabAtPlace 1 = .ok (.ifCond .ge 5, 3) := by decide +kernel
theorem dX4_slabAtPlace_4 : decode cX4_slabAtPlace 4 = .ok (.aconst_null, 1) := by decide +kernel
theorem dX4_slabAtPlace_5 : decode cX4_slabAtPlace 5 = .ok (.areturn, 1) := by decide +kernel
theorem dX4_slabAtPlace_6 : decode cX4_slabAtPlace 6 = .ok (.iload_n 1, 1) := by decide +kernel
theorem dX4_slabAtPlace_7 : decode cX4_slabAtPlace 7 = .ok (.istore_n 2, 1) := by decide +kernel
theorem dX4_slabAtPlace_8 : decode cX4_slabAtPlace 8 = .ok (.aload_n 0, 1) := by decide +kernel
theorem dX4_slabAtPlace_9 : decode cX4_slabAtPlace 9 = .ok (.getfield 13, 3) := by decide +kernel
theorem dX4_slabAtPlace_12 : decode cX4_slabAtPlace 12 = .ok (.astore_n 3, 1) := by decide +kernel
theorem dX4_slabAtPlace_13 : decode cX4_slabAtPlace 13 = .ok (.aload_n 3, 1) := by decide +kernel
theorem dX4_slabAtPlace_14 : decode cX4_slabAtPlace 14 = .ok (.ifnull 18, 3) := by decide +kernel
theorem dX4_slabAtPlace_17 : decode cX4_slabAtPlace 17 = .ok (.iload_n 2, 1) := by decide +kernel
theorem dX4_slabAtPlace_18 : decode cX4_slabAtPlace 18 = .ok (.ifCond .le 14, 3) := by decide +kernel
theorem dX4_slabAtPlace_21 : decode cX4_slabAtPlace 21 = .ok (.aload_n 3, 1) := by decide +kernel
theorem dX4_slabAtPlace_22 : decode cX4_slabAtPlace 22 = .ok (.getfield 18, 3) := by decide +kernel
theorem dX4_slabAtPlace_25 : decode cX4_slabAtPlace 25 = .ok (.astore_n 3, 1) := by decide +kernel
theorem dX4_slabAtPlace_26 : decode cX4_slabAtPlace 26 = .ok (.iinc 2 (-1), 3) := by decide +kernel
theorem dX4_slabAtPlace_29 : decode cX4_slabAtPlace 29 = .ok (.goto (-16), 3) := by decide +kernel
theorem dX4_slabAtPlace_32 : decode cX4_slabAtPlace 32 = .ok (.aload_n 3, 1) := by decide +kernel
theorem dX4_slabAtPlace_33 : decode cX4_slabAtPlace 33 = .ok (.areturn, 1) := by decide +kernel
theorem dX5_init_0 : decode cX5_init 0 = .ok (.aload_n 0, 1) := by decide +kernel
theorem dX5_init_1 : decode cX5_init 1 = .ok (.invokespecial 3, 3) := by decide +kernel
theorem dX5_init_4 : decode cX5_init 4 = .ok (.aload_n 0, 1) := by decide +kernel
theorem dX5_init_5 : decode cX5_init 5 = .ok (.new 9, 3) := by decide +kernel
theorem dX5_init_8 : decode cX5_init 8 = .ok (.dup, 1) := by decide +kernel
theorem dX5_init_9 : decode cX5_init 9 = .ok (.invokespecial 11, 3) := by decide +kernel
theorem dX5_init_12 : decode cX5_init 12 = .ok (.putfield 12, 3) := by decide +kernel
theorem dX5_init_15 : decode cX5_init 15 = .ok (.aload_n 0, 1) := by decide +kernel
theorem dX5_init_16 : decode cX5_init 16 = .ok (.sipush 256, 3) := by decide +kernel
theorem dX5_init_19 : decode cX5_init 19 = .ok (.anewarray 16, 3) := by decide +kernel
theorem dX5_init_22 : decode cX5_init 22 = .ok (.putfield 18, 3) := by decide +kernel
theorem dX5_init_25 : decode cX5_init 25 = .ok (.aload_n 0, 1) := by decide +kernel
theorem dX5_init_26 : decode cX5_init 26 = .ok (.bipush 8, 2) := by decide +kernel
theorem dX5_init_28 : decode cX5_init 28 = .ok (.anewarray 22, 3) := by decide +kernel
theorem dX5_init_31 : decode cX5_init 31 = .ok (.putfield 24, 3) := by decide +kernel
theorem dX5_init_34 : decode cX5_init 34 = .ok (.return_, 1) := by decide +kernel
theorem dX5_cache_0 : decode cX5_cache 0 = .ok (.iload_n 1, 1) := by decide +kernel
theorem dX5_cache_1 : decode cX5_cache 1 = .ok (.bipush 8, 2) := by decide +kernel
theorem dX5_cache_3 : decode cX5_cache 3 = .ok (.if_icmp .lt 17, 3) := by decide +kernel
theorem dX5_cache_6 : decode cX5_cache 6 = .ok (.iload_n 1, 1) := by decide +kernel
theorem dX5_cache_7 : decode cX5_cache 7 = .ok (.sipush 4096, 3) := by decide +kernel
theorem dX5_cache_10 : decode cX5_cache 10 = .ok (.if_icmp .gt 10, 3) := by decide +kernel
theorem dX5_cache_13 : decode cX5_cache 13 = .ok (.iload_n 1, 1) := by decide +kernel
theorem dX5_cache_14 : decode cX5_cache 14 = .ok (.bipush 8, 2) := by decide +kernel
theorem dX5_cache_16 : decode cX5_cache 16 = .ok (.irem, 1) := by decide +kernel
theorem dX5_cache_17 : decode cX5_cache 17 = .ok (.ifCond .eq 13, 3) := by decide +kernel
theorem dX5_cache_20 : decode cX5_cache 20 = .ok (.new 28, 3) := by decide +kernel
theorem dX5_cache_23 : decode cX5_cache 23 = .ok (.dup, 1) := by decide +kernel
theorem dX5_cache_24 : decode cX5_cache 24 = .ok (.ldc 30, 2) := by decide +kernel
theorem dX5_cache_26 : decode cX5_cache 26 = .ok (.invokespecial 32, 3) := by decide +kernel
theorem dX5_cache_29 : decode cX5_cache 29 = .ok (.athrow, 1) := by decide +kernel
theorem dX5_cache_30 : decode cX5_cache 30 = .ok (.iload_n 2, 1) := by decide +kernel
theorem dX5_cache_31 : decode cX5_cache 31 = .ok (.bipush 8, 2) := by decide +kernel
theorem dX5_cache_33 : decode cX5_cache 33 = .ok (.if_icmp .eq 31, 3) := by decide +kernel
theorem dX5_cache_36 : decode cX5_cache 36 = .ok (.iload_n 2, 1) := by decide +kernel
theorem dX5_cache_37 : decode cX5_cache 37 = .ok (.bipush 16, 2) := by decide +kernel
theorem dX5_cache_39 : decode cX5_cache 39 = .ok (.if_icmp .eq 25, 3) := by decide +kernel
theorem dX5_cache_42 : decode cX5_cache 42 = .ok (.iload_n 2, 1) := by decide +kernel
theorem dX5_cache_43 : decode cX5_cache 43 = .ok (.bipush 32, 2) := by decide +kernel
theorem dX5_cache_45 : decode cX5_cache 45 = .ok (.if_icmp .eq 19, 3) := by decide +kernel
theorem dX5_cache_48 : decode cX5_cache 48 = .ok (.iload_n 2, 1) := by decide +kernel
theorem dX5_cache_49 : decode cX5_cache 49 = .ok (.bipush 64, 2) := by decide +kernel
theorem dX5_cache_51 : decode cX5_cache 51 = .ok (.if_icmp .eq 13, 3) := by decide +kernel
theorem dX5_cache_54 : decode cX5_cache 54 = .ok (.new 28, 3) := by decide +kernel
theorem dX5_cache_57 : decode cX5_cache 57 = .ok (.dup, 1) := by decide +kernel
theorem dX5_cache_58 : decode cX5_cache 58 = .ok (.ldc 35, 2) := by decide +kernel
theorem dX5_cache_60 : decode cX5_cache 60 = .ok (.invokespecial 32, 3) := by decide +kernel
theorem dX5_cache_63 : decode cX5_cache 63 = .ok (.athrow, 1) := by decide +kernel
theorem dX5_cache_64 : decode cX5_cache 64 = .ok (.iload_n 3, 1) := by decide +kernel
theorem dX5_cache_65 : decode cX5_cache 65 = .ok (.ifCond .lt 8, 3) := by decide +kernel
theorem dX5_cache_68 : decode cX5_cache 68 = .ok (.iload_n 3, 1) := by decide +kernel
theorem dX5_cache_69 : decode cX5_cache 69 = .ok (.iconst 3, 1) := by decide +kernel
theorem dX5_cache_70 : decode cX5_cache 70 = .ok (.if_icmp .le 13, 3) := by decide +kernel
theorem dX5_cache_73 : decode cX5_cache 73 = .ok (.new 28, 3) := by decide +kernel
theorem dX5_cache_76 : decode cX5_cache 76 = .ok (.dup, 1) := by decide +kernel
theorem dX5_cache_77 : decode cX5_cache 77 = .ok (.ldc 37, 2) := by decide +kernel
theorem dX5_cache_79 : decode cX5_cache 79 = .ok (.invokespecial 32, 3) := by decide +kernel
theorem dX5_cache_82 : decode cX5_cache 82 = .ok (.athrow, 1) := by decide +kernel
theorem dX5_cache_83 : decode cX5_cache 83 = .ok (.iload_n 1, 1) := by decide +kernel
theorem dX5_cache_84 : decode cX5_cache 84 = .ok (.iload_n 2, 1) := by decide +kernel
theorem dX5_cache_85 : decode cX5_cache 85 = .ok (.invokestatic 39, 3) := by decide +kernel
theorem dX5_cache_88 : decode cX5_cache 88 = .ok (.sipush 1024, 3) := by decide +kernel
theorem dX5_cache_91 : decode cX5_cache 91 = .ok (.iload_n 3, 1) := by decide +kernel
theorem dX5_cache_92 : decode cX5_cache 92 = .ok (.ishl, 1) := by decide +kernel
theorem dX5_cache_93 : decode cX5_cache 93 = .ok (.if_icmp .le 13, 3) := by decide +kernel
theorem dX5_cache_96 : decode cX5_cache 96 = .ok (.new 28, 3) := by decide +kernel
theorem dX5_cache_99 : decode cX5_cache 99 = .ok (.dup, 1) := by decide +kernel
theorem dX5_cache_100 : decode cX5_cache 100 = .ok (.ldc 43, 2) := by decide +kernel
theorem dX5_cache_102 : decode cX5_cache 102 = .ok (.invokespecial 32, 3) := by decide +kernel
theorem dX5_cache_105 : decode cX5_cache 105 = .ok (.athrow, 1) := by decide +kernel
theorem dX5_cache_106 : decode cX5_cache 106 = .ok (.aload_n 0, 1) := by decide +kernel
theorem dX5_cache_107 : decode cX5_cache 107 = .ok (.getfield 45, 3) := by decide +kernel
theorem dX5_cache_110 : decode cX5_cache 110 = .ok (.bipush 8, 2) := by decide +kernel
theorem dX5_cache_112 : decode cX5_cache 112 = .ok (.if_icmp .lt 5, 3) := by decide +kernel
theorem dX5_cache_115 : decode cX5_cache 115 = .ok (.iconst (-1), 1) := by decide +kernel
theorem dX5_cache_116 : decode cX5_cache 116 = .ok (.ireturn, 1) := by decide +kernel
theorem dX5_cache_117 : decode cX5_cache 117 = .ok (.aload_n 0, 1) := by decide +kernel
theorem dX5_cache_118 : decode cX5_cache 118 = .ok (.getfield 45, 3) := by decide +kernel
theorem dX5_cache_121 : decode cX5_cache 121 = .ok (.istore 5, 2) := by decide +kernel
theorem dX5_cache_123 : decode cX5_cache 123 = .ok (.aload_n 0, 1) := by decide +kernel
theorem dX5_cache_124 : decode cX5_cache 124 = .ok (.getfield 24, 3) := by decide +kernel
theorem dX5_cache_127 : decode cX5_cache 127 = .ok (.iload 5, 2) := by decide +kernel
theorem dX5_cache_129 : decode cX5_cache 129 = .ok (.new 22, 3) := by decide +kernel
theorem dX5_cache_132 : decode cX5_cache 132 = .ok (.dup, 1) := by decide +kernel
theorem dX5_cache_133 : decode cX5_cache 133 = .ok (.iload 5, 2) := by decide +kernel
theorem dX5_cache_135 : decode cX5_cache 135 = .ok (.iload_n 1, 1) := by decide +kernel
theorem dX5_cache_136 : decode cX5_cache 136 = .ok (.iload_n 2, 1) := by decide +kernel
theorem dX5_cache_137 : decode cX5_cache 137 = .ok (.iload_n 3, 1) := by decide +kernel
theorem dX5_cache_138 : decode cX5_cache 138 = .ok (.iload 4, 2) := by decide +kernel
theorem dX5_cache_140 : decode cX5_cache 140 = .ok (.invokespecial 49, 3) := by decide +kernel
theorem dX5_cache_143 : decode cX5_cache 143 = .ok (.aastore, 1) := by decide +kernel
theorem dX5_cache_144 : decode cX5_cache 144 = .ok (.aload_n 0, 1) := by decide +kernel
theorem dX5_cache_145 : decode cX5_cache 145 = .ok (.dup, 1) := by decide +kernel
theorem dX5_cache_146 : decode cX5_cache 146 = .ok (.getfield 45, 3) := by decide +kernel
theorem dX5_cache_149 : decode cX5_cache 149 = .ok (.iconst 1, 1) := by decide +kernel
theorem dX5_cache_150 : decode cX5_cache 150 = .ok (.iadd, 1) := by decide +kernel
theorem dX5_cache_151 : decode cX5_cache 151 = .ok (.putfield 45, 3) := by decide +kernel
theorem dX5_cache_154 : decode cX5_cache 154 = .ok (.iload 5, 2) := by decide +kernel
theorem dX5_cache_156 : decode cX5_cache 156 = .ok (.ireturn, 1) := by decide +kernel
theorem dX5_drop_0 : decode cX5_drop 0 = .ok (.aload_n 0, 1) := by decide +kernel
theorem dX5_drop_1 : decode cX5_drop 1 = .ok (.iload_n 1, 1) := by decide +kernel
theorem dX5_drop_2 : decode cX5_drop 2 = .ok (.invokevirtual 52, 3) := by decide +kernel
theorem dX5_drop_5 : decode cX5_drop 5 = .ok (.astore_n 2, 1) := by decide +kernel
theorem dX5_drop_6 : decode cX5_drop 6 = .ok (.aload_n 2, 1) := by decide +kernel
theorem dX5_drop_7 : decode cX5_drop 7 = .ok (.getfield 56, 3) := by decide +kernel
theorem dX5_drop_10 : decode cX5_drop 10 = .ok (.ifCond .le 13, 3) := by decide +kernel
theorem dX5_drop_13 : decode cX5_drop 13 = .ok (.new 59, 3) := by decide +kernel
theorem dX5_drop_16 : decode cX5_drop 16 = .ok (.dup, 1) := by decide +kernel
theorem dX5_drop_17 : decode cX5_drop 17 = .ok (.ldc 61, 2) := by decide +kernel
theorem dX5_drop_19 : decode cX5_drop 19 = .ok (.invokespecial 63, 3) := by decide +kernel
theorem dX5_drop_22 : decode cX5_drop 22 = .ok (.athrow, 1) := by decide +kernel
theorem dX5_drop_23 : decode cX5_drop 23 = .ok (.iconst 0, 1) := by decide +kernel
theorem dX5_drop_24 : decode cX5_drop 24 = .ok (.istore_n 3, 1) := by decide +kernel
theorem dX5_drop_25 : decode cX5_drop 25 = .ok (.iconst 0, 1) := by decide +kernel
theorem dX5_drop_26 : decode cX5_drop 26 = .ok (.istore 4, 2) := by decide +kernel
theorem dX5_drop_28 : decode cX5_drop 28 = .ok (.iload 4, 2) := by decide +kernel
theorem dX5_drop_30 : decode cX5_drop 30 = .ok (.sipush 256, 3) := by decide +kernel
theorem dX5_drop_33 : decode cX5_drop 33 = .ok (.if_icmp .ge 41, 3) := by decide +kernel
theorem dX5_drop_36 : decode cX5_drop 36 = .ok (.aload_n 0, 1) := by decide +kernel
theorem dX5_drop_37 : decode cX5_drop 37 = .ok (.getfield 18, 3) := by decide +kernel
theorem dX5_drop_40 : decode cX5_drop 40 = .ok (.iload 4, 2) := by decide +kernel
theorem dX5_drop_42 : decode cX5_drop 42 = .ok (.aaload, 1) := by decide +kernel
theorem dX5_drop_43 : decode cX5_drop 43 = .ok (.astore 5, 2) := by decide +kernel
theorem dX5_drop_45 : decode cX5_drop 45 = .ok (.aload 5, 2) := by decide +kernel
theorem dX5_drop_47 : decode cX5_drop 47 = .ok (.ifnull 21, 3) := by decide +kernel
theorem dX5_drop_50 : decode cX5_drop 50 = .ok (.aload 5, 2) := by decide +kernel
theorem dX5_drop_52 : decode cX5_drop 52 = .ok (.getfield 64, 3) := by decide +kernel
theorem dX5_drop_55 : decode cX5_drop 55 = .ok (.aload_n 2, 1) := by decide +kernel
theorem dX5_drop_56 : decode cX5_drop 56 = .ok (.if_acmp .ne 12, 3) := by decide +kernel
theorem dX5_drop_59 : decode cX5_drop 59 = .ok (.iload_n 3, 1) := by decide +kernel
theorem dX5_drop_60 : decode cX5_drop 60 = .ok (.aload_n 0, 1) := by decide +kernel
theorem dX5_drop_61 : decode cX5_drop 61 = .ok (.aload 5, 2) := by decide +kernel
theorem dX5_drop_63 : decode cX5_drop 63 = .ok (.invokevirtual 68, 3) := by decide +kernel
theorem dX5_drop_66 : decode cX5_drop 66 = .ok (.iadd, 1) := by decide +kernel
theorem dX5_drop_67 : decode cX5_drop 67 = .ok (.istore_n 3, 1) := by decide +kernel
theorem dX5_drop_68 : decode cX5_drop 68 = .ok (.iinc 4 1, 3) := by decide +kernel
theorem dX5_drop_71 : decode cX5_drop 71 = .ok (.goto (-43), 3) := by decide +kernel
theorem dX5_drop_74 : decode cX5_drop 74 = .ok (.aload_n 0, 1) := by decide +kernel
theorem dX5_drop_75 : decode cX5_drop 75 = .ok (.getfield 24, 3) := by decide +kernel
theorem dX5_drop_78 : decode cX5_drop 78 = .ok (.aload_n 2, 1) := by decide +kernel
theorem dX5_drop_79 : decode cX5_drop 79 = .ok (.getfield 72, 3) := by decide +kernel
theorem dX5_drop_82 : decode cX5_drop 82 = .ok (.aconst_null, 1) := by decide +kernel
theorem dX5_drop_83 : decode cX5_drop 83 = .ok (.aastore, 1) := by decide +kernel
theorem dX5_drop_84 : decode cX5_drop 84 = .ok (.iload_n 3, 1) := by decide +kernel
theorem dX5_drop_85 : decode cX5_drop 85 = .ok (.ireturn, 1) := by decide +kernel
theorem dX5_allocate_0 : decode cX5_allocate 0 = .ok (.aload_n 0, 1) := by decide +kernel
theorem dX5_allocate_1 : decode cX5_allocate 1 = .ok (.iload_n 1, 1) := by decide +kernel
theorem dX5_allocate_2 : decode cX5_allocate 2 = .ok (.invokevirtual 52, 3) := by decide +kernel
theorem dX5_allocate_5 : decode cX5_allocate 5 = .ok (.astore_n 3, 1) := by decide +kernel
theorem dX5_allocate_6 : decode cX5_allocate 6 = .ok (.iload_n 2, 1) := by decide +kernel
theorem dX5_allocate_7 : decode cX5_allocate 7 = .ok (.invokestatic 75, 3) := by decide +kernel
theorem dX5_allocate_10 : decode cX5_allocate 10 = .ok (.aload_n 3, 1) := by decide +kernel
theorem dX5_allocate_11 : decode cX5_allocate 11 = .ok (.iload_n 2, 1) := by decide +kernel
theorem dX5_allocate_12 : decode cX5_allocate 12 = .ok (.invokevirtual 79, 3) := by decide +kernel
theorem dX5_allocate_15 : decode cX5_allocate 15 = .ok (.istore 4, 2) := by decide +kernel
theorem dX5_allocate_17 : decode cX5_allocate 17 = .ok (.iload 4, 2) := by decide +kernel
theorem dX5_allocate_19 : decode cX5_allocate 19 = .ok (.iconst (-1), 1) := by decide +kernel
theorem dX5_allocate_20 : decode cX5_allocate 20 = .ok (.if_icmp .ne 10, 3) := by decide +kernel
theorem dX5_allocate_23 : decode cX5_allocate 23 = .ok (.aload_n 0, 1) := by decide +kernel
theorem dX5_allocate_24 : decode cX5_allocate 24 = .ok (.aload_n 3, 1) := by decide +kernel
theorem dX5_allocate_25 : decode cX5_allocate 25 = .ok (.invokevirtual 83, 3) := by decide +kernel
theorem dX5_allocate_28 : decode cX5_allocate 28 = .ok (.istore 4, 2) := by decide +kernel
theorem dX5_allocate_30 : decode cX5_allocate 30 = .ok (.aload_n 0, 1) := by decide +kernel
theorem dX5_allocate_31 : decode cX5_allocate 31 = .ok (.iload 4, 2) := by decide +kernel
theorem dX5_allocate_33 : decode cX5_allocate 33 = .ok (.invokevirtual 87, 3) := by decide +kernel
theorem dX5_allocate_36 : decode cX5_allocate 36 = .ok (.astore 5, 2) := by decide +kernel
theorem dX5_allocate_38 : decode cX5_allocate 38 = .ok (.aload 5, 2) := by decide +kernel
theorem dX5_allocate_40 : decode cX5_allocate 40 = .ok (.ifnonnull 15, 3) := by decide +kernel
theorem dX5_allocate_43 : decode cX5_allocate 43 = .ok (.aload_n 3, 1) := by decide +kernel
theorem dX5_allocate_44 : decode cX5_allocate 44 = .ok (.dup, 1) := by decide +kernel
theorem dX5_allocate_45 : decode cX5_allocate 45 = .ok (.getfield 91, 3) := by decide +kernel
theorem dX5_allocate_48 : decode cX5_allocate 48 = .ok (.iconst 1, 1) := by decide +kernel
theorem dX5_allocate_49 : decode cX5_allocate 49 = .ok (.iadd, 1) := by decide +kernel
theorem dX5_allocate_50 : decode cX5_allocate 50 = .ok (.putfield 91, 3) := by decide +kernel
theorem dX5_allocate_53 : decode cX5_allocate 53 = .ok (.iconst (-1), 1) := by decide +kernel
theorem dX5_allocate_54 : decode cX5_allocate 54 = .ok (.ireturn, 1) := by decide +kernel
theorem dX5_allocate_55 : decode cX5_allocate 55 = .ok (.aload 5, 2) := by decide +kernel
theorem dX5_allocate_57 : decode cX5_allocate 57 = .ok (.aload 5, 2) := by decide +kernel
theorem dX5_allocate_59 : decode cX5_allocate 59 = .ok (.iload 4, 2) := by decide +kernel
theorem dX5_allocate_61 : decode cX5_allocate 61 = .ok (.invokevirtual 94, 3) := by decide +kernel
theorem dX5_allocate_64 : decode cX5_allocate 64 = .ok (.bipush (-2), 2) := by decide +kernel
theorem dX5_allocate_66 : decode cX5_allocate 66 = .ok (.invokevirtual 97, 3) := by decide +kernel
theorem dX5_allocate_69 : decode cX5_allocate 69 = .ok (.aload_n 3, 1) := by decide +kernel
theorem dX5_allocate_70 : decode cX5_allocate 70 = .ok (.dup, 1) := by decide +kernel
theorem dX5_allocate_71 : decode cX5_allocate 71 = .ok (.getfield 56, 3) := by decide +kernel
theorem dX5_allocate_74 : decode cX5_allocate 74 = .ok (.iconst 1, 1) := by decide +kernel
theorem dX5_allocate_75 : decode cX5_allocate 75 = .ok (.iadd, 1) := by decide +kernel
theorem dX5_allocate_76 : decode cX5_allocate 76 = .ok (.putfield 56, 3) := by decide +kernel
theorem dX5_allocate_79 : decode cX5_allocate 79 = .ok (.iload 4, 2) := by decide +kernel
theorem dX5_allocate_81 : decode cX5_allocate 81 = .ok (.ireturn, 1) := by decide +kernel
theorem dX5_free_0 : decode cX5_free 0 = .ok (.aload_n 0, 1) := by decide +kernel
theorem dX5_free_1 : decode cX5_free 1 = .ok (.iload_n 1, 1) := by decide +kernel
theorem dX5_free_2 : decode cX5_free 2 = .ok (.invokevirtual 87, 3) := by decide +kernel
theorem dX5_free_5 : decode cX5_free 5 = .ok (.astore_n 3, 1) := by decide +kernel
theorem dX5_free_6 : decode cX5_free 6 = .ok (.aload_n 3, 1) := by decide +kernel
theorem dX5_free_7 : decode cX5_free 7 = .ok (.ifnull 11, 3) := by decide +kernel
theorem dX5_free_10 : decode cX5_free 10 = .ok (.aload_n 3, 1) := by decide +kernel
theorem dX5_free_11 : decode cX5_free 11 = .ok (.iload_n 1, 1) := by decide +kernel
theorem dX5_free_12 : decode cX5_free 12 = .ok (.invokevirtual 101, 3) := by decide +kernel
theorem dX5_free_15 : decode cX5_free 15 = .ok (.ifCond .ne 13, 3) := by decide +kernel
theorem dX5_free_18 : decode cX5_free 18 = .ok (.new 105, 3) := by decide +kernel
theorem dX5_free_21 : decode cX5_free 21 = .ok (.dup, 1) := by decide +kernel
theorem dX5_free_22 : decode cX5_free 22 = .ok (.ldc 107, 2) := by decide +kernel
theorem dX5_free_24 : decode cX5_free 24 = .ok (.invokespecial 109, 3) := by decide +kernel
theorem dX5_free_27 : decode cX5_free 27 = .ok (.athrow, 1) := by decide +kernel
theorem dX5_free_28 : decode cX5_free 28 = .ok (.iload_n 2, 1) := by decide +kernel
theorem dX5_free_29 : decode cX5_free 29 = .ok (.invokestatic 75, 3) := by decide +kernel
theorem dX5_free_32 : decode cX5_free 32 = .ok (.aload_n 3, 1) := by decide +kernel
theorem dX5_free_33 : decode cX5_free 33 = .ok (.getfield 64, 3) := by decide +kernel
theorem dX5_free_36 : decode cX5_free 36 = .ok (.astore 4, 2) := by decide +kernel
theorem dX5_free_38 : decode cX5_free 38 = .ok (.aload_n 3, 1) := by decide +kernel
theorem dX5_free_39 : decode cX5_free 39 = .ok (.iload_n 1, 1) := by decide +kernel
theorem dX5_free_40 : decode cX5_free 40 = .ok (.invokevirtual 94, 3) := by decide +kernel
theorem dX5_free_43 : decode cX5_free 43 = .ok (.istore 5, 2) := by decide +kernel
theorem dX5_free_45 : decode cX5_free 45 = .ok (.aload_n 3, 1) := by decide +kernel
theorem dX5_free_46 : decode cX5_free 46 = .ok (.iload 5, 2) := by decide +kernel
theorem dX5_free_48 : decode cX5_free 48 = .ok (.invokevirtual 110, 3) := by decide +kernel
theorem dX5_free_51 : decode cX5_free 51 = .ok (.aload 4, 2) := by decide +kernel
theorem dX5_free_53 : decode cX5_free 53 = .ok (.getfield 113, 3) := by decide +kernel
theorem dX5_free_56 : decode cX5_free 56 = .ok (.if_icmp .eq 13, 3) := by decide +kernel
theorem dX5_free_59 : decode cX5_free 59 = .ok (.new 59, 3) := by decide +kernel
theorem dX5_free_62 : decode cX5_free 62 = .ok (.dup, 1) := by decide +kernel
theorem dX5_free_63 : decode cX5_free 63 = .ok (.ldc 116, 2) := by decide +kernel
theorem dX5_free_65 : decode cX5_free 65 = .ok (.invokespecial 63, 3) := by decide +kernel
theorem dX5_free_68 : decode cX5_free 68 = .ok (.athrow, 1) := by decide +kernel
theorem dX5_free_69 : decode cX5_free 69 = .ok (.aload 4, 2) := by decide +kernel
theorem dX5_free_71 : decode cX5_free 71 = .ok (.dup, 1) := by decide +kernel
theorem dX5_free_72 : decode cX5_free 72 = .ok (.getfield 56, 3) := by decide +kernel
theorem dX5_free_75 : decode cX5_free 75 = .ok (.iconst 1, 1) := by decide +kernel
theorem dX5_free_76 : decode cX5_free 76 = .ok (.isub, 1) := by decide +kernel
theorem dX5_free_77 : decode cX5_free 77 = .ok (.putfield 56, 3) := by decide +kernel
theorem dX5_free_80 : decode cX5_free 80 = .ok (.aload 4, 2) := by decide +kernel
theorem dX5_free_82 : decode cX5_free 82 = .ok (.iload_n 2, 1) := by decide +kernel
theorem dX5_free_83 : decode cX5_free 83 = .ok (.iload_n 1, 1) := by decide +kernel
theorem dX5_free_84 : decode cX5_free 84 = .ok (.invokevirtual 118, 3) := by decide +kernel
theorem dX5_free_87 : decode cX5_free 87 = .ok (.ifCond .eq 14, 3) := by decide +kernel
theorem dX5_free_90 : decode cX5_free 90 = .ok (.aload_n 3, 1) := by decide +kernel
theorem dX5_free_91 : decode cX5_free 91 = .ok (.iload 5, 2) := by decide +kernel
theorem dX5_free_93 : decode cX5_free 93 = .ok (.bipush (-3), 2) := by decide +kernel
theorem dX5_free_95 : decode cX5_free 95 = .ok (.invokevirtual 97, 3) := by decide +kernel
theorem dX5_free_98 : decode cX5_free 98 = .ok (.goto 8, 3) := by decide +kernel
theorem dX5_free_101 : decode cX5_free 101 = .ok (.aload_n 0, 1) := by decide +kernel
theorem dX5_free_102 : decode cX5_free 102 = .ok (.iload_n 1, 1) := by decide +kernel
theorem dX5_free_103 : decode cX5_free 103 = .ok (.invokevirtual 122, 3) := by decide +kernel
theorem dX5_free_106 : decode cX5_free 106 = .ok (.aload 4, 2) := by decide +kernel
theorem dX5_free_108 : decode cX5_free 108 = .ok (.getfield 72, 3) := by decide +kernel
theorem dX5_free_111 : decode cX5_free 111 = .ok (.ireturn, 1) := by decide +kernel
theorem dX5_mark_0 : decode cX5_mark 0 = .ok (.aload_n 0, 1) := by decide +kernel
theorem dX5_mark_1 : decode cX5_mark 1 = .ok (.iload_n 1, 1) := by decide +kernel
theorem dX5_mark_2 : decode cX5_mark 2 = .ok (.invokevirtual 87, 3) := by decide +kernel
theorem dX5_mark_5 : decode cX5_mark 5 = .ok (.astore_n 3, 1) := by decide +kernel
theorem dX5_mark_6 : decode cX5_mark 6 = .ok (.aload_n 3, 1) := by decide +kernel
theorem dX5_mark_7 : decode cX5_mark 7 = .ok (.ifnull 11, 3) := by decide +kernel
theorem dX5_mark_10 : decode cX5_mark 10 = .ok (.aload_n 3, 1) := by decide +kernel
theorem dX5_mark_11 : decode cX5_mark 11 = .ok (.iload_n 1, 1) := by decide +kernel
theorem dX5_mark_12 : decode cX5_mark 12 = .ok (.invokevirtual 101, 3) := by decide +kernel
theorem dX5_mark_15 : decode cX5_mark 15 = .ok (.ifCond .ne 13, 3) := by decide +kernel
theorem dX5_mark_18 : decode cX5_mark 18 = .ok (.new 105, 3) := by decide +kernel
theorem dX5_mark_21 : decode cX5_mark 21 = .ok (.dup, 1) := by decide +kernel
theorem dX5_mark_22 : decode cX5_mark 22 = .ok (.ldc 107, 2) := by decide +kernel
theorem dX5_mark_24 : decode cX5_mark 24 = .ok (.invokespecial 109, 3) := by decide +kernel
theorem dX5_mark_27 : decode cX5_mark 27 = .ok (.athrow, 1) := by decide +kernel
theorem dX5_mark_28 : decode cX5_mark 28 = .ok (.aload_n 3, 1) := by decide +kernel
theorem dX5_mark_29 : decode cX5_mark 29 = .ok (.aload_n 3, 1) := by decide +kernel
theorem dX5_mark_30 : decode cX5_mark 30 = .ok (.iload_n 1, 1) := by decide +kernel
theorem dX5_mark_31 : decode cX5_mark 31 = .ok (.invokevirtual 94, 3) := by decide +kernel
theorem dX5_mark_34 : decode cX5_mark 34 = .ok (.iload_n 2, 1) := by decide +kernel
theorem dX5_mark_35 : decode cX5_mark 35 = .ok (.invokevirtual 125, 3) := by decide +kernel
theorem dX5_mark_38 : decode cX5_mark 38 = .ok (.ireturn, 1) := by decide +kernel
theorem dX5_flush_0 : decode cX5_flush 0 = .ok (.iload_n 1, 1) := by decide +kernel
theorem dX5_flush_1 : decode cX5_flush 1 = .ok (.invokestatic 75, 3) := by decide +kernel
theorem dX5_flush_4 : decode cX5_flush 4 = .ok (.iconst 0, 1) := by decide +kernel
theorem dX5_flush_5 : decode cX5_flush 5 = .ok (.istore_n 2, 1) := by decide +kernel
theorem dX5_flush_6 : decode cX5_flush 6 = .ok (.iconst 0, 1) := by decide +kernel
theorem dX5_flush_7 : decode cX5_flush 7 = .ok (.istore_n 3, 1) := by decide +kernel
theorem dX5_flush_8 : decode cX5_flush 8 = .ok (.iload_n 3, 1) := by decide +kernel
theorem dX5_flush_9 : decode cX5_flush 9 = .ok (.bipush 8, 2) := by decide +kernel
theorem dX5_flush_11 : decode cX5_flush 11 = .ok (.if_icmp .ge 50, 3) := by decide +kernel
theorem dX5_flush_14 : decode cX5_flush 14 = .ok (.aload_n 0, 1) := by decide +kernel
theorem dX5_flush_15 : decode cX5_flush 15 = .ok (.getfield 24, 3) := by decide +kernel
theorem dX5_flush_18 : decode cX5_flush 18 = .ok (.iload_n 3, 1) := by decide +kernel
theorem dX5_flush_19 : decode cX5_flush 19 = .ok (.aaload, 1) := by decide +kernel
theorem dX5_flush_20 : decode cX5_flush 20 = .ok (.astore 4, 2) := by decide +kernel
theorem dX5_flush_22 : decode cX5_flush 22 = .ok (.aload 4, 2) := by decide +kernel
theorem dX5_flush_24 : decode cX5_flush 24 = .ok (.ifnull 31, 3) := by decide +kernel
theorem dX5_flush_27 : decode cX5_flush 27 = .ok (.iload_n 2, 1) := by decide +kernel
theorem dX5_flush_28 : decode cX5_flush 28 = .ok (.aload_n 0, 1) := by decide +kernel
theorem dX5_flush_29 : decode cX5_flush 29 = .ok (.aload 4, 2) := by decide +kernel
theorem dX5_flush_31 : decode cX5_flush 31 = .ok (.getfield 128, 3) := by decide +kernel
theorem dX5_flush_34 : decode cX5_flush 34 = .ok (.iload_n 1, 1) := by decide +kernel
theorem dX5_flush_35 : decode cX5_flush 35 = .ok (.aaload, 1) := by decide +kernel
theorem dX5_flush_36 : decode cX5_flush 36 = .ok (.invokevirtual 132, 3) := by decide +kernel
theorem dX5_flush_39 : decode cX5_flush 39 = .ok (.iadd, 1) := by decide +kernel
theorem dX5_flush_40 : decode cX5_flush 40 = .ok (.istore_n 2, 1) := by decide +kernel
theorem dX5_flush_41 : decode cX5_flush 41 = .ok (.iload_n 2, 1) := by decide +kernel
theorem dX5_flush_42 : decode cX5_flush 42 = .ok (.aload_n 0, 1) := by decide +kernel
theorem dX5_flush_43 : decode cX5_flush 43 = .ok (.aload 4, 2) := by decide +kernel
theorem dX5_flush_45 : decode cX5_flush 45 = .ok (.getfield 136, 3) := by decide +kernel
theorem dX5_flush_48 : decode cX5_flush 48 = .ok (.iload_n 1, 1) := by decide +kernel
theorem dX5_flush_49 : decode cX5_flush 49 = .ok (.aaload, 1) := by decide +kernel
theorem dX5_flush_50 : decode cX5_flush 50 = .ok (.invokevirtual 132, 3) := by decide +kernel
theorem dX5_flush_53 : decode cX5_flush 53 = .ok (.iadd, 1) := by decide +kernel
theorem dX5_flush_54 : decode cX5_flush 54 = .ok (.istore_n 2, 1) := by decide +kernel
theorem dX5_flush_55 : decode cX5_flush 55 = .ok (.iinc 3 1, 3) := by decide +kernel
theorem dX5_flush_58 : decode cX5_flush 58 = .ok (.goto (-50), 3) := by decide +kernel
theorem dX5_flush_61 : decode cX5_flush 61 = .ok (.iload_n 2, 1) := by decide +kernel
theorem dX5_flush_62 : decode cX5_flush 62 = .ok (.ireturn, 1) := by decide +kernel
theorem dX5_empty_0 : decode cX5_empty 0 = .ok (.aload_n 0, 1) := by decide +kernel
theorem dX5_empty_1 : decode cX5_empty 1 = .ok (.iload_n 1, 1) := by decide +kernel
theorem dX5_empty_2 : decode cX5_empty 2 = .ok (.invokevirtual 52, 3) := by decide +kernel
theorem dX5_empty_5 : decode cX5_empty 5 = .ok (.astore_n 2, 1) := by decide +kernel
theorem dX5_empty_6 : decode cX5_empty 6 = .ok (.iconst 0, 1) := by decide +kernel
theorem dX5_empty_7 : decode cX5_empty 7 = .ok (.istore_n 3, 1) := by decide +kernel
theorem dX5_empty_8 : decode cX5_empty 8 = .ok (.iconst 0, 1) := by decide +kernel
theorem dX5_empty_9 : decode cX5_empty 9 = .ok (.istore 4, 2) := by decide +kernel
theorem dX5_empty_11 : decode cX5_empty 11 = .ok (.iload 4, 2) := by decide +kernel
theorem dX5_empty_13 : decode cX5_empty 13 = .ok (.iconst 3, 1) := by decide +kernel
theorem dX5_empty_14 : decode cX5_empty 14 = .ok (.if_icmp .ge 29, 3) := by decide +kernel
theorem dX5_empty_17 : decode cX5_empty 17 = .ok (.aload_n 2, 1) := by decide +kernel
theorem dX5_empty_18 : decode cX5_empty 18 = .ok (.invokevirtual 139, 3) := by decide +kernel
theorem dX5_empty_21 : decode cX5_empty 21 = .ok (.astore 5, 2) := by decide +kernel
theorem dX5_empty_23 : decode cX5_empty 23 = .ok (.aload 5, 2) := by decide +kernel
theorem dX5_empty_25 : decode cX5_empty 25 = .ok (.ifnull 12, 3) := by decide +kernel
theorem dX5_empty_28 : decode cX5_empty 28 = .ok (.iload_n 3, 1) := by decide +kernel
theorem dX5_empty_29 : decode cX5_empty 29 = .ok (.aload_n 0, 1) := by decide +kernel
theorem dX5_empty_30 : decode cX5_empty 30 = .ok (.aload 5, 2) := by decide +kernel
theorem dX5_empty_32 : decode cX5_empty 32 = .ok (.invokevirtual 132, 3) := by decide +kernel
theorem dX5_empty_35 : decode cX5_empty 35 = .ok (.iadd, 1) := by decide +kernel
theorem dX5_empty_36 : decode cX5_empty 36 = .ok (.istore_n 3, 1) := by decide +kernel
theorem dX5_empty_37 : decode cX5_empty 37 = .ok (.iinc 4 1, 3) := by decide +kernel
theorem dX5_empty_40 : decode cX5_empty 40 = .ok (.goto (-29), 3) := by decide +kernel
theorem dX5_empty_43 : decode cX5_empty 43 = .ok (.iload_n 3, 1) := by decide +kernel
theorem dX5_empty_44 : decode cX5_empty 44 = .ok (.ireturn, 1) := by decide +kernel
theorem dX5_reap_0 : decode cX5_reap 0 = .ok (.iconst 0, 1) := by decide +kernel
theorem dX5_reap_1 : decode cX5_reap 1 = .ok (.istore_n 1, 1) := by decide +kernel
theorem dX5_reap_2 : decode cX5_reap 2 = .ok (.iconst 0, 1) := by decide +kernel
theorem dX5_reap_3 : decode cX5_reap 3 = .ok (.istore_n 2, 1) := by decide +kernel
theorem dX5_reap_4 : decode cX5_reap 4 = .ok (.iload_n 2, 1) := by decide +kernel
theorem dX5_reap_5 : decode cX5_reap 5 = .ok (.bipush 8, 2) := by decide +kernel
theorem dX5_reap_7 : decode cX5_reap 7 = .ok (.if_icmp .ge 62, 3) := by decide +kernel
theorem dX5_reap_10 : decode cX5_reap 10 = .ok (.aload_n 0, 1) := by decide +kernel
theorem dX5_reap_11 : decode cX5_reap 11 = .ok (.getfield 24, 3) := by decide +kernel
theorem dX5_reap_14 : decode cX5_reap 14 = .ok (.iload_n 2, 1) := by decide +kernel
theorem dX5_reap_15 : decode cX5_reap 15 = .ok (.aaload, 1) := by decide +kernel
theorem dX5_reap_16 : decode cX5_reap 16 = .ok (.ifnonnull 7, 3) := by decide +kernel
theorem dX5_reap_19 : decode cX5_reap 19 = .ok (.aconst_null, 1) := by decide +kernel
theorem dX5_reap_20 : decode cX5_reap 20 = .ok (.goto 17, 3) := by decide +kernel
theorem dX5_reap_23 : decode cX5_reap 23 = .ok (.aload_n 0, 1) := by decide +kernel
theorem dX5_reap_24 : decode cX5_reap 24 = .ok (.getfield 24, 3) := by decide +kernel
theorem dX5_reap_27 : decode cX5_reap 27 = .ok (.iload_n 2, 1) := by decide +kernel
theorem dX5_reap_28 : decode cX5_reap 28 = .ok (.aaload, 1) := by decide +kernel
theorem dX5_reap_29 : decode cX5_reap 29 = .ok (.getfield 143, 3) := by decide +kernel
theorem dX5_reap_32 : decode cX5_reap 32 = .ok (.iconst 2, 1) := by decide +kernel
theorem dX5_reap_33 : decode cX5_reap 33 = .ok (.aaload, 1) := by decide +kernel
theorem dX5_reap_34 : decode cX5_reap 34 = .ok (.getfield 147, 3) := by decide +kernel
theorem dX5_reap_37 : decode cX5_reap 37 = .ok (.astore_n 3, 1) := by decide +kernel
theorem dX5_reap_38 : decode cX5_reap 38 = .ok (.aload_n 3, 1) := by decide +kernel
theorem dX5_reap_39 : decode cX5_reap 39 = .ok (.ifnull 24, 3) := by decide +kernel
theorem dX5_reap_42 : decode cX5_reap 42 = .ok (.aload_n 3, 1) := by decide +kernel
theorem dX5_reap_43 : decode cX5_reap 43 = .ok (.astore 4, 2) := by decide +kernel
theorem dX5_reap_45 : decode cX5_reap 45 = .ok (.aload 4, 2) := by decide +kernel
theorem dX5_reap_47 : decode cX5_reap 47 = .ok (.getfield 153, 3) := by decide +kernel
theorem dX5_reap_50 : decode cX5_reap 50 = .ok (.astore_n 3, 1) := by decide +kernel
theorem dX5_reap_51 : decode cX5_reap 51 = .ok (.iload_n 1, 1) := by decide +kernel
theorem dX5_reap_52 : decode cX5_reap 52 = .ok (.aload_n 0, 1) := by decide +kernel
theorem dX5_reap_53 : decode cX5_reap 53 = .ok (.aload 4, 2) := by decide +kernel
theorem dX5_reap_55 : decode cX5_reap 55 = .ok (.invokevirtual 68, 3) := by decide +kernel
theorem dX5_reap_58 : decode cX5_reap 58 = .ok (.iadd, 1) := by decide +kernel
theorem dX5_reap_59 : decode cX5_reap 59 = .ok (.istore_n 1, 1) := by decide +kernel
theorem dX5_reap_60 : decode cX5_reap 60 = .ok (.goto (-22), 3) := by decide +kernel
theorem dX5_reap_63 : decode cX5_reap 63 = .ok (.iinc 2 1, 3) := by decide +kernel
theorem dX5_reap_66 : decode cX5_reap 66 = .ok (.goto (-62), 3) := by decide +kernel
theorem dX5_reap_69 : decode cX5_reap 69 = .ok (.iload_n 1, 1) := by decide +kernel
theorem dX5_reap_70 : decode cX5_reap 70 = .ok (.ireturn, 1) := by decide +kernel
theorem dX5_cacheOf_0 : decode cX5_cacheOf 0 = .ok (.aload_n 0, 1) := by decide +kernel
theorem dX5_cacheOf_1 : decode cX5_cacheOf 1 = .ok (.iload_n 1, 1) := by decide +kernel
theorem dX5_cacheOf_2 : decode cX5_cacheOf 2 = .ok (.invokevirtual 87, 3) := by decide +kernel
theorem dX5_cacheOf_5 : decode cX5_cacheOf 5 = .ok (.astore_n 2, 1) := by decide +kernel
theorem dX5_cacheOf_6 : decode cX5_cacheOf 6 = .ok (.aload_n 2, 1) := by decide +kernel
theorem dX5_cacheOf_7 : decode cX5_cacheOf 7 = .ok (.ifnonnull 7, 3) := by decide +kernel
theorem dX5_cacheOf_10 : decode cX5_cacheOf 10 = .ok (.iconst (-1), 1) := by decide +kernel
theorem dX5_cacheOf_11 : decode cX5_cacheOf 11 = .ok (.goto 10, 3) := by decide +kernel
theorem dX5_cacheOf_14 : decode cX5_cacheOf 14 = .ok (.aload_n 2, 1) := by decide +kernel
theorem dX5_cacheOf_15 : decode cX5_cacheOf 15 = .ok (.getfield 64, 3) := by decide +kernel
theorem dX5_cacheOf_18 : decode cX5_cacheOf 18 = .ok (.getfield 72, 3) := by decide +kernel
theorem dX5_cacheOf_21 : decode cX5_cacheOf 21 = .ok (.ireturn, 1) := by decide +kernel
theorem dX5_objectOf_0 : decode cX5_objectOf 0 = .ok (.aload_n 0, 1) := by decide +kernel
theorem dX5_objectOf_1 : decode cX5_objectOf 1 = .ok (.iload_n 1, 1) := by decide +kernel
theorem dX5_objectOf_2 : decode cX5_objectOf 2 = .ok (.invokevirtual 87, 3) := by decide +kernel
theorem dX5_objectOf_5 : decode cX5_objectOf 5 = .ok (.astore_n 2, 1) := by decide +kernel
theorem dX5_objectOf_6 : decode cX5_objectOf 6 = .ok (.aload_n 2, 1) := by decide +kernel
theorem dX5_objectOf_7 : decode cX5_objectOf 7 = .ok (.ifnonnull 5, 3) := by decide +kernel
theorem dX5_objectOf_10 : decode cX5_objectOf 10 = .ok (.iconst (-1), 1) := by decide +kernel
theorem dX5_objectOf_11 : decode cX5_objectOf 11 = .ok (.ireturn, 1) := by decide +kernel
theorem dX5_objectOf_12 : decode cX5_objectOf 12 = .ok (.aload_n 2, 1) := by decide +kernel
theorem dX5_objectOf_13 : decode cX5_objectOf 13 = .ok (.iload_n 1, 1) := by decide +kernel
theorem dX5_objectOf_14 : decode cX5_objectOf 14 = .ok (.invokevirtual 94, 3) := by decide +kernel
theorem dX5_objectOf_17 : decode cX5_objectOf 17 = .ok (.istore_n 3, 1) := by decide +kernel
theorem dX5_objectOf_18 : decode cX5_objectOf 18 = .ok (.aload_n 2, 1) := by decide +kernel
theorem dX5_objectOf_19 : decode cX5_objectOf 19 = .ok (.iload_n 3, 1) := by decide +kernel
theorem dX5_objectOf_20 : decode cX5_objectOf 20 = .ok (.invokevirtual 156, 3) := by decide +kernel
theorem dX5_objectOf_23 : decode cX5_objectOf 23 = .ok (.ifCond .ne 5, 3) := by decide +kernel
theorem dX5_objectOf_26 : decode cX5_objectOf 26 = .ok (.iconst (-1), 1) := by decide +kernel
theorem dX5_objectOf_27 : decode cX5_objectOf 27 = .ok (.ireturn, 1) := by decide +kernel
theorem dX5_objectOf_28 : decode cX5_objectOf 28 = .ok (.aload_n 2, 1) := by decide +kernel
theorem dX5_objectOf_29 : decode cX5_objectOf 29 = .ok (.iload_n 3, 1) := by decide +kernel
theorem dX5_objectOf_30 : decode cX5_objectOf 30 = .ok (.invokevirtual 159, 3) := by decide +kernel
theorem dX5_objectOf_33 : decode cX5_objectOf 33 = .ok (.istore 4, 2) := by decide +kernel
theorem dX5_objectOf_35 : decode cX5_objectOf 35 = .ok (.iload_n 1, 1) := by decide +kernel
theorem dX5_objectOf_36 : decode cX5_objectOf 36 = .ok (.iload 4, 2) := by decide +kernel
theorem dX5_objectOf_38 : decode cX5_objectOf 38 = .ok (.isub, 1) := by decide +kernel
theorem dX5_objectOf_39 : decode cX5_objectOf 39 = .ok (.aload_n 2, 1) := by decide +kernel
theorem dX5_objectOf_40 : decode cX5_objectOf 40 = .ok (.getfield 64, 3) := by decide +kernel
theorem dX5_objectOf_43 : decode cX5_objectOf 43 = .ok (.getfield 162, 3) := by decide +kernel
theorem dX5_objectOf_46 : decode cX5_objectOf 46 = .ok (.if_icmp .ge 8, 3) := by decide +kernel
theorem dX5_objectOf_49 : decode cX5_objectOf 49 = .ok (.iload 4, 2) := by decide +kernel
theorem dX5_objectOf_51 : decode cX5_objectOf 51 = .ok (.goto 4, 3) := by decide +kernel
theorem dX5_objectOf_54 : decode cX5_objectOf 54 = .ok (.iconst (-1), 1) := by decide +kernel
theorem dX5_objectOf_55 : decode cX5_objectOf 55 = .ok (.ireturn, 1) := by decide +kernel
theorem dX5_about_0 : decode cX5_about 0 = .ok (.aload_n 0, 1) := by decide +kernel
theorem dX5_about_1 : decode cX5_about 1 = .ok (.iload_n 1, 1) := by decide +kernel
theorem dX5_about_2 : decode cX5_about 2 = .ok (.invokevirtual 52, 3) := by decide +kernel
theorem dX5_about_5 : decode cX5_about 5 = .ok (.astore_n 3, 1) := by decide +kernel
theorem dX5_about_6 : decode cX5_about 6 = .ok (.iload_n 2, 1) := by decide +kernel
theorem dX5_about_7 : decode cX5_about 7 = .ok (.tableswitch 85 0 7 #[45, 50, 55, 60, 65, 70, 75, 80], 45) := by decide +kernel
theorem dX5_about_52 : decode cX5_about 52 = .ok (.aload_n 3, 1) := by decide +kernel
theorem dX5_about_53 : decode cX5_about 53 = .ok (.getfield 165, 3) := by decide +kernel
theorem dX5_about_56 : decode cX5_about 56 = .ok (.ireturn, 1) := by decide +kernel
theorem dX5_about_57 : decode cX5_about 57 = .ok (.aload_n 3, 1) := by decide +kernel
theorem dX5_about_58 : decode cX5_about 58 = .ok (.getfield 168, 3) := by decide +kernel
theorem dX5_about_61 : decode cX5_about 61 = .ok (.ireturn, 1) := by decide +kernel
theorem dX5_about_62 : decode cX5_about 62 = .ok (.aload_n 3, 1) := by decide +kernel
theorem dX5_about_63 : decode cX5_about 63 = .ok (.getfield 171, 3) := by decide +kernel
theorem dX5_about_66 : decode cX5_about 66 = .ok (.ireturn, 1) := by decide +kernel
theorem dX5_about_67 : decode cX5_about 67 = .ok (.aload_n 3, 1) := by decide +kernel
theorem dX5_about_68 : decode cX5_about 68 = .ok (.getfield 174, 3) := by decide +kernel
theorem dX5_about_71 : decode cX5_about 71 = .ok (.ireturn, 1) := by decide +kernel
theorem dX5_about_72 : decode cX5_about 72 = .ok (.aload_n 3, 1) := by decide +kernel
theorem dX5_about_73 : decode cX5_about 73 = .ok (.getfield 177, 3) := by decide +kernel
theorem dX5_about_76 : decode cX5_about 76 = .ok (.ireturn, 1) := by decide +kernel
theorem dX5_about_77 : decode cX5_about 77 = .ok (.aload_n 3, 1) := by decide +kernel
theorem dX5_about_78 : decode cX5_about 78 = .ok (.getfield 56, 3) := by decide +kernel
theorem dX5_about_81 : decode cX5_about 81 = .ok (.ireturn, 1) := by decide +kernel
theorem dX5_about_82 : decode cX5_about 82 = .ok (.aload_n 3, 1) := by decide +kernel
theorem dX5_about_83 : decode cX5_about 83 = .ok (.invokevirtual 180, 3) := by decide +kernel
theorem dX5_about_86 : decode cX5_about 86 = .ok (.ireturn, 1) := by decide +kernel
theorem dX5_about_87 : decode cX5_about 87 = .ok (.aload_n 3, 1) := by decide +kernel
theorem dX5_about_88 : decode cX5_about 88 = .ok (.getfield 91, 3) := by decide +kernel
theorem dX5_about_91 : decode cX5_about 91 = .ok (.ireturn, 1) := by decide +kernel
theorem dX5_about_92 : decode cX5_about 92 = .ok (.new 28, 3) := by decide +kernel
theorem dX5_about_95 : decode cX5_about 95 = .ok (.dup, 1) := by decide +kernel
theorem dX5_about_96 : decode cX5_about 96 = .ok (.ldc 184, 2) := by decide +kernel
theorem dX5_about_98 : decode cX5_about 98 = .ok (.invokespecial 32, 3) := by decide +kernel
theorem dX5_about_101 : decode cX5_about 101 = .ok (.athrow, 1) := by decide +kernel
theorem dX5_list_0 : decode cX5_list 0 = .ok (.aload_n 0, 1) := by decide +kernel
theorem dX5_list_1 : decode cX5_list 1 = .ok (.iload_n 1, 1) := by decide +kernel
theorem dX5_list_2 : decode cX5_list 2 = .ok (.invokevirtual 52, 3) := by decide +kernel
theorem dX5_list_5 : decode cX5_list 5 = .ok (.astore 4, 2) := by decide +kernel
theorem dX5_list_7 : decode cX5_list 7 = .ok (.iload_n 2, 1) := by decide +kernel
theorem dX5_list_8 : decode cX5_list 8 = .ok (.ifCond .lt 8, 3) := by decide +kernel
theorem dX5_list_11 : decode cX5_list 11 = .ok (.iload_n 2, 1) := by decide +kernel
theorem dX5_list_12 : decode cX5_list 12 = .ok (.iconst 3, 1) := by decide +kernel
theorem dX5_list_13 : decode cX5_list 13 = .ok (.if_icmp .lt 13, 3) := by decide +kernel
theorem dX5_list_16 : decode cX5_list 16 = .ok (.new 28, 3) := by decide +kernel
theorem dX5_list_19 : decode cX5_list 19 = .ok (.dup, 1) := by decide +kernel
theorem dX5_list_20 : decode cX5_list 20 = .ok (.ldc 186, 2) := by decide +kernel
theorem dX5_list_22 : decode cX5_list 22 = .ok (.invokespecial 32, 3) := by decide +kernel
theorem dX5_list_25 : decode cX5_list 25 = .ok (.athrow, 1) := by decide +kernel
theorem dX5_list_26 : decode cX5_list 26 = .ok (.aload 4, 2) := by decide +kernel
theorem dX5_list_28 : decode cX5_list 28 = .ok (.getfield 143, 3) := by decide +kernel
theorem dX5_list_31 : decode cX5_list 31 = .ok (.iload_n 2, 1) := by decide +kernel
theorem dX5_list_32 : decode cX5_list 32 = .ok (.aaload, 1) := by decide +kernel
theorem dX5_list_33 : decode cX5_list 33 = .ok (.iload_n 3, 1) := by decide +kernel
theorem dX5_list_34 : decode cX5_list 34 = .ok (.invokevirtual 188, 3) := by decide +kernel
theorem dX5_list_37 : decode cX5_list 37 = .ok (.astore 5, 2) := by decide +kernel
theorem dX5_list_39 : decode cX5_list 39 = .ok (.aload 5, 2) := by decide +kernel
theorem dX5_list_41 : decode cX5_list 41 = .ok (.ifnonnull 7, 3) := by decide +kernel
theorem dX5_list_44 : decode cX5_list 44 = .ok (.iconst (-1), 1) := by decide +kernel
theorem dX5_list_45 : decode cX5_list 45 = .ok (.goto 8, 3) := by decide +kernel
theorem dX5_list_48 : decode cX5_list 48 = .ok (.aload 5, 2) := by decide +kernel
theorem dX5_list_50 : decode cX5_list 50 = .ok (.invokevirtual 191, 3) := by decide +kernel
theorem dX5_list_53 : decode cX5_list 53 = .ok (.ireturn, 1) := by decide +kernel
theorem dX5_slab_0 : decode cX5_slab 0 = .ok (.aload_n 0, 1) := by decide +kernel
theorem dX5_slab_1 : decode cX5_slab 1 = .ok (.iload_n 1, 1) := by decide +kernel
theorem dX5_slab_2 : decode cX5_slab 2 = .ok (.invokevirtual 87, 3) := by decide +kernel
theorem dX5_slab_5 : decode cX5_slab 5 = .ok (.astore_n 3, 1) := by decide +kernel
theorem dX5_slab_6 : decode cX5_slab 6 = .ok (.aload_n 3, 1) := by decide +kernel
theorem dX5_slab_7 : decode cX5_slab 7 = .ok (.ifnonnull 13, 3) := by decide +kernel
theorem dX5_slab_10 : decode cX5_slab 10 = .ok (.new 105, 3) := by decide +kernel
theorem dX5_slab_13 : decode cX5_slab 13 = .ok (.dup, 1) := by decide +kernel
theorem dX5_slab_14 : decode cX5_slab 14 = .ok (.ldc 194, 2) := by decide +kernel
theorem dX5_slab_16 : decode cX5_slab 16 = .ok (.invokespecial 109, 3) := by decide +kernel
theorem dX5_slab_19 : decode cX5_slab 19 = .ok (.athrow, 1) := by decide +kernel
theorem dX5_slab_20 : decode cX5_slab 20 = .ok (.iload_n 2, 1) := by decide +kernel
theorem dX5_slab_21 : decode cX5_slab 21 = .ok (.tableswitch 51 0 3 #[31, 36, 41, 46], 31) := by decide +kernel
theorem dX5_slab_52 : decode cX5_slab 52 = .ok (.aload_n 3, 1) := by decide +kernel
theorem dX5_slab_53 : decode cX5_slab 53 = .ok (.invokevirtual 191, 3) := by decide +kernel
theorem dX5_slab_56 : decode cX5_slab 56 = .ok (.ireturn, 1) := by decide +kernel
theorem dX5_slab_57 : decode cX5_slab 57 = .ok (.aload_n 3, 1) := by decide +kernel
theorem dX5_slab_58 : decode cX5_slab 58 = .ok (.getfield 196, 3) := by decide +kernel
theorem dX5_slab_61 : decode cX5_slab 61 = .ok (.ireturn, 1) := by decide +kernel
theorem dX5_slab_62 : decode cX5_slab 62 = .ok (.aload_n 3, 1) := by decide +kernel
theorem dX5_slab_63 : decode cX5_slab 63 = .ok (.getfield 199, 3) := by decide +kernel
theorem dX5_slab_66 : decode cX5_slab 66 = .ok (.ireturn, 1) := by decide +kernel
theorem dX5_slab_67 : decode cX5_slab 67 = .ok (.aload_n 3, 1) := by decide +kernel
theorem dX5_slab_68 : decode cX5_slab 68 = .ok (.invokevirtual 202, 3) := by decide +kernel
theorem dX5_slab_71 : decode cX5_slab 71 = .ok (.ireturn, 1) := by decide +kernel
theorem dX5_slab_72 : decode cX5_slab 72 = .ok (.new 28, 3) := by decide +kernel
theorem dX5_slab_75 : decode cX5_slab 75 = .ok (.dup, 1) := by decide +kernel
theorem dX5_slab_76 : decode cX5_slab 76 = .ok (.ldc 205, 2) := by decide +kernel
theorem dX5_slab_78 : decode cX5_slab 78 = .ok (.invokespecial 32, 3) := by decide +kernel
theorem dX5_slab_81 : decode cX5_slab 81 = .ok (.athrow, 1) := by decide +kernel
theorem dX5_magazine_0 : decode cX5_magazine 0 = .ok (.aload_n 0, 1) := by decide +kernel
theorem dX5_magazine_1 : decode cX5_magazine 1 = .ok (.iload_n 1, 1) := by decide +kernel
theorem dX5_magazine_2 : decode cX5_magazine 2 = .ok (.invokevirtual 52, 3) := by decide +kernel
theorem dX5_magazine_5 : decode cX5_magazine 5 = .ok (.astore 4, 2) := by decide +kernel
theorem dX5_magazine_7 : decode cX5_magazine 7 = .ok (.iload_n 2, 1) := by decide +kernel
theorem dX5_magazine_8 : decode cX5_magazine 8 = .ok (.invokestatic 75, 3) := by decide +kernel
theorem dX5_magazine_11 : decode cX5_magazine 11 = .ok (.iload_n 3, 1) := by decide +kernel
theorem dX5_magazine_12 : decode cX5_magazine 12 = .ok (.tableswitch 56 0 2 #[28, 39, 50], 28) := by decide +kernel
theorem dX5_magazine_40 : decode cX5_magazine 40 = .ok (.aload 4, 2) := by decide +kernel
theorem dX5_magazine_42 : decode cX5_magazine 42 = .ok (.getfield 128, 3) := by decide +kernel
theorem dX5_magazine_45 : decode cX5_magazine 45 = .ok (.iload_n 2, 1) := by decide +kernel
theorem dX5_magazine_46 : decode cX5_magazine 46 = .ok (.aaload, 1) := by decide +kernel
theorem dX5_magazine_47 : decode cX5_magazine 47 = .ok (.getfield 207, 3) := by decide +kernel
theorem dX5_magazine_50 : decode cX5_magazine 50 = .ok (.ireturn, 1) := by decide +kernel
theorem dX5_magazine_51 : decode cX5_magazine 51 = .ok (.aload 4, 2) := by decide +kernel
theorem dX5_magazine_53 : decode cX5_magazine 53 = .ok (.getfield 136, 3) := by decide +kernel
theorem dX5_magazine_56 : decode cX5_magazine 56 = .ok (.iload_n 2, 1) := by decide +kernel
theorem dX5_magazine_57 : decode cX5_magazine 57 = .ok (.aaload, 1) := by decide +kernel
theorem dX5_magazine_58 : decode cX5_magazine 58 = .ok (.getfield 207, 3) := by decide +kernel
theorem dX5_magazine_61 : decode cX5_magazine 61 = .ok (.ireturn, 1) := by decide +kernel
theorem dX5_magazine_62 : decode cX5_magazine 62 = .ok (.aload 4, 2) := by decide +kernel
theorem dX5_magazine_64 : decode cX5_magazine 64 = .ok (.getfield 212, 3) := by decide +kernel
theorem dX5_magazine_67 : decode cX5_magazine 67 = .ok (.ireturn, 1) := by decide +kernel
theorem dX5_magazine_68 : decode cX5_magazine 68 = .ok (.new 28, 3) := by decide +kernel
theorem dX5_magazine_71 : decode cX5_magazine 71 = .ok (.dup, 1) := by decide +kernel
theorem dX5_magazine_72 : decode cX5_magazine 72 = .ok (.ldc 215, 2) := by decide +kernel
theorem dX5_magazine_74 : decode cX5_magazine 74 = .ok (.invokespecial 32, 3) := by decide +kernel
theorem dX5_magazine_77 : decode cX5_magazine 77 = .ok (.athrow, 1) := by decide +kernel
theorem dX5_block_0 : decode cX5_block 0 = .ok (.iload_n 1, 1) := by decide +kernel
theorem dX5_block_1 : decode cX5_block 1 = .ok (.ifCond .lt 9, 3) := by decide +kernel
theorem dX5_block_4 : decode cX5_block 4 = .ok (.iload_n 1, 1) := by decide +kernel
theorem dX5_block_5 : decode cX5_block 5 = .ok (.bipush 6, 2) := by decide +kernel
theorem dX5_block_7 : decode cX5_block 7 = .ok (.if_icmp .le 13, 3) := by decide +kernel
theorem dX5_block_10 : decode cX5_block 10 = .ok (.new 28, 3) := by decide +kernel
theorem dX5_block_13 : decode cX5_block 13 = .ok (.dup, 1) := by decide +kernel
theorem dX5_block_14 : decode cX5_block 14 = .ok (.ldc 217, 2) := by decide +kernel
theorem dX5_block_16 : decode cX5_block 16 = .ok (.invokespecial 32, 3) := by decide +kernel
theorem dX5_block_19 : decode cX5_block 19 = .ok (.athrow, 1) := by decide +kernel
theorem dX5_block_20 : decode cX5_block 20 = .ok (.aload_n 0, 1) := by decide +kernel
theorem dX5_block_21 : decode cX5_block 21 = .ok (.getfield 12, 3) := by decide +kernel
theorem dX5_block_24 : decode cX5_block 24 = .ok (.iload_n 1, 1) := by decide +kernel
theorem dX5_block_25 : decode cX5_block 25 = .ok (.iload_n 2, 1) := by decide +kernel
theorem dX5_block_26 : decode cX5_block 26 = .ok (.invokevirtual 219, 3) := by decide +kernel
theorem dX5_block_29 : decode cX5_block 29 = .ok (.ireturn, 1) := by decide +kernel
theorem dX5_pages_0 : decode cX5_pages 0 = .ok (.iload_n 1, 1) := by decide +kernel
theorem dX5_pages_1 : decode cX5_pages 1 = .ok (.ifCond .ne 11, 3) := by decide +kernel
theorem dX5_pages_4 : decode cX5_pages 4 = .ok (.aload_n 0, 1) := by decide +kernel
theorem dX5_pages_5 : decode cX5_pages 5 = .ok (.getfield 12, 3) := by decide +kernel
theorem dX5_pages_8 : decode cX5_pages 8 = .ok (.getfield 222, 3) := by decide +kernel
theorem dX5_pages_11 : decode cX5_pages 11 = .ok (.ireturn, 1) := by decide +kernel
theorem dX5_pages_12 : decode cX5_pages 12 = .ok (.iload_n 1, 1) := by decide +kernel
theorem dX5_pages_13 : decode cX5_pages 13 = .ok (.iconst 1, 1) := by decide +kernel
theorem dX5_pages_14 : decode cX5_pages 14 = .ok (.if_icmp .ne 17, 3) := by decide +kernel
theorem dX5_pages_17 : decode cX5_pages 17 = .ok (.sipush 256, 3) := by decide +kernel
theorem dX5_pages_20 : decode cX5_pages 20 = .ok (.aload_n 0, 1) := by decide +kernel
theorem dX5_pages_21 : decode cX5_pages 21 = .ok (.getfield 12, 3) := by decide +kernel
theorem dX5_pages_24 : decode cX5_pages 24 = .ok (.getfield 222, 3) := by decide +kernel
theorem dX5_pages_27 : decode cX5_pages 27 = .ok (.isub, 1) := by decide +kernel
theorem dX5_pages_28 : decode cX5_pages 28 = .ok (.goto 4, 3) := by decide +kernel
theorem dX5_pages_31 : decode cX5_pages 31 = .ok (.iconst (-1), 1) := by decide +kernel
theorem dX5_pages_32 : decode cX5_pages 32 = .ok (.ireturn, 1) := by decide +kernel
theorem dX5_knownCache_0 : decode cX5_knownCache 0 = .ok (.iload_n 1, 1) := by decide +kernel
theorem dX5_knownCache_1 : decode cX5_knownCache 1 = .ok (.ifCond .lt 18, 3) := by decide +kernel
theorem dX5_knownCache_4 : decode cX5_knownCache 4 = .ok (.iload_n 1, 1) := by decide +kernel
theorem dX5_knownCache_5 : decode cX5_knownCache 5 = .ok (.bipush 8, 2) := by decide +kernel
theorem dX5_knownCache_7 : decode cX5_knownCache 7 = .ok (.if_icmp .ge 12, 3) := by decide +kernel
theorem dX5_knownCache_10 : decode cX5_knownCache 10 = .ok (.aload_n 0, 1) := by decide +kernel
theorem dX5_knownCache_11 : decode cX5_knownCache 11 = .ok (.getfield 24, 3) := by decide +kernel
theorem dX5_knownCache_14 : decode cX5_knownCache 14 = .ok (.iload_n 1, 1) := by decide +kernel
theorem dX5_knownCache_15 : decode cX5_knownCache 15 = .ok (.aaload, 1) := by decide +kernel
theorem dX5_knownCache_16 : decode cX5_knownCache 16 = .ok (.ifnonnull 13, 3) := by decide +kernel
theorem dX5_knownCache_19 : decode cX5_knownCache 19 = .ok (.new 105, 3) := by decide +kernel
theorem dX5_knownCache_22 : decode cX5_knownCache 22 = .ok (.dup, 1) := by decide +kernel
theorem dX5_knownCache_23 : decode cX5_knownCache 23 = .ok (.ldc 225, 2) := by decide +kernel
theorem dX5_knownCache_25 : decode cX5_knownCache 25 = .ok (.invokespecial 109, 3) := by decide +kernel
theorem dX5_knownCache_28 : decode cX5_knownCache 28 = .ok (.athrow, 1) := by decide +kernel
theorem dX5_knownCache_29 : decode cX5_knownCache 29 = .ok (.aload_n 0, 1) := by decide +kernel
theorem dX5_knownCache_30 : decode cX5_knownCache 30 = .ok (.getfield 24, 3) := by decide +kernel
theorem dX5_knownCache_33 : decode cX5_knownCache 33 = .ok (.iload_n 1, 1) := by decide +kernel
theorem dX5_knownCache_34 : decode cX5_knownCache 34 = .ok (.aaload, 1) := by decide +kernel
theorem dX5_knownCache_35 : decode cX5_knownCache 35 = .ok (.areturn, 1) := by decide +kernel
theorem dX5_requireProcessor_0 : decode cX5_requireProcessor 0 = .ok (.iload_n 0, 1) := by decide +kernel
theorem dX5_requireProcessor_1 : decode cX5_requireProcessor 1 = .ok (.ifCond .lt 8, 3) := by decide +kernel
theorem dX5_requireProcessor_4 : decode cX5_requireProcessor 4 = .ok (.iload_n 0, 1) := by decide +kernel
theorem dX5_requireProcessor_5 : decode cX5_requireProcessor 5 = .ok (.iconst 4, 1) := by decide +kernel
theorem dX5_requireProcessor_6 : decode cX5_requireProcessor 6 = .ok (.if_icmp .lt 13, 3) := by decide +kernel
theorem dX5_requireProcessor_9 : decode cX5_requireProcessor 9 = .ok (.new 28, 3) := by decide +kernel
theorem dX5_requireProcessor_12 : decode cX5_requireProcessor 12 = .ok (.dup, 1) := by decide +kernel
theorem dX5_requireProcessor_13 : decode cX5_requireProcessor 13 = .ok (.ldc 227, 2) := by decide +kernel
theorem dX5_requireProcessor_15 : decode cX5_requireProcessor 15 = .ok (.invokespecial 32, 3) := by decide +kernel
theorem dX5_requireProcessor_18 : decode cX5_requireProcessor 18 = .ok (.athrow, 1) := by decide +kernel
theorem dX5_requireProcessor_19 : decode cX5_requireProcessor 19 = .ok (.return_, 1) := by decide +kernel
theorem dX5_roundedUp_0 : decode cX5_roundedUp 0 = .ok (.iload_n 0, 1) := by decide +kernel
theorem dX5_roundedUp_1 : decode cX5_roundedUp 1 = .ok (.iload_n 1, 1) := by decide +kernel
theorem dX5_roundedUp_2 : decode cX5_roundedUp 2 = .ok (.iadd, 1) := by decide +kernel
theorem dX5_roundedUp_3 : decode cX5_roundedUp 3 = .ok (.iconst 1, 1) := by decide +kernel
theorem dX5_roundedUp_4 : decode cX5_roundedUp 4 = .ok (.isub, 1) := by decide +kernel
theorem dX5_roundedUp_5 : decode cX5_roundedUp 5 = .ok (.iload_n 1, 1) := by decide +kernel
theorem dX5_roundedUp_6 : decode cX5_roundedUp 6 = .ok (.ineg, 1) := by decide +kernel
theorem dX5_roundedUp_7 : decode cX5_roundedUp 7 = .ok (.iand, 1) := by decide +kernel
theorem dX5_roundedUp_8 : decode cX5_roundedUp 8 = .ok (.ireturn, 1) := by decide +kernel
theorem dX5_slabAt_0 : decode cX5_slabAt 0 = .ok (.iload_n 1, 1) := by decide +kernel
theorem dX5_slabAt_1 : decode cX5_slabAt 1 = .ok (.ifCond .lt 9, 3) := by decide +kernel
theorem dX5_slabAt_4 : decode cX5_slabAt 4 = .ok (.iload_n 1, 1) := by decide +kernel
theorem dX5_slabAt_5 : decode cX5_slabAt 5 = .ok (.ldc 229, 2) := by decide +kernel
theorem dX5_slabAt_7 : decode cX5_slabAt 7 = .ok (.if_icmp .lt 7, 3) := by decide +kernel
theorem dX5_slabAt_10 : decode cX5_slabAt 10 = .ok (.aconst_null, 1) := by decide +kernel
theorem dX5_slabAt_11 : decode cX5_slabAt 11 = .ok (.goto 13, 3) := by decide +kernel
theorem dX5_slabAt_14 : decode cX5_slabAt 14 = .ok (.aload_n 0, 1) := by decide +kernel
theorem dX5_slabAt_15 : decode cX5_slabAt 15 = .ok (.getfield 18, 3) := by decide +kernel
theorem dX5_slabAt_18 : decode cX5_slabAt 18 = .ok (.iload_n 1, 1) := by decide +kernel
theorem dX5_slabAt_19 : decode cX5_slabAt 19 = .ok (.sipush 1024, 3) := by decide +kernel
theorem dX5_slabAt_22 : decode cX5_slabAt 22 = .ok (.idiv, 1) := by decide +kernel
theorem dX5_slabAt_23 : decode cX5_slabAt 23 = .ok (.aaload, 1) := by decide +kernel
theorem dX5_slabAt_24 : decode cX5_slabAt 24 = .ok (.areturn, 1) := by decide +kernel
theorem dX5_takeFromSlabs_0 : decode cX5_takeFromSlabs 0 = .ok (.aload_n 1, 1) := by decide +kernel
theorem dX5_takeFromSlabs_1 : decode cX5_takeFromSlabs 1 = .ok (.getfield 143, 3) := by decide +kernel
theorem dX5_takeFromSlabs_4 : decode cX5_takeFromSlabs 4 = .ok (.iconst 1, 1) := by decide +kernel
theorem dX5_takeFromSlabs_5 : decode cX5_takeFromSlabs 5 = .ok (.aaload, 1) := by decide +kernel
theorem dX5_takeFromSlabs_6 : decode cX5_takeFromSlabs 6 = .ok (.getfield 147, 3) := by decide +kernel
theorem dX5_takeFromSlabs_9 : decode cX5_takeFromSlabs 9 = .ok (.astore_n 2, 1) := by decide +kernel
theorem dX5_takeFromSlabs_10 : decode cX5_takeFromSlabs 10 = .ok (.aload_n 2, 1) := by decide +kernel
theorem dX5_takeFromSlabs_11 : decode cX5_takeFromSlabs 11 = .ok (.ifnonnull 13, 3) := by decide +kernel
theorem dX5_takeFromSlabs_14 : decode cX5_takeFromSlabs 14 = .ok (.aload_n 1, 1) := by decide +kernel
theorem dX5_takeFromSlabs_15 : decode cX5_takeFromSlabs 15 = .ok (.getfield 143, 3) := by decide +kernel
theorem dX5_takeFromSlabs_18 : decode cX5_takeFromSlabs 18 = .ok (.iconst 2, 1) := by decide +kernel
theorem dX5_takeFromSlabs_19 : decode cX5_takeFromSlabs 19 = .ok (.aaload, 1) := by decide +kernel
theorem dX5_takeFromSlabs_20 : decode cX5_takeFromSlabs 20 = .ok (.getfield 147, 3) := by decide +kernel
theorem dX5_takeFromSlabs_23 : decode cX5_takeFromSlabs 23 = .ok (.astore_n 2, 1) := by decide +kernel
theorem dX5_takeFromSlabs_24 : decode cX5_takeFromSlabs 24 = .ok (.aload_n 2, 1) := by decide +kernel
theorem dX5_takeFromSlabs_25 : decode cX5_takeFromSlabs 25 = .ok (.ifnonnull 9, 3) := by decide +kernel
theorem dX5_takeFromSlabs_28 : decode cX5_takeFromSlabs 28 = .ok (.aload_n 0, 1) := by decide +kernel
theorem dX5_takeFromSlabs_29 : decode cX5_takeFromSlabs 29 = .ok (.aload_n 1, 1) := by decide +kernel
theorem dX5_takeFromSlabs_30 : decode cX5_takeFromSlabs 30 = .ok (.invokevirtual 230, 3) := by decide +kernel
theorem dX5_takeFromSlabs_33 : decode cX5_takeFromSlabs 33 = .ok (.astore_n 2, 1) := by decide +kernel
theorem dX5_takeFromSlabs_34 : decode cX5_takeFromSlabs 34 = .ok (.aload_n 2, 1) := by decide +kernel
theorem dX5_takeFromSlabs_35 : decode cX5_takeFromSlabs 35 = .ok (.ifnonnull 5, 3) := by decide +kernel
theorem dX5_takeFromSlabs_38 : decode cX5_takeFromSlabs 38 = .ok (.iconst (-1), 1) := by decide +kernel
theorem dX5_takeFromSlabs_39 : decode cX5_takeFromSlabs 39 = .ok (.ireturn, 1) := by decide +kernel
theorem dX5_takeFromSlabs_40 : decode cX5_takeFromSlabs 40 = .ok (.aload_n 2, 1) := by decide +kernel
theorem dX5_takeFromSlabs_41 : decode cX5_takeFromSlabs 41 = .ok (.invokevirtual 234, 3) := by decide +kernel
theorem dX5_takeFromSlabs_44 : decode cX5_takeFromSlabs 44 = .ok (.istore_n 3, 1) := by decide +kernel
theorem dX5_takeFromSlabs_45 : decode cX5_takeFromSlabs 45 = .ok (.aload_n 1, 1) := by decide +kernel
theorem dX5_takeFromSlabs_46 : decode cX5_takeFromSlabs 46 = .ok (.aload_n 2, 1) := by decide +kernel
theorem dX5_takeFromSlabs_47 : decode cX5_takeFromSlabs 47 = .ok (.invokevirtual 237, 3) := by decide +kernel
theorem dX5_takeFromSlabs_50 : decode cX5_takeFromSlabs 50 = .ok (.iload_n 3, 1) := by decide +kernel
theorem dX5_takeFromSlabs_51 : decode cX5_takeFromSlabs 51 = .ok (.iconst (-1), 1) := by decide +kernel
theorem dX5_takeFromSlabs_52 : decode cX5_takeFromSlabs 52 = .ok (.if_icmp .ne 7, 3) := by decide +kernel
theorem dX5_takeFromSlabs_55 : decode cX5_takeFromSlabs 55 = .ok (.iconst (-1), 1) := by decide +kernel
end
section
theorem dX5_takeFromSlabs_56 : decode cX5_takeFromSlabs 56 = .ok (.goto 8, 3) := by decide +kernel
theorem dX5_takeFromSlabs_59 : decode cX5_takeFromSlabs 59 = .ok (.aload_n 2, 1) := by decide +kernel
theorem dX5_takeFromSlabs_60 : decode cX5_takeFromSlabs 60 = .ok (.iload_n 3, 1) := by decide +kernel
theorem dX5_takeFromSlabs_61 : decode cX5_takeFromSlabs 61 = .ok (.invokevirtual 159, 3) := by decide +kernel
theorem dX5_takeFromSlabs_64 : decode cX5_takeFromSlabs 64 = .ok (.ireturn, 1) := by decide +kernel
theorem dX5_makeSlab_0 : decode cX5_makeSlab 0 = .ok (.aload_n 0, 1) := by decide +kernel
theorem dX5_makeSlab_1 : decode cX5_makeSlab 1 = .ok (.getfield 12, 3) := by decide +kernel
theorem dX5_makeSlab_4 : decode cX5_makeSlab 4 = .ok (.aload_n 1, 1) := by decide +kernel
theorem dX5_makeSlab_5 : decode cX5_makeSlab 5 = .ok (.getfield 241, 3) := by decide +kernel
theorem dX5_makeSlab_8 : decode cX5_makeSlab 8 = .ok (.invokevirtual 244, 3) := by decide +kernel
theorem dX5_makeSlab_11 : decode cX5_makeSlab 11 = .ok (.istore_n 2, 1) := by decide +kernel
theorem dX5_makeSlab_12 : decode cX5_makeSlab 12 = .ok (.iload_n 2, 1) := by decide +kernel
theorem dX5_makeSlab_13 : decode cX5_makeSlab 13 = .ok (.iconst (-1), 1) := by decide +kernel
theorem dX5_makeSlab_14 : decode cX5_makeSlab 14 = .ok (.if_icmp .ne 20, 3) := by decide +kernel
theorem dX5_makeSlab_17 : decode cX5_makeSlab 17 = .ok (.aload_n 0, 1) := by decide +kernel
theorem dX5_makeSlab_18 : decode cX5_makeSlab 18 = .ok (.invokevirtual 247, 3) := by decide +kernel
theorem dX5_makeSlab_21 : decode cX5_makeSlab 21 = .ok (.pop, 1) := by decide +kernel
theorem dX5_makeSlab_22 : decode cX5_makeSlab 22 = .ok (.aload_n 0, 1) := by decide +kernel
theorem dX5_makeSlab_23 : decode cX5_makeSlab 23 = .ok (.getfield 12, 3) := by decide +kernel
theorem dX5_makeSlab_26 : decode cX5_makeSlab 26 = .ok (.aload_n 1, 1) := by decide +kernel
theorem dX5_makeSlab_27 : decode cX5_makeSlab 27 = .ok (.getfield 241, 3) := by decide +kernel
theorem dX5_makeSlab_30 : decode cX5_makeSlab 30 = .ok (.invokevirtual 244, 3) := by decide +kernel
theorem dX5_makeSlab_33 : decode cX5_makeSlab 33 = .ok (.istore_n 2, 1) := by decide +kernel
theorem dX5_makeSlab_34 : decode cX5_makeSlab 34 = .ok (.iload_n 2, 1) := by decide +kernel
theorem dX5_makeSlab_35 : decode cX5_makeSlab 35 = .ok (.iconst (-1), 1) := by decide +kernel
theorem dX5_makeSlab_36 : decode cX5_makeSlab 36 = .ok (.if_icmp .ne 5, 3) := by decide +kernel
theorem dX5_makeSlab_39 : decode cX5_makeSlab 39 = .ok (.aconst_null, 1) := by decide +kernel
theorem dX5_makeSlab_40 : decode cX5_makeSlab 40 = .ok (.areturn, 1) := by decide +kernel
theorem dX5_makeSlab_41 : decode cX5_makeSlab 41 = .ok (.new 16, 3) := by decide +kernel
theorem dX5_makeSlab_44 : decode cX5_makeSlab 44 = .ok (.dup, 1) := by decide +kernel
theorem dX5_makeSlab_45 : decode cX5_makeSlab 45 = .ok (.aload_n 1, 1) := by decide +kernel
theorem dX5_makeSlab_46 : decode cX5_makeSlab 46 = .ok (.iload_n 2, 1) := by decide +kernel
theorem dX5_makeSlab_47 : decode cX5_makeSlab 47 = .ok (.aload_n 1, 1) := by decide +kernel
theorem dX5_makeSlab_48 : decode cX5_makeSlab 48 = .ok (.getfield 174, 3) := by decide +kernel
theorem dX5_makeSlab_51 : decode cX5_makeSlab 51 = .ok (.invokespecial 250, 3) := by decide +kernel
theorem dX5_makeSlab_54 : decode cX5_makeSlab 54 = .ok (.astore_n 3, 1) := by decide +kernel
theorem dX5_makeSlab_55 : decode cX5_makeSlab 55 = .ok (.aload_n 1, 1) := by decide +kernel
theorem dX5_makeSlab_56 : decode cX5_makeSlab 56 = .ok (.aload_n 1, 1) := by decide +kernel
theorem dX5_makeSlab_57 : decode cX5_makeSlab 57 = .ok (.getfield 174, 3) := by decide +kernel
theorem dX5_makeSlab_60 : decode cX5_makeSlab 60 = .ok (.iconst 1, 1) := by decide +kernel
theorem dX5_makeSlab_61 : decode cX5_makeSlab 61 = .ok (.iadd, 1) := by decide +kernel
theorem dX5_makeSlab_62 : decode cX5_makeSlab 62 = .ok (.aload_n 1, 1) := by decide +kernel
theorem dX5_makeSlab_63 : decode cX5_makeSlab 63 = .ok (.getfield 171, 3) := by decide +kernel
theorem dX5_makeSlab_66 : decode cX5_makeSlab 66 = .ok (.if_icmp .ge 12, 3) := by decide +kernel
theorem dX5_makeSlab_69 : decode cX5_makeSlab 69 = .ok (.aload_n 1, 1) := by decide +kernel
theorem dX5_makeSlab_70 : decode cX5_makeSlab 70 = .ok (.getfield 174, 3) := by decide +kernel
theorem dX5_makeSlab_73 : decode cX5_makeSlab 73 = .ok (.iconst 1, 1) := by decide +kernel
theorem dX5_makeSlab_74 : decode cX5_makeSlab 74 = .ok (.iadd, 1) := by decide +kernel
theorem dX5_makeSlab_75 : decode cX5_makeSlab 75 = .ok (.goto 4, 3) := by decide +kernel
theorem dX5_makeSlab_78 : decode cX5_makeSlab 78 = .ok (.iconst 0, 1) := by decide +kernel
theorem dX5_makeSlab_79 : decode cX5_makeSlab 79 = .ok (.putfield 174, 3) := by decide +kernel
theorem dX5_makeSlab_82 : decode cX5_makeSlab 82 = .ok (.aload_n 1, 1) := by decide +kernel
theorem dX5_makeSlab_83 : decode cX5_makeSlab 83 = .ok (.dup, 1) := by decide +kernel
theorem dX5_makeSlab_84 : decode cX5_makeSlab 84 = .ok (.getfield 177, 3) := by decide +kernel
theorem dX5_makeSlab_87 : decode cX5_makeSlab 87 = .ok (.iconst 1, 1) := by decide +kernel
theorem dX5_makeSlab_88 : decode cX5_makeSlab 88 = .ok (.iadd, 1) := by decide +kernel
theorem dX5_makeSlab_89 : decode cX5_makeSlab 89 = .ok (.putfield 177, 3) := by decide +kernel
theorem dX5_makeSlab_92 : decode cX5_makeSlab 92 = .ok (.aload_n 1, 1) := by decide +kernel
theorem dX5_makeSlab_93 : decode cX5_makeSlab 93 = .ok (.aload_n 3, 1) := by decide +kernel
theorem dX5_makeSlab_94 : decode cX5_makeSlab 94 = .ok (.invokevirtual 237, 3) := by decide +kernel
theorem dX5_makeSlab_97 : decode cX5_makeSlab 97 = .ok (.aload_n 0, 1) := by decide +kernel
theorem dX5_makeSlab_98 : decode cX5_makeSlab 98 = .ok (.aload_n 3, 1) := by decide +kernel
theorem dX5_makeSlab_99 : decode cX5_makeSlab 99 = .ok (.aload_n 3, 1) := by decide +kernel
theorem dX5_makeSlab_100 : decode cX5_makeSlab 100 = .ok (.invokevirtual 253, 3) := by decide +kernel
theorem dX5_makeSlab_103 : decode cX5_makeSlab 103 = .ok (.aload_n 3, 1) := by decide +kernel
theorem dX5_makeSlab_104 : decode cX5_makeSlab 104 = .ok (.areturn, 1) := by decide +kernel
theorem dX5_unload_0 : decode cX5_unload 0 = .ok (.aload_n 1, 1) := by decide +kernel
theorem dX5_unload_1 : decode cX5_unload 1 = .ok (.getfield 207, 3) := by decide +kernel
theorem dX5_unload_4 : decode cX5_unload 4 = .ok (.istore_n 2, 1) := by decide +kernel
theorem dX5_unload_5 : decode cX5_unload 5 = .ok (.iconst 0, 1) := by decide +kernel
theorem dX5_unload_6 : decode cX5_unload 6 = .ok (.istore_n 3, 1) := by decide +kernel
theorem dX5_unload_7 : decode cX5_unload 7 = .ok (.iload_n 3, 1) := by decide +kernel
theorem dX5_unload_8 : decode cX5_unload 8 = .ok (.iload_n 2, 1) := by decide +kernel
theorem dX5_unload_9 : decode cX5_unload 9 = .ok (.if_icmp .ge 17, 3) := by decide +kernel
theorem dX5_unload_12 : decode cX5_unload 12 = .ok (.aload_n 0, 1) := by decide +kernel
theorem dX5_unload_13 : decode cX5_unload 13 = .ok (.aload_n 1, 1) := by decide +kernel
theorem dX5_unload_14 : decode cX5_unload 14 = .ok (.invokevirtual 257, 3) := by decide +kernel
theorem dX5_unload_17 : decode cX5_unload 17 = .ok (.invokevirtual 122, 3) := by decide +kernel
theorem dX5_unload_20 : decode cX5_unload 20 = .ok (.iinc 3 1, 3) := by decide +kernel
theorem dX5_unload_23 : decode cX5_unload 23 = .ok (.goto (-16), 3) := by decide +kernel
theorem dX5_unload_26 : decode cX5_unload 26 = .ok (.iload_n 2, 1) := by decide +kernel
theorem dX5_unload_27 : decode cX5_unload 27 = .ok (.ireturn, 1) := by decide +kernel
theorem dX5_comeBack_0 : decode cX5_comeBack 0 = .ok (.aload_n 0, 1) := by decide +kernel
theorem dX5_comeBack_1 : decode cX5_comeBack 1 = .ok (.iload_n 1, 1) := by decide +kernel
theorem dX5_comeBack_2 : decode cX5_comeBack 2 = .ok (.invokevirtual 87, 3) := by decide +kernel
theorem dX5_comeBack_5 : decode cX5_comeBack 5 = .ok (.astore_n 2, 1) := by decide +kernel
theorem dX5_comeBack_6 : decode cX5_comeBack 6 = .ok (.aload_n 2, 1) := by decide +kernel
theorem dX5_comeBack_7 : decode cX5_comeBack 7 = .ok (.ifnull 20, 3) := by decide +kernel
theorem dX5_comeBack_10 : decode cX5_comeBack 10 = .ok (.aload_n 2, 1) := by decide +kernel
theorem dX5_comeBack_11 : decode cX5_comeBack 11 = .ok (.aload_n 2, 1) := by decide +kernel
theorem dX5_comeBack_12 : decode cX5_comeBack 12 = .ok (.iload_n 1, 1) := by decide +kernel
theorem dX5_comeBack_13 : decode cX5_comeBack 13 = .ok (.invokevirtual 94, 3) := by decide +kernel
theorem dX5_comeBack_16 : decode cX5_comeBack 16 = .ok (.invokevirtual 260, 3) := by decide +kernel
theorem dX5_comeBack_19 : decode cX5_comeBack 19 = .ok (.aload_n 2, 1) := by decide +kernel
theorem dX5_comeBack_20 : decode cX5_comeBack 20 = .ok (.getfield 64, 3) := by decide +kernel
theorem dX5_comeBack_23 : decode cX5_comeBack 23 = .ok (.aload_n 2, 1) := by decide +kernel
theorem dX5_comeBack_24 : decode cX5_comeBack 24 = .ok (.invokevirtual 237, 3) := by decide +kernel
theorem dX5_comeBack_27 : decode cX5_comeBack 27 = .ok (.return_, 1) := by decide +kernel
theorem dX5_giveBack_0 : decode cX5_giveBack 0 = .ok (.aload_n 1, 1) := by decide +kernel
theorem dX5_giveBack_1 : decode cX5_giveBack 1 = .ok (.getfield 64, 3) := by decide +kernel
theorem dX5_giveBack_4 : decode cX5_giveBack 4 = .ok (.aload_n 1, 1) := by decide +kernel
theorem dX5_giveBack_5 : decode cX5_giveBack 5 = .ok (.invokevirtual 263, 3) := by decide +kernel
theorem dX5_giveBack_8 : decode cX5_giveBack 8 = .ok (.aload_n 1, 1) := by decide +kernel
theorem dX5_giveBack_9 : decode cX5_giveBack 9 = .ok (.getfield 64, 3) := by decide +kernel
theorem dX5_giveBack_12 : decode cX5_giveBack 12 = .ok (.dup, 1) := by decide +kernel
theorem dX5_giveBack_13 : decode cX5_giveBack 13 = .ok (.getfield 177, 3) := by decide +kernel
theorem dX5_giveBack_16 : decode cX5_giveBack 16 = .ok (.iconst 1, 1) := by decide +kernel
theorem dX5_giveBack_17 : decode cX5_giveBack 17 = .ok (.isub, 1) := by decide +kernel
theorem dX5_giveBack_18 : decode cX5_giveBack 18 = .ok (.putfield 177, 3) := by decide +kernel
theorem dX5_giveBack_21 : decode cX5_giveBack 21 = .ok (.aload_n 0, 1) := by decide +kernel
theorem dX5_giveBack_22 : decode cX5_giveBack 22 = .ok (.aload_n 1, 1) := by decide +kernel
theorem dX5_giveBack_23 : decode cX5_giveBack 23 = .ok (.aconst_null, 1) := by decide +kernel
theorem dX5_giveBack_24 : decode cX5_giveBack 24 = .ok (.invokevirtual 253, 3) := by decide +kernel
theorem dX5_giveBack_27 : decode cX5_giveBack 27 = .ok (.aload_n 0, 1) := by decide +kernel
theorem dX5_giveBack_28 : decode cX5_giveBack 28 = .ok (.getfield 12, 3) := by decide +kernel
theorem dX5_giveBack_31 : decode cX5_giveBack 31 = .ok (.aload_n 1, 1) := by decide +kernel
theorem dX5_giveBack_32 : decode cX5_giveBack 32 = .ok (.getfield 266, 3) := by decide +kernel
theorem dX5_giveBack_35 : decode cX5_giveBack 35 = .ok (.aload_n 1, 1) := by decide +kernel
theorem dX5_giveBack_36 : decode cX5_giveBack 36 = .ok (.getfield 64, 3) := by decide +kernel
theorem dX5_giveBack_39 : decode cX5_giveBack 39 = .ok (.getfield 241, 3) := by decide +kernel
theorem dX5_giveBack_42 : decode cX5_giveBack 42 = .ok (.invokevirtual 269, 3) := by decide +kernel
theorem dX5_giveBack_45 : decode cX5_giveBack 45 = .ok (.iconst 1, 1) := by decide +kernel
theorem dX5_giveBack_46 : decode cX5_giveBack 46 = .ok (.aload_n 1, 1) := by decide +kernel
theorem dX5_giveBack_47 : decode cX5_giveBack 47 = .ok (.getfield 64, 3) := by decide +kernel
theorem dX5_giveBack_50 : decode cX5_giveBack 50 = .ok (.getfield 241, 3) := by decide +kernel
theorem dX5_giveBack_53 : decode cX5_giveBack 53 = .ok (.ishl, 1) := by decide +kernel
theorem dX5_giveBack_54 : decode cX5_giveBack 54 = .ok (.ireturn, 1) := by decide +kernel
theorem dX5_setPages_0 : decode cX5_setPages 0 = .ok (.aload_n 1, 1) := by decide +kernel
theorem dX5_setPages_1 : decode cX5_setPages 1 = .ok (.getfield 266, 3) := by decide +kernel
theorem dX5_setPages_4 : decode cX5_setPages 4 = .ok (.iconst 1, 1) := by decide +kernel
theorem dX5_setPages_5 : decode cX5_setPages 5 = .ok (.aload_n 1, 1) := by decide +kernel
theorem dX5_setPages_6 : decode cX5_setPages 6 = .ok (.getfield 64, 3) := by decide +kernel
theorem dX5_setPages_9 : decode cX5_setPages 9 = .ok (.getfield 241, 3) := by decide +kernel
theorem dX5_setPages_12 : decode cX5_setPages 12 = .ok (.ishl, 1) := by decide +kernel
theorem dX5_setPages_13 : decode cX5_setPages 13 = .ok (.iadd, 1) := by decide +kernel
theorem dX5_setPages_14 : decode cX5_setPages 14 = .ok (.sipush 256, 3) := by decide +kernel
theorem dX5_setPages_17 : decode cX5_setPages 17 = .ok (.invokestatic 271, 3) := by decide +kernel
theorem dX5_setPages_20 : decode cX5_setPages 20 = .ok (.istore_n 3, 1) := by decide +kernel
theorem dX5_setPages_21 : decode cX5_setPages 21 = .ok (.aload_n 1, 1) := by decide +kernel
theorem dX5_setPages_22 : decode cX5_setPages 22 = .ok (.getfield 266, 3) := by decide +kernel
theorem dX5_setPages_25 : decode cX5_setPages 25 = .ok (.istore 4, 2) := by decide +kernel
theorem dX5_setPages_27 : decode cX5_setPages 27 = .ok (.iload 4, 2) := by decide +kernel
theorem dX5_setPages_29 : decode cX5_setPages 29 = .ok (.iload_n 3, 1) := by decide +kernel
theorem dX5_setPages_30 : decode cX5_setPages 30 = .ok (.if_icmp .ge 17, 3) := by decide +kernel
theorem dX5_setPages_33 : decode cX5_setPages 33 = .ok (.aload_n 0, 1) := by decide +kernel
theorem dX5_setPages_34 : decode cX5_setPages 34 = .ok (.getfield 18, 3) := by decide +kernel
theorem dX5_setPages_37 : decode cX5_setPages 37 = .ok (.iload 4, 2) := by decide +kernel
theorem dX5_setPages_39 : decode cX5_setPages 39 = .ok (.aload_n 2, 1) := by decide +kernel
theorem dX5_setPages_40 : decode cX5_setPages 40 = .ok (.aastore, 1) := by decide +kernel
theorem dX5_setPages_41 : decode cX5_setPages 41 = .ok (.iinc 4 1, 3) := by decide +kernel
theorem dX5_setPages_44 : decode cX5_setPages 44 = .ok (.goto (-17), 3) := by decide +kernel
theorem dX5_setPages_47 : decode cX5_setPages 47 = .ok (.return_, 1) := by decide +kernel
theorem dX6_init_0 : decode cX6_init 0 = .ok (.aload_n 0, 1) := by decide +kernel
theorem dX6_init_1 : decode cX6_init 1 = .ok (.invokespecial 1, 3) := by decide +kernel
theorem dX6_init_4 : decode cX6_init 4 = .ok (.aload_n 0, 1) := by decide +kernel
theorem dX6_init_5 : decode cX6_init 5 = .ok (.sipush 256, 3) := by decide +kernel
theorem dX6_init_8 : decode cX6_init 8 = .ok (.newarray .int, 2) := by decide +kernel
theorem dX6_init_10 : decode cX6_init 10 = .ok (.putfield 7, 3) := by decide +kernel
theorem dX6_init_13 : decode cX6_init 13 = .ok (.aload_n 0, 1) := by decide +kernel
theorem dX6_init_14 : decode cX6_init 14 = .ok (.sipush 256, 3) := by decide +kernel
theorem dX6_init_17 : decode cX6_init 17 = .ok (.newarray .int, 2) := by decide +kernel
theorem dX6_init_19 : decode cX6_init 19 = .ok (.putfield 13, 3) := by decide +kernel
theorem dX6_init_22 : decode cX6_init 22 = .ok (.aload_n 0, 1) := by decide +kernel
theorem dX6_init_23 : decode cX6_init 23 = .ok (.bipush 8, 2) := by decide +kernel
theorem dX6_init_25 : decode cX6_init 25 = .ok (.newarray .boolean, 2) := by decide +kernel
theorem dX6_init_27 : decode cX6_init 27 = .ok (.putfield 16, 3) := by decide +kernel
theorem dX6_init_30 : decode cX6_init 30 = .ok (.aload_n 0, 1) := by decide +kernel
theorem dX6_init_31 : decode cX6_init 31 = .ok (.bipush 8, 2) := by decide +kernel
theorem dX6_init_33 : decode cX6_init 33 = .ok (.newarray .int, 2) := by decide +kernel
theorem dX6_init_35 : decode cX6_init 35 = .ok (.putfield 20, 3) := by decide +kernel
theorem dX6_init_38 : decode cX6_init 38 = .ok (.aload_n 0, 1) := by decide +kernel
theorem dX6_init_39 : decode cX6_init 39 = .ok (.bipush 8, 2) := by decide +kernel
theorem dX6_init_41 : decode cX6_init 41 = .ok (.newarray .int, 2) := by decide +kernel
theorem dX6_init_43 : decode cX6_init 43 = .ok (.putfield 23, 3) := by decide +kernel
theorem dX6_init_46 : decode cX6_init 46 = .ok (.aload_n 0, 1) := by decide +kernel
theorem dX6_init_47 : decode cX6_init 47 = .ok (.bipush 8, 2) := by decide +kernel
theorem dX6_init_49 : decode cX6_init 49 = .ok (.newarray .int, 2) := by decide +kernel
theorem dX6_init_51 : decode cX6_init 51 = .ok (.putfield 26, 3) := by decide +kernel
theorem dX6_init_54 : decode cX6_init 54 = .ok (.aload_n 0, 1) := by decide +kernel
theorem dX6_init_55 : decode cX6_init 55 = .ok (.bipush 8, 2) := by decide +kernel
theorem dX6_init_57 : decode cX6_init 57 = .ok (.newarray .int, 2) := by decide +kernel
theorem dX6_init_59 : decode cX6_init 59 = .ok (.putfield 29, 3) := by decide +kernel
theorem dX6_init_62 : decode cX6_init 62 = .ok (.aload_n 0, 1) := by decide +kernel
theorem dX6_init_63 : decode cX6_init 63 = .ok (.bipush 8, 2) := by decide +kernel
theorem dX6_init_65 : decode cX6_init 65 = .ok (.newarray .int, 2) := by decide +kernel
theorem dX6_init_67 : decode cX6_init 67 = .ok (.putfield 32, 3) := by decide +kernel
theorem dX6_init_70 : decode cX6_init 70 = .ok (.aload_n 0, 1) := by decide +kernel
theorem dX6_init_71 : decode cX6_init 71 = .ok (.bipush 8, 2) := by decide +kernel
theorem dX6_init_73 : decode cX6_init 73 = .ok (.newarray .int, 2) := by decide +kernel
theorem dX6_init_75 : decode cX6_init 75 = .ok (.putfield 35, 3) := by decide +kernel
theorem dX6_init_78 : decode cX6_init 78 = .ok (.aload_n 0, 1) := by decide +kernel
theorem dX6_init_79 : decode cX6_init 79 = .ok (.bipush 8, 2) := by decide +kernel
theorem dX6_init_81 : decode cX6_init 81 = .ok (.newarray .int, 2) := by decide +kernel
theorem dX6_init_83 : decode cX6_init 83 = .ok (.putfield 38, 3) := by decide +kernel
theorem dX6_init_86 : decode cX6_init 86 = .ok (.aload_n 0, 1) := by decide +kernel
theorem dX6_init_87 : decode cX6_init 87 = .ok (.bipush 8, 2) := by decide +kernel
theorem dX6_init_89 : decode cX6_init 89 = .ok (.newarray .int, 2) := by decide +kernel
theorem dX6_init_91 : decode cX6_init 91 = .ok (.putfield 41, 3) := by decide +kernel
theorem dX6_init_94 : decode cX6_init 94 = .ok (.aload_n 0, 1) := by decide +kernel
theorem dX6_init_95 : decode cX6_init 95 = .ok (.bipush 8, 2) := by decide +kernel
theorem dX6_init_97 : decode cX6_init 97 = .ok (.newarray .int, 2) := by decide +kernel
theorem dX6_init_99 : decode cX6_init 99 = .ok (.putfield 44, 3) := by decide +kernel
theorem dX6_init_102 : decode cX6_init 102 = .ok (.aload_n 0, 1) := by decide +kernel
theorem dX6_init_103 : decode cX6_init 103 = .ok (.sipush 256, 3) := by decide +kernel
theorem dX6_init_106 : decode cX6_init 106 = .ok (.newarray .int, 2) := by decide +kernel
theorem dX6_init_108 : decode cX6_init 108 = .ok (.putfield 47, 3) := by decide +kernel
theorem dX6_init_111 : decode cX6_init 111 = .ok (.aload_n 0, 1) := by decide +kernel
theorem dX6_init_112 : decode cX6_init 112 = .ok (.sipush 256, 3) := by decide +kernel
theorem dX6_init_115 : decode cX6_init 115 = .ok (.newarray .int, 2) := by decide +kernel
theorem dX6_init_117 : decode cX6_init 117 = .ok (.putfield 50, 3) := by decide +kernel
theorem dX6_init_120 : decode cX6_init 120 = .ok (.aload_n 0, 1) := by decide +kernel
theorem dX6_init_121 : decode cX6_init 121 = .ok (.sipush 256, 3) := by decide +kernel
theorem dX6_init_124 : decode cX6_init 124 = .ok (.newarray .int, 2) := by decide +kernel
theorem dX6_init_126 : decode cX6_init 126 = .ok (.putfield 53, 3) := by decide +kernel
theorem dX6_init_129 : decode cX6_init 129 = .ok (.aload_n 0, 1) := by decide +kernel
theorem dX6_init_130 : decode cX6_init 130 = .ok (.sipush 256, 3) := by decide +kernel
theorem dX6_init_133 : decode cX6_init 133 = .ok (.newarray .int, 2) := by decide +kernel
theorem dX6_init_135 : decode cX6_init 135 = .ok (.putfield 56, 3) := by decide +kernel
theorem dX6_init_138 : decode cX6_init 138 = .ok (.aload_n 0, 1) := by decide +kernel
theorem dX6_init_139 : decode cX6_init 139 = .ok (.ldc 59, 2) := by decide +kernel
theorem dX6_init_141 : decode cX6_init 141 = .ok (.newarray .int, 2) := by decide +kernel
theorem dX6_init_143 : decode cX6_init 143 = .ok (.putfield 60, 3) := by decide +kernel
theorem dX6_init_146 : decode cX6_init 146 = .ok (.aload_n 0, 1) := by decide +kernel
theorem dX6_init_147 : decode cX6_init 147 = .ok (.ldc 59, 2) := by decide +kernel
theorem dX6_init_149 : decode cX6_init 149 = .ok (.newarray .int, 2) := by decide +kernel
theorem dX6_init_151 : decode cX6_init 151 = .ok (.putfield 63, 3) := by decide +kernel
theorem dX6_init_154 : decode cX6_init 154 = .ok (.aload_n 0, 1) := by decide +kernel
theorem dX6_init_155 : decode cX6_init 155 = .ok (.ldc 59, 2) := by decide +kernel
theorem dX6_init_157 : decode cX6_init 157 = .ok (.newarray .int, 2) := by decide +kernel
theorem dX6_init_159 : decode cX6_init 159 = .ok (.putfield 66, 3) := by decide +kernel
theorem dX6_init_162 : decode cX6_init 162 = .ok (.aload_n 0, 1) := by decide +kernel
theorem dX6_init_163 : decode cX6_init 163 = .ok (.bipush 24, 2) := by decide +kernel
theorem dX6_init_165 : decode cX6_init 165 = .ok (.newarray .int, 2) := by decide +kernel
theorem dX6_init_167 : decode cX6_init 167 = .ok (.putfield 69, 3) := by decide +kernel
theorem dX6_init_170 : decode cX6_init 170 = .ok (.aload_n 0, 1) := by decide +kernel
theorem dX6_init_171 : decode cX6_init 171 = .ok (.sipush 6144, 3) := by decide +kernel
theorem dX6_init_174 : decode cX6_init 174 = .ok (.newarray .int, 2) := by decide +kernel
theorem dX6_init_176 : decode cX6_init 176 = .ok (.putfield 72, 3) := by decide +kernel
theorem dX6_init_179 : decode cX6_init 179 = .ok (.aload_n 0, 1) := by decide +kernel
theorem dX6_init_180 : decode cX6_init 180 = .ok (.bipush 64, 2) := by decide +kernel
theorem dX6_init_182 : decode cX6_init 182 = .ok (.newarray .int, 2) := by decide +kernel
theorem dX6_init_184 : decode cX6_init 184 = .ok (.putfield 75, 3) := by decide +kernel
theorem dX6_init_187 : decode cX6_init 187 = .ok (.aload_n 0, 1) := by decide +kernel
theorem dX6_init_188 : decode cX6_init 188 = .ok (.sipush 256, 3) := by decide +kernel
theorem dX6_init_191 : decode cX6_init 191 = .ok (.newarray .int, 2) := by decide +kernel
theorem dX6_init_193 : decode cX6_init 193 = .ok (.putfield 78, 3) := by decide +kernel
theorem dX6_init_196 : decode cX6_init 196 = .ok (.aload_n 0, 1) := by decide +kernel
theorem dX6_init_197 : decode cX6_init 197 = .ok (.bipush 8, 2) := by decide +kernel
theorem dX6_init_199 : decode cX6_init 199 = .ok (.newarray .int, 2) := by decide +kernel
theorem dX6_init_201 : decode cX6_init 201 = .ok (.putfield 81, 3) := by decide +kernel
theorem dX6_init_204 : decode cX6_init 204 = .ok (.aload_n 0, 1) := by decide +kernel
theorem dX6_init_205 : decode cX6_init 205 = .ok (.bipush 96, 2) := by decide +kernel
theorem dX6_init_207 : decode cX6_init 207 = .ok (.newarray .int, 2) := by decide +kernel
theorem dX6_init_209 : decode cX6_init 209 = .ok (.putfield 84, 3) := by decide +kernel
theorem dX6_init_212 : decode cX6_init 212 = .ok (.iconst 0, 1) := by decide +kernel
theorem dX6_init_213 : decode cX6_init 213 = .ok (.istore_n 1, 1) := by decide +kernel
theorem dX6_init_214 : decode cX6_init 214 = .ok (.iload_n 1, 1) := by decide +kernel
theorem dX6_init_215 : decode cX6_init 215 = .ok (.sipush 256, 3) := by decide +kernel
theorem dX6_init_218 : decode cX6_init 218 = .ok (.if_icmp .ge 35, 3) := by decide +kernel
theorem dX6_init_221 : decode cX6_init 221 = .ok (.aload_n 0, 1) := by decide +kernel
theorem dX6_init_222 : decode cX6_init 222 = .ok (.getfield 7, 3) := by decide +kernel
theorem dX6_init_225 : decode cX6_init 225 = .ok (.iload_n 1, 1) := by decide +kernel
theorem dX6_init_226 : decode cX6_init 226 = .ok (.iload_n 1, 1) := by decide +kernel
theorem dX6_init_227 : decode cX6_init 227 = .ok (.bipush 64, 2) := by decide +kernel
theorem dX6_init_229 : decode cX6_init 229 = .ok (.irem, 1) := by decide +kernel
theorem dX6_init_230 : decode cX6_init 230 = .ok (.ifCond .ne 8, 3) := by decide +kernel
theorem dX6_init_233 : decode cX6_init 233 = .ok (.bipush 6, 2) := by decide +kernel
theorem dX6_init_235 : decode cX6_init 235 = .ok (.goto 4, 3) := by decide +kernel
theorem dX6_init_238 : decode cX6_init 238 = .ok (.iconst (-1), 1) := by decide +kernel
theorem dX6_init_239 : decode cX6_init 239 = .ok (.iastore, 1) := by decide +kernel
theorem dX6_init_240 : decode cX6_init 240 = .ok (.aload_n 0, 1) := by decide +kernel
theorem dX6_init_241 : decode cX6_init 241 = .ok (.getfield 13, 3) := by decide +kernel
theorem dX6_init_244 : decode cX6_init 244 = .ok (.iload_n 1, 1) := by decide +kernel
theorem dX6_init_245 : decode cX6_init 245 = .ok (.iconst (-1), 1) := by decide +kernel
theorem dX6_init_246 : decode cX6_init 246 = .ok (.iastore, 1) := by decide +kernel
theorem dX6_init_247 : decode cX6_init 247 = .ok (.iinc 1 1, 3) := by decide +kernel
theorem dX6_init_250 : decode cX6_init 250 = .ok (.goto (-36), 3) := by decide +kernel
theorem dX6_init_253 : decode cX6_init 253 = .ok (.return_, 1) := by decide +kernel
theorem dX6_thrown_0 : decode cX6_thrown 0 = .ok (.aload_n 0, 1) := by decide +kernel
theorem dX6_thrown_1 : decode cX6_thrown 1 = .ok (.getfield 87, 3) := by decide +kernel
theorem dX6_thrown_4 : decode cX6_thrown 4 = .ok (.ireturn, 1) := by decide +kernel
theorem dX6_refused_0 : decode cX6_refused 0 = .ok (.aload_n 0, 1) := by decide +kernel
theorem dX6_refused_1 : decode cX6_refused 1 = .ok (.iload_n 1, 1) := by decide +kernel
theorem dX6_refused_2 : decode cX6_refused 2 = .ok (.putfield 87, 3) := by decide +kernel
theorem dX6_refused_5 : decode cX6_refused 5 = .ok (.iload_n 1, 1) := by decide +kernel
theorem dX6_refused_6 : decode cX6_refused 6 = .ok (.ifCond .le 7, 3) := by decide +kernel
theorem dX6_refused_9 : decode cX6_refused 9 = .ok (.iconst 1, 1) := by decide +kernel
theorem dX6_refused_10 : decode cX6_refused 10 = .ok (.goto 4, 3) := by decide +kernel
theorem dX6_refused_13 : decode cX6_refused 13 = .ok (.iconst 0, 1) := by decide +kernel
theorem dX6_refused_14 : decode cX6_refused 14 = .ok (.ireturn, 1) := by decide +kernel
theorem dX6_isIn_0 : decode cX6_isIn 0 = .ok (.iload_n 0, 1) := by decide +kernel
theorem dX6_isIn_1 : decode cX6_isIn 1 = .ok (.iload_n 1, 1) := by decide +kernel
theorem dX6_isIn_2 : decode cX6_isIn 2 = .ok (.if_icmp .lt 12, 3) := by decide +kernel
theorem dX6_isIn_5 : decode cX6_isIn 5 = .ok (.iload_n 0, 1) := by decide +kernel
theorem dX6_isIn_6 : decode cX6_isIn 6 = .ok (.iload_n 2, 1) := by decide +kernel
theorem dX6_isIn_7 : decode cX6_isIn 7 = .ok (.if_icmp .gt 7, 3) := by decide +kernel
theorem dX6_isIn_10 : decode cX6_isIn 10 = .ok (.iconst 1, 1) := by decide +kernel
theorem dX6_isIn_11 : decode cX6_isIn 11 = .ok (.goto 4, 3) := by decide +kernel
theorem dX6_isIn_14 : decode cX6_isIn 14 = .ok (.iconst 0, 1) := by decide +kernel
theorem dX6_isIn_15 : decode cX6_isIn 15 = .ok (.ireturn, 1) := by decide +kernel
theorem dX6_isCache_0 : decode cX6_isCache 0 = .ok (.iload_n 1, 1) := by decide +kernel
theorem dX6_isCache_1 : decode cX6_isCache 1 = .ok (.iconst 0, 1) := by decide +kernel
theorem dX6_isCache_2 : decode cX6_isCache 2 = .ok (.aload_n 0, 1) := by decide +kernel
theorem dX6_isCache_3 : decode cX6_isCache 3 = .ok (.getfield 91, 3) := by decide +kernel
theorem dX6_isCache_6 : decode cX6_isCache 6 = .ok (.iconst 1, 1) := by decide +kernel
theorem dX6_isCache_7 : decode cX6_isCache 7 = .ok (.isub, 1) := by decide +kernel
theorem dX6_isCache_8 : decode cX6_isCache 8 = .ok (.invokestatic 94, 3) := by decide +kernel
theorem dX6_isCache_11 : decode cX6_isCache 11 = .ok (.ifCond .eq 16, 3) := by decide +kernel
theorem dX6_isCache_14 : decode cX6_isCache 14 = .ok (.aload_n 0, 1) := by decide +kernel
theorem dX6_isCache_15 : decode cX6_isCache 15 = .ok (.getfield 16, 3) := by decide +kernel
theorem dX6_isCache_18 : decode cX6_isCache 18 = .ok (.iload_n 1, 1) := by decide +kernel
theorem dX6_isCache_19 : decode cX6_isCache 19 = .ok (.baload, 1) := by decide +kernel
theorem dX6_isCache_20 : decode cX6_isCache 20 = .ok (.ifCond .ne 7, 3) := by decide +kernel
theorem dX6_isCache_23 : decode cX6_isCache 23 = .ok (.iconst 1, 1) := by decide +kernel
theorem dX6_isCache_24 : decode cX6_isCache 24 = .ok (.goto 4, 3) := by decide +kernel
theorem dX6_isCache_27 : decode cX6_isCache 27 = .ok (.iconst 0, 1) := by decide +kernel
theorem dX6_isCache_28 : decode cX6_isCache 28 = .ok (.ireturn, 1) := by decide +kernel
theorem dX6_takeBlock_0 : decode cX6_takeBlock 0 = .ok (.iload_n 1, 1) := by decide +kernel
theorem dX6_takeBlock_1 : decode cX6_takeBlock 1 = .ok (.istore_n 2, 1) := by decide +kernel
theorem dX6_takeBlock_2 : decode cX6_takeBlock 2 = .ok (.iload_n 2, 1) := by decide +kernel
theorem dX6_takeBlock_3 : decode cX6_takeBlock 3 = .ok (.bipush 6, 2) := by decide +kernel
theorem dX6_takeBlock_5 : decode cX6_takeBlock 5 = .ok (.if_icmp .gt 75, 3) := by decide +kernel
theorem dX6_takeBlock_8 : decode cX6_takeBlock 8 = .ok (.iconst 0, 1) := by decide +kernel
theorem dX6_takeBlock_9 : decode cX6_takeBlock 9 = .ok (.istore_n 3, 1) := by decide +kernel
theorem dX6_takeBlock_10 : decode cX6_takeBlock 10 = .ok (.iload_n 3, 1) := by decide +kernel
theorem dX6_takeBlock_11 : decode cX6_takeBlock 11 = .ok (.sipush 256, 3) := by decide +kernel
theorem dX6_takeBlock_14 : decode cX6_takeBlock 14 = .ok (.if_icmp .ge 60, 3) := by decide +kernel
theorem dX6_takeBlock_17 : decode cX6_takeBlock 17 = .ok (.aload_n 0, 1) := by decide +kernel
theorem dX6_takeBlock_18 : decode cX6_takeBlock 18 = .ok (.getfield 7, 3) := by decide +kernel
theorem dX6_takeBlock_21 : decode cX6_takeBlock 21 = .ok (.iload_n 3, 1) := by decide +kernel
theorem dX6_takeBlock_22 : decode cX6_takeBlock 22 = .ok (.iaload, 1) := by decide +kernel
theorem dX6_takeBlock_23 : decode cX6_takeBlock 23 = .ok (.iload_n 2, 1) := by decide +kernel
theorem dX6_takeBlock_24 : decode cX6_takeBlock 24 = .ok (.if_icmp .ne 44, 3) := by decide +kernel
theorem dX6_takeBlock_27 : decode cX6_takeBlock 27 = .ok (.aload_n 0, 1) := by decide +kernel
theorem dX6_takeBlock_28 : decode cX6_takeBlock 28 = .ok (.getfield 7, 3) := by decide +kernel
theorem dX6_takeBlock_31 : decode cX6_takeBlock 31 = .ok (.iload_n 3, 1) := by decide +kernel
theorem dX6_takeBlock_32 : decode cX6_takeBlock 32 = .ok (.iconst (-1), 1) := by decide +kernel
theorem dX6_takeBlock_33 : decode cX6_takeBlock 33 = .ok (.iastore, 1) := by decide +kernel
theorem dX6_takeBlock_34 : decode cX6_takeBlock 34 = .ok (.iload_n 2, 1) := by decide +kernel
theorem dX6_takeBlock_35 : decode cX6_takeBlock 35 = .ok (.istore 4, 2) := by decide +kernel
theorem dX6_takeBlock_37 : decode cX6_takeBlock 37 = .ok (.iload 4, 2) := by decide +kernel
theorem dX6_takeBlock_39 : decode cX6_takeBlock 39 = .ok (.iload_n 1, 1) := by decide +kernel
theorem dX6_takeBlock_40 : decode cX6_takeBlock 40 = .ok (.if_icmp .le 26, 3) := by decide +kernel
theorem dX6_takeBlock_43 : decode cX6_takeBlock 43 = .ok (.aload_n 0, 1) := by decide +kernel
theorem dX6_takeBlock_44 : decode cX6_takeBlock 44 = .ok (.getfield 7, 3) := by decide +kernel
theorem dX6_takeBlock_47 : decode cX6_takeBlock 47 = .ok (.iload_n 3, 1) := by decide +kernel
theorem dX6_takeBlock_48 : decode cX6_takeBlock 48 = .ok (.iconst 1, 1) := by decide +kernel
theorem dX6_takeBlock_49 : decode cX6_takeBlock 49 = .ok (.iload 4, 2) := by decide +kernel
theorem dX6_takeBlock_51 : decode cX6_takeBlock 51 = .ok (.iconst 1, 1) := by decide +kernel
theorem dX6_takeBlock_52 : decode cX6_takeBlock 52 = .ok (.isub, 1) := by decide +kernel
theorem dX6_takeBlock_53 : decode cX6_takeBlock 53 = .ok (.ishl, 1) := by decide +kernel
theorem dX6_takeBlock_54 : decode cX6_takeBlock 54 = .ok (.iadd, 1) := by decide +kernel
theorem dX6_takeBlock_55 : decode cX6_takeBlock 55 = .ok (.iload 4, 2) := by decide +kernel
theorem dX6_takeBlock_57 : decode cX6_takeBlock 57 = .ok (.iconst 1, 1) := by decide +kernel
theorem dX6_takeBlock_58 : decode cX6_takeBlock 58 = .ok (.isub, 1) := by decide +kernel
theorem dX6_takeBlock_59 : decode cX6_takeBlock 59 = .ok (.iastore, 1) := by decide +kernel
theorem dX6_takeBlock_60 : decode cX6_takeBlock 60 = .ok (.iinc 4 (-1), 3) := by decide +kernel
theorem dX6_takeBlock_63 : decode cX6_takeBlock 63 = .ok (.goto (-26), 3) := by decide +kernel
theorem dX6_takeBlock_66 : decode cX6_takeBlock 66 = .ok (.iload_n 3, 1) := by decide +kernel
theorem dX6_takeBlock_67 : decode cX6_takeBlock 67 = .ok (.ireturn, 1) := by decide +kernel
theorem dX6_takeBlock_68 : decode cX6_takeBlock 68 = .ok (.iinc 3 1, 3) := by decide +kernel
theorem dX6_takeBlock_71 : decode cX6_takeBlock 71 = .ok (.goto (-61), 3) := by decide +kernel
theorem dX6_takeBlock_74 : decode cX6_takeBlock 74 = .ok (.iinc 2 1, 3) := by decide +kernel
theorem dX6_takeBlock_77 : decode cX6_takeBlock 77 = .ok (.goto (-75), 3) := by decide +kernel
theorem dX6_takeBlock_80 : decode cX6_takeBlock 80 = .ok (.iconst (-1), 1) := by decide +kernel
theorem dX6_takeBlock_81 : decode cX6_takeBlock 81 = .ok (.ireturn, 1) := by decide +kernel
theorem dX6_giveBlock_0 : decode cX6_giveBlock 0 = .ok (.iload_n 1, 1) := by decide +kernel
theorem dX6_giveBlock_1 : decode cX6_giveBlock 1 = .ok (.istore_n 3, 1) := by decide +kernel
theorem dX6_giveBlock_2 : decode cX6_giveBlock 2 = .ok (.iload_n 2, 1) := by decide +kernel
theorem dX6_giveBlock_3 : decode cX6_giveBlock 3 = .ok (.istore 4, 2) := by decide +kernel
theorem dX6_giveBlock_5 : decode cX6_giveBlock 5 = .ok (.iload 4, 2) := by decide +kernel
theorem dX6_giveBlock_7 : decode cX6_giveBlock 7 = .ok (.bipush 6, 2) := by decide +kernel
theorem dX6_giveBlock_9 : decode cX6_giveBlock 9 = .ok (.if_icmp .ge 46, 3) := by decide +kernel
theorem dX6_giveBlock_12 : decode cX6_giveBlock 12 = .ok (.aload_n 0, 1) := by decide +kernel
theorem dX6_giveBlock_13 : decode cX6_giveBlock 13 = .ok (.getfield 7, 3) := by decide +kernel
theorem dX6_giveBlock_16 : decode cX6_giveBlock 16 = .ok (.iload_n 3, 1) := by decide +kernel
theorem dX6_giveBlock_17 : decode cX6_giveBlock 17 = .ok (.iconst 1, 1) := by decide +kernel
theorem dX6_giveBlock_18 : decode cX6_giveBlock 18 = .ok (.iload 4, 2) := by decide +kernel
theorem dX6_giveBlock_20 : decode cX6_giveBlock 20 = .ok (.ishl, 1) := by decide +kernel
theorem dX6_giveBlock_21 : decode cX6_giveBlock 21 = .ok (.ixor, 1) := by decide +kernel
theorem dX6_giveBlock_22 : decode cX6_giveBlock 22 = .ok (.iaload, 1) := by decide +kernel
theorem dX6_giveBlock_23 : decode cX6_giveBlock 23 = .ok (.iload 4, 2) := by decide +kernel
theorem dX6_giveBlock_25 : decode cX6_giveBlock 25 = .ok (.if_icmp .ne 30, 3) := by decide +kernel
theorem dX6_giveBlock_28 : decode cX6_giveBlock 28 = .ok (.aload_n 0, 1) := by decide +kernel
theorem dX6_giveBlock_29 : decode cX6_giveBlock 29 = .ok (.getfield 7, 3) := by decide +kernel
theorem dX6_giveBlock_32 : decode cX6_giveBlock 32 = .ok (.iload_n 3, 1) := by decide +kernel
theorem dX6_giveBlock_33 : decode cX6_giveBlock 33 = .ok (.iconst 1, 1) := by decide +kernel
theorem dX6_giveBlock_34 : decode cX6_giveBlock 34 = .ok (.iload 4, 2) := by decide +kernel
theorem dX6_giveBlock_36 : decode cX6_giveBlock 36 = .ok (.ishl, 1) := by decide +kernel
theorem dX6_giveBlock_37 : decode cX6_giveBlock 37 = .ok (.ixor, 1) := by decide +kernel
theorem dX6_giveBlock_38 : decode cX6_giveBlock 38 = .ok (.iconst (-1), 1) := by decide +kernel
theorem dX6_giveBlock_39 : decode cX6_giveBlock 39 = .ok (.iastore, 1) := by decide +kernel
theorem dX6_giveBlock_40 : decode cX6_giveBlock 40 = .ok (.iload_n 3, 1) := by decide +kernel
theorem dX6_giveBlock_41 : decode cX6_giveBlock 41 = .ok (.iconst 1, 1) := by decide +kernel
theorem dX6_giveBlock_42 : decode cX6_giveBlock 42 = .ok (.iload 4, 2) := by decide +kernel
theorem dX6_giveBlock_44 : decode cX6_giveBlock 44 = .ok (.ishl, 1) := by decide +kernel
theorem dX6_giveBlock_45 : decode cX6_giveBlock 45 = .ok (.iconst (-1), 1) := by decide +kernel
theorem dX6_giveBlock_46 : decode cX6_giveBlock 46 = .ok (.ixor, 1) := by decide +kernel
theorem dX6_giveBlock_47 : decode cX6_giveBlock 47 = .ok (.iand, 1) := by decide +kernel
theorem dX6_giveBlock_48 : decode cX6_giveBlock 48 = .ok (.istore_n 3, 1) := by decide +kernel
theorem dX6_giveBlock_49 : decode cX6_giveBlock 49 = .ok (.iinc 4 1, 3) := by decide +kernel
theorem dX6_giveBlock_52 : decode cX6_giveBlock 52 = .ok (.goto (-47), 3) := by decide +kernel
theorem dX6_giveBlock_55 : decode cX6_giveBlock 55 = .ok (.aload_n 0, 1) := by decide +kernel
theorem dX6_giveBlock_56 : decode cX6_giveBlock 56 = .ok (.getfield 7, 3) := by decide +kernel
theorem dX6_giveBlock_59 : decode cX6_giveBlock 59 = .ok (.iload_n 3, 1) := by decide +kernel
theorem dX6_giveBlock_60 : decode cX6_giveBlock 60 = .ok (.iload 4, 2) := by decide +kernel
theorem dX6_giveBlock_62 : decode cX6_giveBlock 62 = .ok (.iastore, 1) := by decide +kernel
theorem dX6_giveBlock_63 : decode cX6_giveBlock 63 = .ok (.return_, 1) := by decide +kernel
theorem dX6_enter_0 : decode cX6_enter 0 = .ok (.iconst 3, 1) := by decide +kernel
theorem dX6_enter_1 : decode cX6_enter 1 = .ok (.iload_n 1, 1) := by decide +kernel
theorem dX6_enter_2 : decode cX6_enter 2 = .ok (.imul, 1) := by decide +kernel
theorem dX6_enter_3 : decode cX6_enter 3 = .ok (.iload_n 2, 1) := by decide +kernel
theorem dX6_enter_4 : decode cX6_enter 4 = .ok (.iadd, 1) := by decide +kernel
theorem dX6_enter_5 : decode cX6_enter 5 = .ok (.istore 4, 2) := by decide +kernel
theorem dX6_enter_7 : decode cX6_enter 7 = .ok (.aload_n 0, 1) := by decide +kernel
theorem dX6_enter_8 : decode cX6_enter 8 = .ok (.getfield 69, 3) := by decide +kernel
theorem dX6_enter_11 : decode cX6_enter 11 = .ok (.iload 4, 2) := by decide +kernel
theorem dX6_enter_13 : decode cX6_enter 13 = .ok (.iaload, 1) := by decide +kernel
theorem dX6_enter_14 : decode cX6_enter 14 = .ok (.istore 5, 2) := by decide +kernel
theorem dX6_enter_16 : decode cX6_enter 16 = .ok (.iload 5, 2) := by decide +kernel
theorem dX6_enter_18 : decode cX6_enter 18 = .ok (.ifCond .le 39, 3) := by decide +kernel
theorem dX6_enter_21 : decode cX6_enter 21 = .ok (.aload_n 0, 1) := by decide +kernel
theorem dX6_enter_22 : decode cX6_enter 22 = .ok (.getfield 72, 3) := by decide +kernel
theorem dX6_enter_25 : decode cX6_enter 25 = .ok (.sipush 256, 3) := by decide +kernel
theorem dX6_enter_28 : decode cX6_enter 28 = .ok (.iload 4, 2) := by decide +kernel
theorem dX6_enter_30 : decode cX6_enter 30 = .ok (.imul, 1) := by decide +kernel
theorem dX6_enter_31 : decode cX6_enter 31 = .ok (.iload 5, 2) := by decide +kernel
theorem dX6_enter_33 : decode cX6_enter 33 = .ok (.iadd, 1) := by decide +kernel
theorem dX6_enter_34 : decode cX6_enter 34 = .ok (.aload_n 0, 1) := by decide +kernel
theorem dX6_enter_35 : decode cX6_enter 35 = .ok (.getfield 72, 3) := by decide +kernel
theorem dX6_enter_38 : decode cX6_enter 38 = .ok (.sipush 256, 3) := by decide +kernel
theorem dX6_enter_41 : decode cX6_enter 41 = .ok (.iload 4, 2) := by decide +kernel
theorem dX6_enter_43 : decode cX6_enter 43 = .ok (.imul, 1) := by decide +kernel
theorem dX6_enter_44 : decode cX6_enter 44 = .ok (.iload 5, 2) := by decide +kernel
theorem dX6_enter_46 : decode cX6_enter 46 = .ok (.iadd, 1) := by decide +kernel
theorem dX6_enter_47 : decode cX6_enter 47 = .ok (.iconst 1, 1) := by decide +kernel
theorem dX6_enter_48 : decode cX6_enter 48 = .ok (.isub, 1) := by decide +kernel
theorem dX6_enter_49 : decode cX6_enter 49 = .ok (.iaload, 1) := by decide +kernel
theorem dX6_enter_50 : decode cX6_enter 50 = .ok (.iastore, 1) := by decide +kernel
theorem dX6_enter_51 : decode cX6_enter 51 = .ok (.iinc 5 (-1), 3) := by decide +kernel
theorem dX6_enter_54 : decode cX6_enter 54 = .ok (.goto (-38), 3) := by decide +kernel
theorem dX6_enter_57 : decode cX6_enter 57 = .ok (.aload_n 0, 1) := by decide +kernel
theorem dX6_enter_58 : decode cX6_enter 58 = .ok (.getfield 72, 3) := by decide +kernel
theorem dX6_enter_61 : decode cX6_enter 61 = .ok (.sipush 256, 3) := by decide +kernel
theorem dX6_enter_64 : decode cX6_enter 64 = .ok (.iload 4, 2) := by decide +kernel
theorem dX6_enter_66 : decode cX6_enter 66 = .ok (.imul, 1) := by decide +kernel
theorem dX6_enter_67 : decode cX6_enter 67 = .ok (.iload_n 3, 1) := by decide +kernel
theorem dX6_enter_68 : decode cX6_enter 68 = .ok (.iastore, 1) := by decide +kernel
theorem dX6_enter_69 : decode cX6_enter 69 = .ok (.aload_n 0, 1) := by decide +kernel
theorem dX6_enter_70 : decode cX6_enter 70 = .ok (.getfield 69, 3) := by decide +kernel
theorem dX6_enter_73 : decode cX6_enter 73 = .ok (.iload 4, 2) := by decide +kernel
theorem dX6_enter_75 : decode cX6_enter 75 = .ok (.dup2, 1) := by decide +kernel
theorem dX6_enter_76 : decode cX6_enter 76 = .ok (.iaload, 1) := by decide +kernel
theorem dX6_enter_77 : decode cX6_enter 77 = .ok (.iconst 1, 1) := by decide +kernel
theorem dX6_enter_78 : decode cX6_enter 78 = .ok (.iadd, 1) := by decide +kernel
theorem dX6_enter_79 : decode cX6_enter 79 = .ok (.iastore, 1) := by decide +kernel
theorem dX6_enter_80 : decode cX6_enter 80 = .ok (.return_, 1) := by decide +kernel
theorem dX6_leave_0 : decode cX6_leave 0 = .ok (.iconst 3, 1) := by decide +kernel
theorem dX6_leave_1 : decode cX6_leave 1 = .ok (.iload_n 1, 1) := by decide +kernel
theorem dX6_leave_2 : decode cX6_leave 2 = .ok (.imul, 1) := by decide +kernel
theorem dX6_leave_3 : decode cX6_leave 3 = .ok (.iload_n 2, 1) := by decide +kernel
theorem dX6_leave_4 : decode cX6_leave 4 = .ok (.iadd, 1) := by decide +kernel
theorem dX6_leave_5 : decode cX6_leave 5 = .ok (.istore 4, 2) := by decide +kernel
theorem dX6_leave_7 : decode cX6_leave 7 = .ok (.iconst 0, 1) := by decide +kernel
theorem dX6_leave_8 : decode cX6_leave 8 = .ok (.istore 5, 2) := by decide +kernel
theorem dX6_leave_10 : decode cX6_leave 10 = .ok (.aload_n 0, 1) := by decide +kernel
theorem dX6_leave_11 : decode cX6_leave 11 = .ok (.getfield 72, 3) := by decide +kernel
theorem dX6_leave_14 : decode cX6_leave 14 = .ok (.sipush 256, 3) := by decide +kernel
theorem dX6_leave_17 : decode cX6_leave 17 = .ok (.iload 4, 2) := by decide +kernel
theorem dX6_leave_19 : decode cX6_leave 19 = .ok (.imul, 1) := by decide +kernel
theorem dX6_leave_20 : decode cX6_leave 20 = .ok (.iload 5, 2) := by decide +kernel
theorem dX6_leave_22 : decode cX6_leave 22 = .ok (.iadd, 1) := by decide +kernel
theorem dX6_leave_23 : decode cX6_leave 23 = .ok (.iaload, 1) := by decide +kernel
theorem dX6_leave_24 : decode cX6_leave 24 = .ok (.iload_n 3, 1) := by decide +kernel
theorem dX6_leave_25 : decode cX6_leave 25 = .ok (.if_icmp .eq 9, 3) := by decide +kernel
theorem dX6_leave_28 : decode cX6_leave 28 = .ok (.iinc 5 1, 3) := by decide +kernel
theorem dX6_leave_31 : decode cX6_leave 31 = .ok (.goto (-21), 3) := by decide +kernel
theorem dX6_leave_34 : decode cX6_leave 34 = .ok (.aload_n 0, 1) := by decide +kernel
theorem dX6_leave_35 : decode cX6_leave 35 = .ok (.getfield 69, 3) := by decide +kernel
theorem dX6_leave_38 : decode cX6_leave 38 = .ok (.iload 4, 2) := by decide +kernel
theorem dX6_leave_40 : decode cX6_leave 40 = .ok (.dup2, 1) := by decide +kernel
theorem dX6_leave_41 : decode cX6_leave 41 = .ok (.iaload, 1) := by decide +kernel
theorem dX6_leave_42 : decode cX6_leave 42 = .ok (.iconst 1, 1) := by decide +kernel
theorem dX6_leave_43 : decode cX6_leave 43 = .ok (.isub, 1) := by decide +kernel
theorem dX6_leave_44 : decode cX6_leave 44 = .ok (.iastore, 1) := by decide +kernel
theorem dX6_leave_45 : decode cX6_leave 45 = .ok (.iload 5, 2) := by decide +kernel
theorem dX6_leave_47 : decode cX6_leave 47 = .ok (.istore 6, 2) := by decide +kernel
theorem dX6_leave_49 : decode cX6_leave 49 = .ok (.iload 6, 2) := by decide +kernel
theorem dX6_leave_51 : decode cX6_leave 51 = .ok (.aload_n 0, 1) := by decide +kernel
theorem dX6_leave_52 : decode cX6_leave 52 = .ok (.getfield 69, 3) := by decide +kernel
theorem dX6_leave_55 : decode cX6_leave 55 = .ok (.iload 4, 2) := by decide +kernel
theorem dX6_leave_57 : decode cX6_leave 57 = .ok (.iaload, 1) := by decide +kernel
theorem dX6_leave_58 : decode cX6_leave 58 = .ok (.if_icmp .ge 39, 3) := by decide +kernel
theorem dX6_leave_61 : decode cX6_leave 61 = .ok (.aload_n 0, 1) := by decide +kernel
theorem dX6_leave_62 : decode cX6_leave 62 = .ok (.getfield 72, 3) := by decide +kernel
theorem dX6_leave_65 : decode cX6_leave 65 = .ok (.sipush 256, 3) := by decide +kernel
theorem dX6_leave_68 : decode cX6_leave 68 = .ok (.iload 4, 2) := by decide +kernel
theorem dX6_leave_70 : decode cX6_leave 70 = .ok (.imul, 1) := by decide +kernel
theorem dX6_leave_71 : decode cX6_leave 71 = .ok (.iload 6, 2) := by decide +kernel
theorem dX6_leave_73 : decode cX6_leave 73 = .ok (.iadd, 1) := by decide +kernel
theorem dX6_leave_74 : decode cX6_leave 74 = .ok (.aload_n 0, 1) := by decide +kernel
theorem dX6_leave_75 : decode cX6_leave 75 = .ok (.getfield 72, 3) := by decide +kernel
theorem dX6_leave_78 : decode cX6_leave 78 = .ok (.sipush 256, 3) := by decide +kernel
theorem dX6_leave_81 : decode cX6_leave 81 = .ok (.iload 4, 2) := by decide +kernel
theorem dX6_leave_83 : decode cX6_leave 83 = .ok (.imul, 1) := by decide +kernel
theorem dX6_leave_84 : decode cX6_leave 84 = .ok (.iload 6, 2) := by decide +kernel
theorem dX6_leave_86 : decode cX6_leave 86 = .ok (.iadd, 1) := by decide +kernel
theorem dX6_leave_87 : decode cX6_leave 87 = .ok (.iconst 1, 1) := by decide +kernel
theorem dX6_leave_88 : decode cX6_leave 88 = .ok (.iadd, 1) := by decide +kernel
theorem dX6_leave_89 : decode cX6_leave 89 = .ok (.iaload, 1) := by decide +kernel
theorem dX6_leave_90 : decode cX6_leave 90 = .ok (.iastore, 1) := by decide +kernel
theorem dX6_leave_91 : decode cX6_leave 91 = .ok (.iinc 6 1, 3) := by decide +kernel
theorem dX6_leave_94 : decode cX6_leave 94 = .ok (.goto (-45), 3) := by decide +kernel
theorem dX6_leave_97 : decode cX6_leave 97 = .ok (.return_, 1) := by decide +kernel
theorem dX6_whichOf_0 : decode cX6_whichOf 0 = .ok (.aload_n 0, 1) := by decide +kernel
theorem dX6_whichOf_1 : decode cX6_whichOf 1 = .ok (.getfield 53, 3) := by decide +kernel
theorem dX6_whichOf_4 : decode cX6_whichOf 4 = .ok (.iload_n 1, 1) := by decide +kernel
theorem dX6_whichOf_5 : decode cX6_whichOf 5 = .ok (.iaload, 1) := by decide +kernel
theorem dX6_whichOf_6 : decode cX6_whichOf 6 = .ok (.ifCond .ne 7, 3) := by decide +kernel
theorem dX6_whichOf_9 : decode cX6_whichOf 9 = .ok (.iconst 2, 1) := by decide +kernel
theorem dX6_whichOf_10 : decode cX6_whichOf 10 = .ok (.goto 28, 3) := by decide +kernel
theorem dX6_whichOf_13 : decode cX6_whichOf 13 = .ok (.aload_n 0, 1) := by decide +kernel
theorem dX6_whichOf_14 : decode cX6_whichOf 14 = .ok (.getfield 53, 3) := by decide +kernel
theorem dX6_whichOf_17 : decode cX6_whichOf 17 = .ok (.iload_n 1, 1) := by decide +kernel
theorem dX6_whichOf_18 : decode cX6_whichOf 18 = .ok (.iaload, 1) := by decide +kernel
theorem dX6_whichOf_19 : decode cX6_whichOf 19 = .ok (.aload_n 0, 1) := by decide +kernel
theorem dX6_whichOf_20 : decode cX6_whichOf 20 = .ok (.getfield 35, 3) := by decide +kernel
theorem dX6_whichOf_23 : decode cX6_whichOf 23 = .ok (.aload_n 0, 1) := by decide +kernel
theorem dX6_whichOf_24 : decode cX6_whichOf 24 = .ok (.getfield 47, 3) := by decide +kernel
theorem dX6_whichOf_27 : decode cX6_whichOf 27 = .ok (.iload_n 1, 1) := by decide +kernel
theorem dX6_whichOf_28 : decode cX6_whichOf 28 = .ok (.iaload, 1) := by decide +kernel
theorem dX6_whichOf_29 : decode cX6_whichOf 29 = .ok (.iaload, 1) := by decide +kernel
theorem dX6_whichOf_30 : decode cX6_whichOf 30 = .ok (.if_icmp .ne 7, 3) := by decide +kernel
theorem dX6_whichOf_33 : decode cX6_whichOf 33 = .ok (.iconst 0, 1) := by decide +kernel
theorem dX6_whichOf_34 : decode cX6_whichOf 34 = .ok (.goto 4, 3) := by decide +kernel
theorem dX6_whichOf_37 : decode cX6_whichOf 37 = .ok (.iconst 1, 1) := by decide +kernel
theorem dX6_whichOf_38 : decode cX6_whichOf 38 = .ok (.ireturn, 1) := by decide +kernel
theorem dX6_change_0 : decode cX6_change 0 = .ok (.aload_n 0, 1) := by decide +kernel
theorem dX6_change_1 : decode cX6_change 1 = .ok (.iload_n 1, 1) := by decide +kernel
theorem dX6_change_2 : decode cX6_change 2 = .ok (.invokevirtual 98, 3) := by decide +kernel
theorem dX6_change_5 : decode cX6_change 5 = .ok (.istore_n 3, 1) := by decide +kernel
theorem dX6_change_6 : decode cX6_change 6 = .ok (.aload_n 0, 1) := by decide +kernel
theorem dX6_change_7 : decode cX6_change 7 = .ok (.getfield 53, 3) := by decide +kernel
theorem dX6_change_10 : decode cX6_change 10 = .ok (.iload_n 1, 1) := by decide +kernel
theorem dX6_change_11 : decode cX6_change 11 = .ok (.aload_n 0, 1) := by decide +kernel
theorem dX6_change_12 : decode cX6_change 12 = .ok (.getfield 53, 3) := by decide +kernel
theorem dX6_change_15 : decode cX6_change 15 = .ok (.iload_n 1, 1) := by decide +kernel
theorem dX6_change_16 : decode cX6_change 16 = .ok (.iaload, 1) := by decide +kernel
theorem dX6_change_17 : decode cX6_change 17 = .ok (.iload_n 2, 1) := by decide +kernel
theorem dX6_change_18 : decode cX6_change 18 = .ok (.iadd, 1) := by decide +kernel
theorem dX6_change_19 : decode cX6_change 19 = .ok (.iastore, 1) := by decide +kernel
theorem dX6_change_20 : decode cX6_change 20 = .ok (.aload_n 0, 1) := by decide +kernel
theorem dX6_change_21 : decode cX6_change 21 = .ok (.iload_n 1, 1) := by decide +kernel
theorem dX6_change_22 : decode cX6_change 22 = .ok (.invokevirtual 98, 3) := by decide +kernel
theorem dX6_change_25 : decode cX6_change 25 = .ok (.istore 4, 2) := by decide +kernel
theorem dX6_change_27 : decode cX6_change 27 = .ok (.iload 4, 2) := by decide +kernel
theorem dX6_change_29 : decode cX6_change 29 = .ok (.iload_n 3, 1) := by decide +kernel
theorem dX6_change_30 : decode cX6_change 30 = .ok (.if_icmp .eq 28, 3) := by decide +kernel
theorem dX6_change_33 : decode cX6_change 33 = .ok (.aload_n 0, 1) := by decide +kernel
theorem dX6_change_34 : decode cX6_change 34 = .ok (.aload_n 0, 1) := by decide +kernel
theorem dX6_change_35 : decode cX6_change 35 = .ok (.getfield 47, 3) := by decide +kernel
theorem dX6_change_38 : decode cX6_change 38 = .ok (.iload_n 1, 1) := by decide +kernel
theorem dX6_change_39 : decode cX6_change 39 = .ok (.iaload, 1) := by decide +kernel
theorem dX6_change_40 : decode cX6_change 40 = .ok (.iload_n 3, 1) := by decide +kernel
theorem dX6_change_41 : decode cX6_change 41 = .ok (.iload_n 1, 1) := by decide +kernel
theorem dX6_change_42 : decode cX6_change 42 = .ok (.invokevirtual 102, 3) := by decide +kernel
theorem dX6_change_45 : decode cX6_change 45 = .ok (.aload_n 0, 1) := by decide +kernel
theorem dX6_change_46 : decode cX6_change 46 = .ok (.aload_n 0, 1) := by decide +kernel
theorem dX6_change_47 : decode cX6_change 47 = .ok (.getfield 47, 3) := by decide +kernel
theorem dX6_change_50 : decode cX6_change 50 = .ok (.iload_n 1, 1) := by decide +kernel
theorem dX6_change_51 : decode cX6_change 51 = .ok (.iaload, 1) := by decide +kernel
theorem dX6_change_52 : decode cX6_change 52 = .ok (.iload 4, 2) := by decide +kernel
theorem dX6_change_54 : decode cX6_change 54 = .ok (.iload_n 1, 1) := by decide +kernel
theorem dX6_change_55 : decode cX6_change 55 = .ok (.invokevirtual 106, 3) := by decide +kernel
theorem dX6_change_58 : decode cX6_change 58 = .ok (.return_, 1) := by decide +kernel
theorem dX6_unitOf_0 : decode cX6_unitOf 0 = .ok (.aload_n 0, 1) := by decide +kernel
theorem dX6_unitOf_1 : decode cX6_unitOf 1 = .ok (.getfield 47, 3) := by decide +kernel
theorem dX6_unitOf_4 : decode cX6_unitOf 4 = .ok (.iload_n 1, 1) := by decide +kernel
theorem dX6_unitOf_5 : decode cX6_unitOf 5 = .ok (.iaload, 1) := by decide +kernel
theorem dX6_unitOf_6 : decode cX6_unitOf 6 = .ok (.istore_n 3, 1) := by decide +kernel
theorem dX6_unitOf_7 : decode cX6_unitOf 7 = .ok (.sipush 1024, 3) := by decide +kernel
theorem dX6_unitOf_10 : decode cX6_unitOf 10 = .ok (.iload_n 1, 1) := by decide +kernel
theorem dX6_unitOf_11 : decode cX6_unitOf 11 = .ok (.imul, 1) := by decide +kernel
theorem dX6_unitOf_12 : decode cX6_unitOf 12 = .ok (.aload_n 0, 1) := by decide +kernel
theorem dX6_unitOf_13 : decode cX6_unitOf 13 = .ok (.getfield 50, 3) := by decide +kernel
theorem dX6_unitOf_16 : decode cX6_unitOf 16 = .ok (.iload_n 1, 1) := by decide +kernel
theorem dX6_unitOf_17 : decode cX6_unitOf 17 = .ok (.iaload, 1) := by decide +kernel
theorem dX6_unitOf_18 : decode cX6_unitOf 18 = .ok (.aload_n 0, 1) := by decide +kernel
theorem dX6_unitOf_19 : decode cX6_unitOf 19 = .ok (.getfield 23, 3) := by decide +kernel
theorem dX6_unitOf_22 : decode cX6_unitOf 22 = .ok (.iload_n 3, 1) := by decide +kernel
theorem dX6_unitOf_23 : decode cX6_unitOf 23 = .ok (.iaload, 1) := by decide +kernel
theorem dX6_unitOf_24 : decode cX6_unitOf 24 = .ok (.imul, 1) := by decide +kernel
theorem dX6_unitOf_25 : decode cX6_unitOf 25 = .ok (.iadd, 1) := by decide +kernel
theorem dX6_unitOf_26 : decode cX6_unitOf 26 = .ok (.iload_n 2, 1) := by decide +kernel
theorem dX6_unitOf_27 : decode cX6_unitOf 27 = .ok (.aload_n 0, 1) := by decide +kernel
theorem dX6_unitOf_28 : decode cX6_unitOf 28 = .ok (.getfield 32, 3) := by decide +kernel
theorem dX6_unitOf_31 : decode cX6_unitOf 31 = .ok (.iload_n 3, 1) := by decide +kernel
theorem dX6_unitOf_32 : decode cX6_unitOf 32 = .ok (.iaload, 1) := by decide +kernel
theorem dX6_unitOf_33 : decode cX6_unitOf 33 = .ok (.imul, 1) := by decide +kernel
theorem dX6_unitOf_34 : decode cX6_unitOf 34 = .ok (.iadd, 1) := by decide +kernel
theorem dX6_unitOf_35 : decode cX6_unitOf 35 = .ok (.bipush 8, 2) := by decide +kernel
theorem dX6_unitOf_37 : decode cX6_unitOf 37 = .ok (.idiv, 1) := by decide +kernel
theorem dX6_unitOf_38 : decode cX6_unitOf 38 = .ok (.ireturn, 1) := by decide +kernel
theorem dX6_makeSlab_0 : decode cX6_makeSlab 0 = .ok (.aload_n 0, 1) := by decide +kernel
theorem dX6_makeSlab_1 : decode cX6_makeSlab 1 = .ok (.aload_n 0, 1) := by decide +kernel
theorem dX6_makeSlab_2 : decode cX6_makeSlab 2 = .ok (.getfield 26, 3) := by decide +kernel
theorem dX6_makeSlab_5 : decode cX6_makeSlab 5 = .ok (.iload_n 1, 1) := by decide +kernel
theorem dX6_makeSlab_6 : decode cX6_makeSlab 6 = .ok (.iaload, 1) := by decide +kernel
theorem dX6_makeSlab_7 : decode cX6_makeSlab 7 = .ok (.invokevirtual 109, 3) := by decide +kernel
theorem dX6_makeSlab_10 : decode cX6_makeSlab 10 = .ok (.istore_n 2, 1) := by decide +kernel
theorem dX6_makeSlab_11 : decode cX6_makeSlab 11 = .ok (.iload_n 2, 1) := by decide +kernel
theorem dX6_makeSlab_12 : decode cX6_makeSlab 12 = .ok (.ifCond .ge 19, 3) := by decide +kernel
theorem dX6_makeSlab_15 : decode cX6_makeSlab 15 = .ok (.aload_n 0, 1) := by decide +kernel
theorem dX6_makeSlab_16 : decode cX6_makeSlab 16 = .ok (.invokevirtual 112, 3) := by decide +kernel
theorem dX6_makeSlab_19 : decode cX6_makeSlab 19 = .ok (.pop, 1) := by decide +kernel
theorem dX6_makeSlab_20 : decode cX6_makeSlab 20 = .ok (.aload_n 0, 1) := by decide +kernel
theorem dX6_makeSlab_21 : decode cX6_makeSlab 21 = .ok (.aload_n 0, 1) := by decide +kernel
theorem dX6_makeSlab_22 : decode cX6_makeSlab 22 = .ok (.getfield 26, 3) := by decide +kernel
theorem dX6_makeSlab_25 : decode cX6_makeSlab 25 = .ok (.iload_n 1, 1) := by decide +kernel
theorem dX6_makeSlab_26 : decode cX6_makeSlab 26 = .ok (.iaload, 1) := by decide +kernel
theorem dX6_makeSlab_27 : decode cX6_makeSlab 27 = .ok (.invokevirtual 109, 3) := by decide +kernel
theorem dX6_makeSlab_30 : decode cX6_makeSlab 30 = .ok (.istore_n 2, 1) := by decide +kernel
theorem dX6_makeSlab_31 : decode cX6_makeSlab 31 = .ok (.iload_n 2, 1) := by decide +kernel
theorem dX6_makeSlab_32 : decode cX6_makeSlab 32 = .ok (.ifCond .ge 5, 3) := by decide +kernel
theorem dX6_makeSlab_35 : decode cX6_makeSlab 35 = .ok (.iconst 0, 1) := by decide +kernel
theorem dX6_makeSlab_36 : decode cX6_makeSlab 36 = .ok (.ireturn, 1) := by decide +kernel
theorem dX6_makeSlab_37 : decode cX6_makeSlab 37 = .ok (.iload_n 2, 1) := by decide +kernel
theorem dX6_makeSlab_38 : decode cX6_makeSlab 38 = .ok (.istore_n 3, 1) := by decide +kernel
theorem dX6_makeSlab_39 : decode cX6_makeSlab 39 = .ok (.iload_n 3, 1) := by decide +kernel
theorem dX6_makeSlab_40 : decode cX6_makeSlab 40 = .ok (.iload_n 2, 1) := by decide +kernel
theorem dX6_makeSlab_41 : decode cX6_makeSlab 41 = .ok (.iconst 1, 1) := by decide +kernel
theorem dX6_makeSlab_42 : decode cX6_makeSlab 42 = .ok (.aload_n 0, 1) := by decide +kernel
theorem dX6_makeSlab_43 : decode cX6_makeSlab 43 = .ok (.getfield 26, 3) := by decide +kernel
theorem dX6_makeSlab_46 : decode cX6_makeSlab 46 = .ok (.iload_n 1, 1) := by decide +kernel
theorem dX6_makeSlab_47 : decode cX6_makeSlab 47 = .ok (.iaload, 1) := by decide +kernel
theorem dX6_makeSlab_48 : decode cX6_makeSlab 48 = .ok (.ishl, 1) := by decide +kernel
theorem dX6_makeSlab_49 : decode cX6_makeSlab 49 = .ok (.iadd, 1) := by decide +kernel
theorem dX6_makeSlab_50 : decode cX6_makeSlab 50 = .ok (.if_icmp .ge 16, 3) := by decide +kernel
theorem dX6_makeSlab_53 : decode cX6_makeSlab 53 = .ok (.aload_n 0, 1) := by decide +kernel
theorem dX6_makeSlab_54 : decode cX6_makeSlab 54 = .ok (.getfield 13, 3) := by decide +kernel
theorem dX6_makeSlab_57 : decode cX6_makeSlab 57 = .ok (.iload_n 3, 1) := by decide +kernel
theorem dX6_makeSlab_58 : decode cX6_makeSlab 58 = .ok (.iload_n 2, 1) := by decide +kernel
theorem dX6_makeSlab_59 : decode cX6_makeSlab 59 = .ok (.iastore, 1) := by decide +kernel
theorem dX6_makeSlab_60 : decode cX6_makeSlab 60 = .ok (.iinc 3 1, 3) := by decide +kernel
theorem dX6_makeSlab_63 : decode cX6_makeSlab 63 = .ok (.goto (-24), 3) := by decide +kernel
theorem dX6_makeSlab_66 : decode cX6_makeSlab 66 = .ok (.aload_n 0, 1) := by decide +kernel
theorem dX6_makeSlab_67 : decode cX6_makeSlab 67 = .ok (.getfield 47, 3) := by decide +kernel
theorem dX6_makeSlab_70 : decode cX6_makeSlab 70 = .ok (.iload_n 2, 1) := by decide +kernel
theorem dX6_makeSlab_71 : decode cX6_makeSlab 71 = .ok (.iload_n 1, 1) := by decide +kernel
theorem dX6_makeSlab_72 : decode cX6_makeSlab 72 = .ok (.iastore, 1) := by decide +kernel
theorem dX6_makeSlab_73 : decode cX6_makeSlab 73 = .ok (.aload_n 0, 1) := by decide +kernel
theorem dX6_makeSlab_74 : decode cX6_makeSlab 74 = .ok (.getfield 50, 3) := by decide +kernel
theorem dX6_makeSlab_77 : decode cX6_makeSlab 77 = .ok (.iload_n 2, 1) := by decide +kernel
theorem dX6_makeSlab_78 : decode cX6_makeSlab 78 = .ok (.aload_n 0, 1) := by decide +kernel
theorem dX6_makeSlab_79 : decode cX6_makeSlab 79 = .ok (.getfield 41, 3) := by decide +kernel
theorem dX6_makeSlab_82 : decode cX6_makeSlab 82 = .ok (.iload_n 1, 1) := by decide +kernel
theorem dX6_makeSlab_83 : decode cX6_makeSlab 83 = .ok (.iaload, 1) := by decide +kernel
theorem dX6_makeSlab_84 : decode cX6_makeSlab 84 = .ok (.iastore, 1) := by decide +kernel
theorem dX6_makeSlab_85 : decode cX6_makeSlab 85 = .ok (.aload_n 0, 1) := by decide +kernel
theorem dX6_makeSlab_86 : decode cX6_makeSlab 86 = .ok (.getfield 41, 3) := by decide +kernel
theorem dX6_makeSlab_89 : decode cX6_makeSlab 89 = .ok (.iload_n 1, 1) := by decide +kernel
theorem dX6_makeSlab_90 : decode cX6_makeSlab 90 = .ok (.aload_n 0, 1) := by decide +kernel
theorem dX6_makeSlab_91 : decode cX6_makeSlab 91 = .ok (.getfield 41, 3) := by decide +kernel
theorem dX6_makeSlab_94 : decode cX6_makeSlab 94 = .ok (.iload_n 1, 1) := by decide +kernel
theorem dX6_makeSlab_95 : decode cX6_makeSlab 95 = .ok (.iaload, 1) := by decide +kernel
theorem dX6_makeSlab_96 : decode cX6_makeSlab 96 = .ok (.iconst 1, 1) := by decide +kernel
theorem dX6_makeSlab_97 : decode cX6_makeSlab 97 = .ok (.iadd, 1) := by decide +kernel
theorem dX6_makeSlab_98 : decode cX6_makeSlab 98 = .ok (.aload_n 0, 1) := by decide +kernel
theorem dX6_makeSlab_99 : decode cX6_makeSlab 99 = .ok (.getfield 38, 3) := by decide +kernel
theorem dX6_makeSlab_102 : decode cX6_makeSlab 102 = .ok (.iload_n 1, 1) := by decide +kernel
theorem dX6_makeSlab_103 : decode cX6_makeSlab 103 = .ok (.iaload, 1) := by decide +kernel
theorem dX6_makeSlab_104 : decode cX6_makeSlab 104 = .ok (.if_icmp .ne 7, 3) := by decide +kernel
theorem dX6_makeSlab_107 : decode cX6_makeSlab 107 = .ok (.iconst 0, 1) := by decide +kernel
theorem dX6_makeSlab_108 : decode cX6_makeSlab 108 = .ok (.goto 11, 3) := by decide +kernel
theorem dX6_makeSlab_111 : decode cX6_makeSlab 111 = .ok (.aload_n 0, 1) := by decide +kernel
theorem dX6_makeSlab_112 : decode cX6_makeSlab 112 = .ok (.getfield 41, 3) := by decide +kernel
theorem dX6_makeSlab_115 : decode cX6_makeSlab 115 = .ok (.iload_n 1, 1) := by decide +kernel
theorem dX6_makeSlab_116 : decode cX6_makeSlab 116 = .ok (.iaload, 1) := by decide +kernel
theorem dX6_makeSlab_117 : decode cX6_makeSlab 117 = .ok (.iconst 1, 1) := by decide +kernel
theorem dX6_makeSlab_118 : decode cX6_makeSlab 118 = .ok (.iadd, 1) := by decide +kernel
theorem dX6_makeSlab_119 : decode cX6_makeSlab 119 = .ok (.iastore, 1) := by decide +kernel
theorem dX6_makeSlab_120 : decode cX6_makeSlab 120 = .ok (.aload_n 0, 1) := by decide +kernel
theorem dX6_makeSlab_121 : decode cX6_makeSlab 121 = .ok (.getfield 53, 3) := by decide +kernel
theorem dX6_makeSlab_124 : decode cX6_makeSlab 124 = .ok (.iload_n 2, 1) := by decide +kernel
theorem dX6_makeSlab_125 : decode cX6_makeSlab 125 = .ok (.iconst 0, 1) := by decide +kernel
theorem dX6_makeSlab_126 : decode cX6_makeSlab 126 = .ok (.iastore, 1) := by decide +kernel
theorem dX6_makeSlab_127 : decode cX6_makeSlab 127 = .ok (.aload_n 0, 1) := by decide +kernel
theorem dX6_makeSlab_128 : decode cX6_makeSlab 128 = .ok (.getfield 56, 3) := by decide +kernel
theorem dX6_makeSlab_131 : decode cX6_makeSlab 131 = .ok (.iload_n 2, 1) := by decide +kernel
theorem dX6_makeSlab_132 : decode cX6_makeSlab 132 = .ok (.aload_n 0, 1) := by decide +kernel
theorem dX6_makeSlab_133 : decode cX6_makeSlab 133 = .ok (.iload_n 2, 1) := by decide +kernel
theorem dX6_makeSlab_134 : decode cX6_makeSlab 134 = .ok (.iconst 0, 1) := by decide +kernel
theorem dX6_makeSlab_135 : decode cX6_makeSlab 135 = .ok (.invokevirtual 116, 3) := by decide +kernel
theorem dX6_makeSlab_138 : decode cX6_makeSlab 138 = .ok (.iastore, 1) := by decide +kernel
theorem dX6_makeSlab_139 : decode cX6_makeSlab 139 = .ok (.iconst 0, 1) := by decide +kernel
theorem dX6_makeSlab_140 : decode cX6_makeSlab 140 = .ok (.istore_n 3, 1) := by decide +kernel
theorem dX6_makeSlab_141 : decode cX6_makeSlab 141 = .ok (.iload_n 3, 1) := by decide +kernel
theorem dX6_makeSlab_142 : decode cX6_makeSlab 142 = .ok (.aload_n 0, 1) := by decide +kernel
theorem dX6_makeSlab_143 : decode cX6_makeSlab 143 = .ok (.getfield 35, 3) := by decide +kernel
theorem dX6_makeSlab_146 : decode cX6_makeSlab 146 = .ok (.iload_n 1, 1) := by decide +kernel
theorem dX6_makeSlab_147 : decode cX6_makeSlab 147 = .ok (.iaload, 1) := by decide +kernel
theorem dX6_makeSlab_148 : decode cX6_makeSlab 148 = .ok (.if_icmp .ge 69, 3) := by decide +kernel
theorem dX6_makeSlab_151 : decode cX6_makeSlab 151 = .ok (.aload_n 0, 1) := by decide +kernel
theorem dX6_makeSlab_152 : decode cX6_makeSlab 152 = .ok (.iload_n 2, 1) := by decide +kernel
theorem dX6_makeSlab_153 : decode cX6_makeSlab 153 = .ok (.iload_n 3, 1) := by decide +kernel
theorem dX6_makeSlab_154 : decode cX6_makeSlab 154 = .ok (.invokevirtual 116, 3) := by decide +kernel
theorem dX6_makeSlab_157 : decode cX6_makeSlab 157 = .ok (.istore 4, 2) := by decide +kernel
theorem dX6_makeSlab_159 : decode cX6_makeSlab 159 = .ok (.aload_n 0, 1) := by decide +kernel
theorem dX6_makeSlab_160 : decode cX6_makeSlab 160 = .ok (.getfield 60, 3) := by decide +kernel
theorem dX6_makeSlab_163 : decode cX6_makeSlab 163 = .ok (.iload 4, 2) := by decide +kernel
theorem dX6_makeSlab_165 : decode cX6_makeSlab 165 = .ok (.iconst 1, 1) := by decide +kernel
theorem dX6_makeSlab_166 : decode cX6_makeSlab 166 = .ok (.iastore, 1) := by decide +kernel
theorem dX6_makeSlab_167 : decode cX6_makeSlab 167 = .ok (.aload_n 0, 1) := by decide +kernel
theorem dX6_makeSlab_168 : decode cX6_makeSlab 168 = .ok (.getfield 66, 3) := by decide +kernel
theorem dX6_makeSlab_171 : decode cX6_makeSlab 171 = .ok (.iload 4, 2) := by decide +kernel
theorem dX6_makeSlab_173 : decode cX6_makeSlab 173 = .ok (.aload_n 0, 1) := by decide +kernel
theorem dX6_makeSlab_174 : decode cX6_makeSlab 174 = .ok (.getfield 29, 3) := by decide +kernel
theorem dX6_makeSlab_177 : decode cX6_makeSlab 177 = .ok (.iload_n 1, 1) := by decide +kernel
theorem dX6_makeSlab_178 : decode cX6_makeSlab 178 = .ok (.iaload, 1) := by decide +kernel
theorem dX6_makeSlab_179 : decode cX6_makeSlab 179 = .ok (.iastore, 1) := by decide +kernel
theorem dX6_makeSlab_180 : decode cX6_makeSlab 180 = .ok (.aload_n 0, 1) := by decide +kernel
theorem dX6_makeSlab_181 : decode cX6_makeSlab 181 = .ok (.getfield 63, 3) := by decide +kernel
theorem dX6_makeSlab_184 : decode cX6_makeSlab 184 = .ok (.iload 4, 2) := by decide +kernel
theorem dX6_makeSlab_186 : decode cX6_makeSlab 186 = .ok (.iload_n 3, 1) := by decide +kernel
theorem dX6_makeSlab_187 : decode cX6_makeSlab 187 = .ok (.iconst 1, 1) := by decide +kernel
theorem dX6_makeSlab_188 : decode cX6_makeSlab 188 = .ok (.iadd, 1) := by decide +kernel
theorem dX6_makeSlab_189 : decode cX6_makeSlab 189 = .ok (.aload_n 0, 1) := by decide +kernel
theorem dX6_makeSlab_190 : decode cX6_makeSlab 190 = .ok (.getfield 35, 3) := by decide +kernel
theorem dX6_makeSlab_193 : decode cX6_makeSlab 193 = .ok (.iload_n 1, 1) := by decide +kernel
theorem dX6_makeSlab_194 : decode cX6_makeSlab 194 = .ok (.iaload, 1) := by decide +kernel
theorem dX6_makeSlab_195 : decode cX6_makeSlab 195 = .ok (.if_icmp .ge 14, 3) := by decide +kernel
theorem dX6_makeSlab_198 : decode cX6_makeSlab 198 = .ok (.aload_n 0, 1) := by decide +kernel
theorem dX6_makeSlab_199 : decode cX6_makeSlab 199 = .ok (.iload_n 2, 1) := by decide +kernel
theorem dX6_makeSlab_200 : decode cX6_makeSlab 200 = .ok (.iload_n 3, 1) := by decide +kernel
theorem dX6_makeSlab_201 : decode cX6_makeSlab 201 = .ok (.iconst 1, 1) := by decide +kernel
theorem dX6_makeSlab_202 : decode cX6_makeSlab 202 = .ok (.iadd, 1) := by decide +kernel
theorem dX6_makeSlab_203 : decode cX6_makeSlab 203 = .ok (.invokevirtual 116, 3) := by decide +kernel
theorem dX6_makeSlab_206 : decode cX6_makeSlab 206 = .ok (.goto 4, 3) := by decide +kernel
theorem dX6_makeSlab_209 : decode cX6_makeSlab 209 = .ok (.iconst (-1), 1) := by decide +kernel
theorem dX6_makeSlab_210 : decode cX6_makeSlab 210 = .ok (.iastore, 1) := by decide +kernel
theorem dX6_makeSlab_211 : decode cX6_makeSlab 211 = .ok (.iinc 3 1, 3) := by decide +kernel
theorem dX6_makeSlab_214 : decode cX6_makeSlab 214 = .ok (.goto (-73), 3) := by decide +kernel
theorem dX6_makeSlab_217 : decode cX6_makeSlab 217 = .ok (.aload_n 0, 1) := by decide +kernel
theorem dX6_makeSlab_218 : decode cX6_makeSlab 218 = .ok (.iload_n 1, 1) := by decide +kernel
theorem dX6_makeSlab_219 : decode cX6_makeSlab 219 = .ok (.iconst 2, 1) := by decide +kernel
theorem dX6_makeSlab_220 : decode cX6_makeSlab 220 = .ok (.iload_n 2, 1) := by decide +kernel
theorem dX6_makeSlab_221 : decode cX6_makeSlab 221 = .ok (.invokevirtual 106, 3) := by decide +kernel
theorem dX6_makeSlab_224 : decode cX6_makeSlab 224 = .ok (.iconst 1, 1) := by decide +kernel
theorem dX6_makeSlab_225 : decode cX6_makeSlab 225 = .ok (.ireturn, 1) := by decide +kernel
theorem dX6_giveSlab_0 : decode cX6_giveSlab 0 = .ok (.aload_n 0, 1) := by decide +kernel
theorem dX6_giveSlab_1 : decode cX6_giveSlab 1 = .ok (.getfield 47, 3) := by decide +kernel
theorem dX6_giveSlab_4 : decode cX6_giveSlab 4 = .ok (.iload_n 1, 1) := by decide +kernel
theorem dX6_giveSlab_5 : decode cX6_giveSlab 5 = .ok (.iaload, 1) := by decide +kernel
theorem dX6_giveSlab_6 : decode cX6_giveSlab 6 = .ok (.istore_n 2, 1) := by decide +kernel
theorem dX6_giveSlab_7 : decode cX6_giveSlab 7 = .ok (.aload_n 0, 1) := by decide +kernel
theorem dX6_giveSlab_8 : decode cX6_giveSlab 8 = .ok (.iload_n 2, 1) := by decide +kernel
theorem dX6_giveSlab_9 : decode cX6_giveSlab 9 = .ok (.aload_n 0, 1) := by decide +kernel
theorem dX6_giveSlab_10 : decode cX6_giveSlab 10 = .ok (.iload_n 1, 1) := by decide +kernel
theorem dX6_giveSlab_11 : decode cX6_giveSlab 11 = .ok (.invokevirtual 98, 3) := by decide +kernel
theorem dX6_giveSlab_14 : decode cX6_giveSlab 14 = .ok (.iload_n 1, 1) := by decide +kernel
theorem dX6_giveSlab_15 : decode cX6_giveSlab 15 = .ok (.invokevirtual 102, 3) := by decide +kernel
theorem dX6_giveSlab_18 : decode cX6_giveSlab 18 = .ok (.iconst 0, 1) := by decide +kernel
theorem dX6_giveSlab_19 : decode cX6_giveSlab 19 = .ok (.istore_n 3, 1) := by decide +kernel
theorem dX6_giveSlab_20 : decode cX6_giveSlab 20 = .ok (.iload_n 3, 1) := by decide +kernel
theorem dX6_giveSlab_21 : decode cX6_giveSlab 21 = .ok (.aload_n 0, 1) := by decide +kernel
theorem dX6_giveSlab_22 : decode cX6_giveSlab 22 = .ok (.getfield 35, 3) := by decide +kernel
theorem dX6_giveSlab_25 : decode cX6_giveSlab 25 = .ok (.iload_n 2, 1) := by decide +kernel
theorem dX6_giveSlab_26 : decode cX6_giveSlab 26 = .ok (.iaload, 1) := by decide +kernel
theorem dX6_giveSlab_27 : decode cX6_giveSlab 27 = .ok (.if_icmp .ge 21, 3) := by decide +kernel
theorem dX6_giveSlab_30 : decode cX6_giveSlab 30 = .ok (.aload_n 0, 1) := by decide +kernel
theorem dX6_giveSlab_31 : decode cX6_giveSlab 31 = .ok (.getfield 60, 3) := by decide +kernel
theorem dX6_giveSlab_34 : decode cX6_giveSlab 34 = .ok (.aload_n 0, 1) := by decide +kernel
theorem dX6_giveSlab_35 : decode cX6_giveSlab 35 = .ok (.iload_n 1, 1) := by decide +kernel
theorem dX6_giveSlab_36 : decode cX6_giveSlab 36 = .ok (.iload_n 3, 1) := by decide +kernel
theorem dX6_giveSlab_37 : decode cX6_giveSlab 37 = .ok (.invokevirtual 116, 3) := by decide +kernel
theorem dX6_giveSlab_40 : decode cX6_giveSlab 40 = .ok (.iconst 0, 1) := by decide +kernel
theorem dX6_giveSlab_41 : decode cX6_giveSlab 41 = .ok (.iastore, 1) := by decide +kernel
theorem dX6_giveSlab_42 : decode cX6_giveSlab 42 = .ok (.iinc 3 1, 3) := by decide +kernel
theorem dX6_giveSlab_45 : decode cX6_giveSlab 45 = .ok (.goto (-25), 3) := by decide +kernel
theorem dX6_giveSlab_48 : decode cX6_giveSlab 48 = .ok (.iload_n 1, 1) := by decide +kernel
theorem dX6_giveSlab_49 : decode cX6_giveSlab 49 = .ok (.istore_n 3, 1) := by decide +kernel
theorem dX6_giveSlab_50 : decode cX6_giveSlab 50 = .ok (.iload_n 3, 1) := by decide +kernel
theorem dX6_giveSlab_51 : decode cX6_giveSlab 51 = .ok (.iload_n 1, 1) := by decide +kernel
theorem dX6_giveSlab_52 : decode cX6_giveSlab 52 = .ok (.iconst 1, 1) := by decide +kernel
theorem dX6_giveSlab_53 : decode cX6_giveSlab 53 = .ok (.aload_n 0, 1) := by decide +kernel
theorem dX6_giveSlab_54 : decode cX6_giveSlab 54 = .ok (.getfield 26, 3) := by decide +kernel
theorem dX6_giveSlab_57 : decode cX6_giveSlab 57 = .ok (.iload_n 2, 1) := by decide +kernel
theorem dX6_giveSlab_58 : decode cX6_giveSlab 58 = .ok (.iaload, 1) := by decide +kernel
theorem dX6_giveSlab_59 : decode cX6_giveSlab 59 = .ok (.ishl, 1) := by decide +kernel
theorem dX6_giveSlab_60 : decode cX6_giveSlab 60 = .ok (.iadd, 1) := by decide +kernel
theorem dX6_giveSlab_61 : decode cX6_giveSlab 61 = .ok (.if_icmp .ge 16, 3) := by decide +kernel
theorem dX6_giveSlab_64 : decode cX6_giveSlab 64 = .ok (.aload_n 0, 1) := by decide +kernel
theorem dX6_giveSlab_65 : decode cX6_giveSlab 65 = .ok (.getfield 13, 3) := by decide +kernel
theorem dX6_giveSlab_68 : decode cX6_giveSlab 68 = .ok (.iload_n 3, 1) := by decide +kernel
theorem dX6_giveSlab_69 : decode cX6_giveSlab 69 = .ok (.iconst (-1), 1) := by decide +kernel
theorem dX6_giveSlab_70 : decode cX6_giveSlab 70 = .ok (.iastore, 1) := by decide +kernel
theorem dX6_giveSlab_71 : decode cX6_giveSlab 71 = .ok (.iinc 3 1, 3) := by decide +kernel
theorem dX6_giveSlab_74 : decode cX6_giveSlab 74 = .ok (.goto (-24), 3) := by decide +kernel
theorem dX6_giveSlab_77 : decode cX6_giveSlab 77 = .ok (.aload_n 0, 1) := by decide +kernel
theorem dX6_giveSlab_78 : decode cX6_giveSlab 78 = .ok (.iload_n 1, 1) := by decide +kernel
theorem dX6_giveSlab_79 : decode cX6_giveSlab 79 = .ok (.aload_n 0, 1) := by decide +kernel
theorem dX6_giveSlab_80 : decode cX6_giveSlab 80 = .ok (.getfield 26, 3) := by decide +kernel
theorem dX6_giveSlab_83 : decode cX6_giveSlab 83 = .ok (.iload_n 2, 1) := by decide +kernel
theorem dX6_giveSlab_84 : decode cX6_giveSlab 84 = .ok (.iaload, 1) := by decide +kernel
theorem dX6_giveSlab_85 : decode cX6_giveSlab 85 = .ok (.invokevirtual 120, 3) := by decide +kernel
theorem dX6_giveSlab_88 : decode cX6_giveSlab 88 = .ok (.iconst 1, 1) := by decide +kernel
theorem dX6_giveSlab_89 : decode cX6_giveSlab 89 = .ok (.aload_n 0, 1) := by decide +kernel
theorem dX6_giveSlab_90 : decode cX6_giveSlab 90 = .ok (.getfield 26, 3) := by decide +kernel
theorem dX6_giveSlab_93 : decode cX6_giveSlab 93 = .ok (.iload_n 2, 1) := by decide +kernel
theorem dX6_giveSlab_94 : decode cX6_giveSlab 94 = .ok (.iaload, 1) := by decide +kernel
theorem dX6_giveSlab_95 : decode cX6_giveSlab 95 = .ok (.ishl, 1) := by decide +kernel
theorem dX6_giveSlab_96 : decode cX6_giveSlab 96 = .ok (.ireturn, 1) := by decide +kernel
theorem dX6_reapAll_0 : decode cX6_reapAll 0 = .ok (.iconst 0, 1) := by decide +kernel
theorem dX6_reapAll_1 : decode cX6_reapAll 1 = .ok (.istore_n 1, 1) := by decide +kernel
theorem dX6_reapAll_2 : decode cX6_reapAll 2 = .ok (.iconst 0, 1) := by decide +kernel
theorem dX6_reapAll_3 : decode cX6_reapAll 3 = .ok (.istore_n 2, 1) := by decide +kernel
theorem dX6_reapAll_4 : decode cX6_reapAll 4 = .ok (.iload_n 2, 1) := by decide +kernel
theorem dX6_reapAll_5 : decode cX6_reapAll 5 = .ok (.aload_n 0, 1) := by decide +kernel
theorem dX6_reapAll_6 : decode cX6_reapAll 6 = .ok (.getfield 91, 3) := by decide +kernel
theorem dX6_reapAll_9 : decode cX6_reapAll 9 = .ok (.if_icmp .ge 46, 3) := by decide +kernel
theorem dX6_reapAll_12 : decode cX6_reapAll 12 = .ok (.aload_n 0, 1) := by decide +kernel
theorem dX6_reapAll_13 : decode cX6_reapAll 13 = .ok (.getfield 69, 3) := by decide +kernel
theorem dX6_reapAll_16 : decode cX6_reapAll 16 = .ok (.iconst 3, 1) := by decide +kernel
theorem dX6_reapAll_17 : decode cX6_reapAll 17 = .ok (.iload_n 2, 1) := by decide +kernel
theorem dX6_reapAll_18 : decode cX6_reapAll 18 = .ok (.imul, 1) := by decide +kernel
theorem dX6_reapAll_19 : decode cX6_reapAll 19 = .ok (.iconst 2, 1) := by decide +kernel
theorem dX6_reapAll_20 : decode cX6_reapAll 20 = .ok (.iadd, 1) := by decide +kernel
theorem dX6_reapAll_21 : decode cX6_reapAll 21 = .ok (.iaload, 1) := by decide +kernel
theorem dX6_reapAll_22 : decode cX6_reapAll 22 = .ok (.ifCond .le 27, 3) := by decide +kernel
theorem dX6_reapAll_25 : decode cX6_reapAll 25 = .ok (.iload_n 1, 1) := by decide +kernel
theorem dX6_reapAll_26 : decode cX6_reapAll 26 = .ok (.aload_n 0, 1) := by decide +kernel
theorem dX6_reapAll_27 : decode cX6_reapAll 27 = .ok (.aload_n 0, 1) := by decide +kernel
theorem dX6_reapAll_28 : decode cX6_reapAll 28 = .ok (.getfield 72, 3) := by decide +kernel
theorem dX6_reapAll_31 : decode cX6_reapAll 31 = .ok (.sipush 256, 3) := by decide +kernel
theorem dX6_reapAll_34 : decode cX6_reapAll 34 = .ok (.iconst 3, 1) := by decide +kernel
theorem dX6_reapAll_35 : decode cX6_reapAll 35 = .ok (.iload_n 2, 1) := by decide +kernel
theorem dX6_reapAll_36 : decode cX6_reapAll 36 = .ok (.imul, 1) := by decide +kernel
theorem dX6_reapAll_37 : decode cX6_reapAll 37 = .ok (.iconst 2, 1) := by decide +kernel
theorem dX6_reapAll_38 : decode cX6_reapAll 38 = .ok (.iadd, 1) := by decide +kernel
theorem dX6_reapAll_39 : decode cX6_reapAll 39 = .ok (.imul, 1) := by decide +kernel
theorem dX6_reapAll_40 : decode cX6_reapAll 40 = .ok (.iaload, 1) := by decide +kernel
theorem dX6_reapAll_41 : decode cX6_reapAll 41 = .ok (.invokevirtual 124, 3) := by decide +kernel
theorem dX6_reapAll_44 : decode cX6_reapAll 44 = .ok (.iadd, 1) := by decide +kernel
theorem dX6_reapAll_45 : decode cX6_reapAll 45 = .ok (.istore_n 1, 1) := by decide +kernel
theorem dX6_reapAll_46 : decode cX6_reapAll 46 = .ok (.goto (-34), 3) := by decide +kernel
theorem dX6_reapAll_49 : decode cX6_reapAll 49 = .ok (.iinc 2 1, 3) := by decide +kernel
theorem dX6_reapAll_52 : decode cX6_reapAll 52 = .ok (.goto (-48), 3) := by decide +kernel
theorem dX6_reapAll_55 : decode cX6_reapAll 55 = .ok (.iload_n 1, 1) := by decide +kernel
theorem dX6_reapAll_56 : decode cX6_reapAll 56 = .ok (.ireturn, 1) := by decide +kernel
theorem dX6_fromSlabs_0 : decode cX6_fromSlabs 0 = .ok (.aload_n 0, 1) := by decide +kernel
theorem dX6_fromSlabs_1 : decode cX6_fromSlabs 1 = .ok (.getfield 69, 3) := by decide +kernel
theorem dX6_fromSlabs_4 : decode cX6_fromSlabs 4 = .ok (.iconst 3, 1) := by decide +kernel
theorem dX6_fromSlabs_5 : decode cX6_fromSlabs 5 = .ok (.iload_n 1, 1) := by decide +kernel
theorem dX6_fromSlabs_6 : decode cX6_fromSlabs 6 = .ok (.imul, 1) := by decide +kernel
theorem dX6_fromSlabs_7 : decode cX6_fromSlabs 7 = .ok (.iconst 1, 1) := by decide +kernel
theorem dX6_fromSlabs_8 : decode cX6_fromSlabs 8 = .ok (.iadd, 1) := by decide +kernel
theorem dX6_fromSlabs_9 : decode cX6_fromSlabs 9 = .ok (.iaload, 1) := by decide +kernel
theorem dX6_fromSlabs_10 : decode cX6_fromSlabs 10 = .ok (.ifCond .ne 26, 3) := by decide +kernel
theorem dX6_fromSlabs_13 : decode cX6_fromSlabs 13 = .ok (.aload_n 0, 1) := by decide +kernel
theorem dX6_fromSlabs_14 : decode cX6_fromSlabs 14 = .ok (.getfield 69, 3) := by decide +kernel
theorem dX6_fromSlabs_17 : decode cX6_fromSlabs 17 = .ok (.iconst 3, 1) := by decide +kernel
theorem dX6_fromSlabs_18 : decode cX6_fromSlabs 18 = .ok (.iload_n 1, 1) := by decide +kernel
theorem dX6_fromSlabs_19 : decode cX6_fromSlabs 19 = .ok (.imul, 1) := by decide +kernel
theorem dX6_fromSlabs_20 : decode cX6_fromSlabs 20 = .ok (.iconst 2, 1) := by decide +kernel
theorem dX6_fromSlabs_21 : decode cX6_fromSlabs 21 = .ok (.iadd, 1) := by decide +kernel
theorem dX6_fromSlabs_22 : decode cX6_fromSlabs 22 = .ok (.iaload, 1) := by decide +kernel
theorem dX6_fromSlabs_23 : decode cX6_fromSlabs 23 = .ok (.ifCond .ne 13, 3) := by decide +kernel
theorem dX6_fromSlabs_26 : decode cX6_fromSlabs 26 = .ok (.aload_n 0, 1) := by decide +kernel
theorem dX6_fromSlabs_27 : decode cX6_fromSlabs 27 = .ok (.iload_n 1, 1) := by decide +kernel
theorem dX6_fromSlabs_28 : decode cX6_fromSlabs 28 = .ok (.invokevirtual 127, 3) := by decide +kernel
theorem dX6_fromSlabs_31 : decode cX6_fromSlabs 31 = .ok (.ifCond .ne 5, 3) := by decide +kernel
theorem dX6_fromSlabs_34 : decode cX6_fromSlabs 34 = .ok (.iconst (-1), 1) := by decide +kernel
theorem dX6_fromSlabs_35 : decode cX6_fromSlabs 35 = .ok (.ireturn, 1) := by decide +kernel
theorem dX6_fromSlabs_36 : decode cX6_fromSlabs 36 = .ok (.aload_n 0, 1) := by decide +kernel
theorem dX6_fromSlabs_37 : decode cX6_fromSlabs 37 = .ok (.getfield 69, 3) := by decide +kernel
theorem dX6_fromSlabs_40 : decode cX6_fromSlabs 40 = .ok (.iconst 3, 1) := by decide +kernel
theorem dX6_fromSlabs_41 : decode cX6_fromSlabs 41 = .ok (.iload_n 1, 1) := by decide +kernel
theorem dX6_fromSlabs_42 : decode cX6_fromSlabs 42 = .ok (.imul, 1) := by decide +kernel
theorem dX6_fromSlabs_43 : decode cX6_fromSlabs 43 = .ok (.iconst 1, 1) := by decide +kernel
theorem dX6_fromSlabs_44 : decode cX6_fromSlabs 44 = .ok (.iadd, 1) := by decide +kernel
theorem dX6_fromSlabs_45 : decode cX6_fromSlabs 45 = .ok (.iaload, 1) := by decide +kernel
theorem dX6_fromSlabs_46 : decode cX6_fromSlabs 46 = .ok (.ifCond .le 11, 3) := by decide +kernel
theorem dX6_fromSlabs_49 : decode cX6_fromSlabs 49 = .ok (.iconst 3, 1) := by decide +kernel
theorem dX6_fromSlabs_50 : decode cX6_fromSlabs 50 = .ok (.iload_n 1, 1) := by decide +kernel
theorem dX6_fromSlabs_51 : decode cX6_fromSlabs 51 = .ok (.imul, 1) := by decide +kernel
theorem dX6_fromSlabs_52 : decode cX6_fromSlabs 52 = .ok (.iconst 1, 1) := by decide +kernel
theorem dX6_fromSlabs_53 : decode cX6_fromSlabs 53 = .ok (.iadd, 1) := by decide +kernel
theorem dX6_fromSlabs_54 : decode cX6_fromSlabs 54 = .ok (.goto 8, 3) := by decide +kernel
theorem dX6_fromSlabs_57 : decode cX6_fromSlabs 57 = .ok (.iconst 3, 1) := by decide +kernel
theorem dX6_fromSlabs_58 : decode cX6_fromSlabs 58 = .ok (.iload_n 1, 1) := by decide +kernel
theorem dX6_fromSlabs_59 : decode cX6_fromSlabs 59 = .ok (.imul, 1) := by decide +kernel
theorem dX6_fromSlabs_60 : decode cX6_fromSlabs 60 = .ok (.iconst 2, 1) := by decide +kernel
theorem dX6_fromSlabs_61 : decode cX6_fromSlabs 61 = .ok (.iadd, 1) := by decide +kernel
theorem dX6_fromSlabs_62 : decode cX6_fromSlabs 62 = .ok (.istore_n 2, 1) := by decide +kernel
theorem dX6_fromSlabs_63 : decode cX6_fromSlabs 63 = .ok (.aload_n 0, 1) := by decide +kernel
theorem dX6_fromSlabs_64 : decode cX6_fromSlabs 64 = .ok (.getfield 72, 3) := by decide +kernel
theorem dX6_fromSlabs_67 : decode cX6_fromSlabs 67 = .ok (.sipush 256, 3) := by decide +kernel
theorem dX6_fromSlabs_70 : decode cX6_fromSlabs 70 = .ok (.iload_n 2, 1) := by decide +kernel
theorem dX6_fromSlabs_71 : decode cX6_fromSlabs 71 = .ok (.imul, 1) := by decide +kernel
theorem dX6_fromSlabs_72 : decode cX6_fromSlabs 72 = .ok (.iaload, 1) := by decide +kernel
theorem dX6_fromSlabs_73 : decode cX6_fromSlabs 73 = .ok (.istore_n 3, 1) := by decide +kernel
theorem dX6_fromSlabs_74 : decode cX6_fromSlabs 74 = .ok (.aload_n 0, 1) := by decide +kernel
theorem dX6_fromSlabs_75 : decode cX6_fromSlabs 75 = .ok (.getfield 56, 3) := by decide +kernel
theorem dX6_fromSlabs_78 : decode cX6_fromSlabs 78 = .ok (.iload_n 3, 1) := by decide +kernel
theorem dX6_fromSlabs_79 : decode cX6_fromSlabs 79 = .ok (.iaload, 1) := by decide +kernel
theorem dX6_fromSlabs_80 : decode cX6_fromSlabs 80 = .ok (.istore 4, 2) := by decide +kernel
theorem dX6_fromSlabs_82 : decode cX6_fromSlabs 82 = .ok (.aload_n 0, 1) := by decide +kernel
theorem dX6_fromSlabs_83 : decode cX6_fromSlabs 83 = .ok (.getfield 56, 3) := by decide +kernel
theorem dX6_fromSlabs_86 : decode cX6_fromSlabs 86 = .ok (.iload_n 3, 1) := by decide +kernel
theorem dX6_fromSlabs_87 : decode cX6_fromSlabs 87 = .ok (.aload_n 0, 1) := by decide +kernel
theorem dX6_fromSlabs_88 : decode cX6_fromSlabs 88 = .ok (.getfield 63, 3) := by decide +kernel
theorem dX6_fromSlabs_91 : decode cX6_fromSlabs 91 = .ok (.iload 4, 2) := by decide +kernel
theorem dX6_fromSlabs_93 : decode cX6_fromSlabs 93 = .ok (.iaload, 1) := by decide +kernel
theorem dX6_fromSlabs_94 : decode cX6_fromSlabs 94 = .ok (.iastore, 1) := by decide +kernel
theorem dX6_fromSlabs_95 : decode cX6_fromSlabs 95 = .ok (.aload_n 0, 1) := by decide +kernel
theorem dX6_fromSlabs_96 : decode cX6_fromSlabs 96 = .ok (.iload_n 3, 1) := by decide +kernel
theorem dX6_fromSlabs_97 : decode cX6_fromSlabs 97 = .ok (.iconst 1, 1) := by decide +kernel
theorem dX6_fromSlabs_98 : decode cX6_fromSlabs 98 = .ok (.invokevirtual 131, 3) := by decide +kernel
theorem dX6_fromSlabs_101 : decode cX6_fromSlabs 101 = .ok (.iload 4, 2) := by decide +kernel
theorem dX6_fromSlabs_103 : decode cX6_fromSlabs 103 = .ok (.ireturn, 1) := by decide +kernel
theorem dX6_toSlab_0 : decode cX6_toSlab 0 = .ok (.aload_n 0, 1) := by decide +kernel
theorem dX6_toSlab_1 : decode cX6_toSlab 1 = .ok (.getfield 13, 3) := by decide +kernel
theorem dX6_toSlab_4 : decode cX6_toSlab 4 = .ok (.iload_n 1, 1) := by decide +kernel
theorem dX6_toSlab_5 : decode cX6_toSlab 5 = .ok (.sipush 128, 3) := by decide +kernel
theorem dX6_toSlab_8 : decode cX6_toSlab 8 = .ok (.idiv, 1) := by decide +kernel
theorem dX6_toSlab_9 : decode cX6_toSlab 9 = .ok (.iaload, 1) := by decide +kernel
theorem dX6_toSlab_10 : decode cX6_toSlab 10 = .ok (.istore_n 2, 1) := by decide +kernel
theorem dX6_toSlab_11 : decode cX6_toSlab 11 = .ok (.aload_n 0, 1) := by decide +kernel
theorem dX6_toSlab_12 : decode cX6_toSlab 12 = .ok (.getfield 60, 3) := by decide +kernel
theorem dX6_toSlab_15 : decode cX6_toSlab 15 = .ok (.iload_n 1, 1) := by decide +kernel
theorem dX6_toSlab_16 : decode cX6_toSlab 16 = .ok (.iconst 1, 1) := by decide +kernel
theorem dX6_toSlab_17 : decode cX6_toSlab 17 = .ok (.iastore, 1) := by decide +kernel
theorem dX6_toSlab_18 : decode cX6_toSlab 18 = .ok (.aload_n 0, 1) := by decide +kernel
theorem dX6_toSlab_19 : decode cX6_toSlab 19 = .ok (.getfield 63, 3) := by decide +kernel
theorem dX6_toSlab_22 : decode cX6_toSlab 22 = .ok (.iload_n 1, 1) := by decide +kernel
theorem dX6_toSlab_23 : decode cX6_toSlab 23 = .ok (.aload_n 0, 1) := by decide +kernel
theorem dX6_toSlab_24 : decode cX6_toSlab 24 = .ok (.getfield 56, 3) := by decide +kernel
theorem dX6_toSlab_27 : decode cX6_toSlab 27 = .ok (.iload_n 2, 1) := by decide +kernel
theorem dX6_toSlab_28 : decode cX6_toSlab 28 = .ok (.iaload, 1) := by decide +kernel
theorem dX6_toSlab_29 : decode cX6_toSlab 29 = .ok (.iastore, 1) := by decide +kernel
theorem dX6_toSlab_30 : decode cX6_toSlab 30 = .ok (.aload_n 0, 1) := by decide +kernel
theorem dX6_toSlab_31 : decode cX6_toSlab 31 = .ok (.getfield 56, 3) := by decide +kernel
theorem dX6_toSlab_34 : decode cX6_toSlab 34 = .ok (.iload_n 2, 1) := by decide +kernel
theorem dX6_toSlab_35 : decode cX6_toSlab 35 = .ok (.iload_n 1, 1) := by decide +kernel
theorem dX6_toSlab_36 : decode cX6_toSlab 36 = .ok (.iastore, 1) := by decide +kernel
theorem dX6_toSlab_37 : decode cX6_toSlab 37 = .ok (.aload_n 0, 1) := by decide +kernel
theorem dX6_toSlab_38 : decode cX6_toSlab 38 = .ok (.iload_n 2, 1) := by decide +kernel
theorem dX6_toSlab_39 : decode cX6_toSlab 39 = .ok (.iconst (-1), 1) := by decide +kernel
theorem dX6_toSlab_40 : decode cX6_toSlab 40 = .ok (.invokevirtual 131, 3) := by decide +kernel
theorem dX6_toSlab_43 : decode cX6_toSlab 43 = .ok (.return_, 1) := by decide +kernel
theorem dX6_cache_0 : decode cX6_cache 0 = .ok (.iload_n 1, 1) := by decide +kernel
theorem dX6_cache_1 : decode cX6_cache 1 = .ok (.bipush 8, 2) := by decide +kernel
theorem dX6_cache_3 : decode cX6_cache 3 = .ok (.sipush 4096, 3) := by decide +kernel
theorem dX6_cache_6 : decode cX6_cache 6 = .ok (.invokestatic 94, 3) := by decide +kernel
theorem dX6_cache_9 : decode cX6_cache 9 = .ok (.ifCond .eq 47, 3) := by decide +kernel
theorem dX6_cache_12 : decode cX6_cache 12 = .ok (.iload_n 1, 1) := by decide +kernel
theorem dX6_cache_13 : decode cX6_cache 13 = .ok (.bipush 8, 2) := by decide +kernel
theorem dX6_cache_15 : decode cX6_cache 15 = .ok (.irem, 1) := by decide +kernel
theorem dX6_cache_16 : decode cX6_cache 16 = .ok (.ifCond .ne 40, 3) := by decide +kernel
theorem dX6_cache_19 : decode cX6_cache 19 = .ok (.iload_n 2, 1) := by decide +kernel
theorem dX6_cache_20 : decode cX6_cache 20 = .ok (.bipush 8, 2) := by decide +kernel
theorem dX6_cache_22 : decode cX6_cache 22 = .ok (.if_icmp .eq 21, 3) := by decide +kernel
theorem dX6_cache_25 : decode cX6_cache 25 = .ok (.iload_n 2, 1) := by decide +kernel
theorem dX6_cache_26 : decode cX6_cache 26 = .ok (.bipush 16, 2) := by decide +kernel
theorem dX6_cache_28 : decode cX6_cache 28 = .ok (.if_icmp .eq 15, 3) := by decide +kernel
theorem dX6_cache_31 : decode cX6_cache 31 = .ok (.iload_n 2, 1) := by decide +kernel
theorem dX6_cache_32 : decode cX6_cache 32 = .ok (.bipush 32, 2) := by decide +kernel
theorem dX6_cache_34 : decode cX6_cache 34 = .ok (.if_icmp .eq 9, 3) := by decide +kernel
theorem dX6_cache_37 : decode cX6_cache 37 = .ok (.iload_n 2, 1) := by decide +kernel
theorem dX6_cache_38 : decode cX6_cache 38 = .ok (.bipush 64, 2) := by decide +kernel
theorem dX6_cache_40 : decode cX6_cache 40 = .ok (.if_icmp .ne 16, 3) := by decide +kernel
theorem dX6_cache_43 : decode cX6_cache 43 = .ok (.iload_n 3, 1) := by decide +kernel
theorem dX6_cache_44 : decode cX6_cache 44 = .ok (.iconst 0, 1) := by decide +kernel
theorem dX6_cache_45 : decode cX6_cache 45 = .ok (.iconst 3, 1) := by decide +kernel
theorem dX6_cache_46 : decode cX6_cache 46 = .ok (.invokestatic 94, 3) := by decide +kernel
theorem dX6_cache_49 : decode cX6_cache 49 = .ok (.ifCond .eq 7, 3) := by decide +kernel
theorem dX6_cache_52 : decode cX6_cache 52 = .ok (.iconst 1, 1) := by decide +kernel
theorem dX6_cache_53 : decode cX6_cache 53 = .ok (.goto 4, 3) := by decide +kernel
theorem dX6_cache_56 : decode cX6_cache 56 = .ok (.iconst 0, 1) := by decide +kernel
theorem dX6_cache_57 : decode cX6_cache 57 = .ok (.istore 5, 2) := by decide +kernel
theorem dX6_cache_59 : decode cX6_cache 59 = .ok (.iload 5, 2) := by decide +kernel
theorem dX6_cache_61 : decode cX6_cache 61 = .ok (.ifCond .eq 15, 3) := by decide +kernel
theorem dX6_cache_64 : decode cX6_cache 64 = .ok (.iload_n 1, 1) := by decide +kernel
theorem dX6_cache_65 : decode cX6_cache 65 = .ok (.iload_n 2, 1) := by decide +kernel
theorem dX6_cache_66 : decode cX6_cache 66 = .ok (.iadd, 1) := by decide +kernel
theorem dX6_cache_67 : decode cX6_cache 67 = .ok (.iconst 1, 1) := by decide +kernel
theorem dX6_cache_68 : decode cX6_cache 68 = .ok (.isub, 1) := by decide +kernel
theorem dX6_cache_69 : decode cX6_cache 69 = .ok (.iload_n 2, 1) := by decide +kernel
theorem dX6_cache_70 : decode cX6_cache 70 = .ok (.idiv, 1) := by decide +kernel
theorem dX6_cache_71 : decode cX6_cache 71 = .ok (.iload_n 2, 1) := by decide +kernel
theorem dX6_cache_72 : decode cX6_cache 72 = .ok (.imul, 1) := by decide +kernel
theorem dX6_cache_73 : decode cX6_cache 73 = .ok (.goto 4, 3) := by decide +kernel
theorem dX6_cache_76 : decode cX6_cache 76 = .ok (.iconst 1, 1) := by decide +kernel
theorem dX6_cache_77 : decode cX6_cache 77 = .ok (.istore 6, 2) := by decide +kernel
theorem dX6_cache_79 : decode cX6_cache 79 = .ok (.iload 5, 2) := by decide +kernel
theorem dX6_cache_81 : decode cX6_cache 81 = .ok (.ifCond .eq 11, 3) := by decide +kernel
theorem dX6_cache_84 : decode cX6_cache 84 = .ok (.sipush 1024, 3) := by decide +kernel
theorem dX6_cache_87 : decode cX6_cache 87 = .ok (.iload_n 3, 1) := by decide +kernel
theorem dX6_cache_88 : decode cX6_cache 88 = .ok (.ishl, 1) := by decide +kernel
theorem dX6_cache_89 : decode cX6_cache 89 = .ok (.goto 4, 3) := by decide +kernel
theorem dX6_cache_92 : decode cX6_cache 92 = .ok (.iconst 0, 1) := by decide +kernel
theorem dX6_cache_93 : decode cX6_cache 93 = .ok (.istore 7, 2) := by decide +kernel
theorem dX6_cache_95 : decode cX6_cache 95 = .ok (.aload_n 0, 1) := by decide +kernel
theorem dX6_cache_96 : decode cX6_cache 96 = .ok (.iload 5, 2) := by decide +kernel
theorem dX6_cache_98 : decode cX6_cache 98 = .ok (.ifCond .eq 10, 3) := by decide +kernel
theorem dX6_cache_101 : decode cX6_cache 101 = .ok (.iload 7, 2) := by decide +kernel
theorem dX6_cache_103 : decode cX6_cache 103 = .ok (.iload 6, 2) := by decide +kernel
theorem dX6_cache_105 : decode cX6_cache 105 = .ok (.if_icmp .ge 7, 3) := by decide +kernel
theorem dX6_cache_108 : decode cX6_cache 108 = .ok (.iconst 1, 1) := by decide +kernel
theorem dX6_cache_109 : decode cX6_cache 109 = .ok (.goto 4, 3) := by decide +kernel
theorem dX6_cache_112 : decode cX6_cache 112 = .ok (.iconst 0, 1) := by decide +kernel
theorem dX6_cache_113 : decode cX6_cache 113 = .ok (.invokevirtual 134, 3) := by decide +kernel
theorem dX6_cache_116 : decode cX6_cache 116 = .ok (.ifCond .eq 5, 3) := by decide +kernel
theorem dX6_cache_119 : decode cX6_cache 119 = .ok (.iconst 0, 1) := by decide +kernel
theorem dX6_cache_120 : decode cX6_cache 120 = .ok (.ireturn, 1) := by decide +kernel
theorem dX6_cache_121 : decode cX6_cache 121 = .ok (.aload_n 0, 1) := by decide +kernel
theorem dX6_cache_122 : decode cX6_cache 122 = .ok (.getfield 91, 3) := by decide +kernel
theorem dX6_cache_125 : decode cX6_cache 125 = .ok (.bipush 8, 2) := by decide +kernel
theorem dX6_cache_127 : decode cX6_cache 127 = .ok (.if_icmp .ne 5, 3) := by decide +kernel
theorem dX6_cache_130 : decode cX6_cache 130 = .ok (.iconst (-1), 1) := by decide +kernel
theorem dX6_cache_131 : decode cX6_cache 131 = .ok (.ireturn, 1) := by decide +kernel
theorem dX6_cache_132 : decode cX6_cache 132 = .ok (.aload_n 0, 1) := by decide +kernel
theorem dX6_cache_133 : decode cX6_cache 133 = .ok (.getfield 20, 3) := by decide +kernel
theorem dX6_cache_136 : decode cX6_cache 136 = .ok (.aload_n 0, 1) := by decide +kernel
theorem dX6_cache_137 : decode cX6_cache 137 = .ok (.getfield 91, 3) := by decide +kernel
theorem dX6_cache_140 : decode cX6_cache 140 = .ok (.iload_n 1, 1) := by decide +kernel
theorem dX6_cache_141 : decode cX6_cache 141 = .ok (.iastore, 1) := by decide +kernel
theorem dX6_cache_142 : decode cX6_cache 142 = .ok (.aload_n 0, 1) := by decide +kernel
theorem dX6_cache_143 : decode cX6_cache 143 = .ok (.getfield 23, 3) := by decide +kernel
theorem dX6_cache_146 : decode cX6_cache 146 = .ok (.aload_n 0, 1) := by decide +kernel
theorem dX6_cache_147 : decode cX6_cache 147 = .ok (.getfield 91, 3) := by decide +kernel
theorem dX6_cache_150 : decode cX6_cache 150 = .ok (.iload_n 2, 1) := by decide +kernel
theorem dX6_cache_151 : decode cX6_cache 151 = .ok (.iastore, 1) := by decide +kernel
theorem dX6_cache_152 : decode cX6_cache 152 = .ok (.aload_n 0, 1) := by decide +kernel
theorem dX6_cache_153 : decode cX6_cache 153 = .ok (.getfield 26, 3) := by decide +kernel
theorem dX6_cache_156 : decode cX6_cache 156 = .ok (.aload_n 0, 1) := by decide +kernel
theorem dX6_cache_157 : decode cX6_cache 157 = .ok (.getfield 91, 3) := by decide +kernel
theorem dX6_cache_160 : decode cX6_cache 160 = .ok (.iload_n 3, 1) := by decide +kernel
theorem dX6_cache_161 : decode cX6_cache 161 = .ok (.iastore, 1) := by decide +kernel
theorem dX6_cache_162 : decode cX6_cache 162 = .ok (.aload_n 0, 1) := by decide +kernel
theorem dX6_cache_163 : decode cX6_cache 163 = .ok (.getfield 29, 3) := by decide +kernel
theorem dX6_cache_166 : decode cX6_cache 166 = .ok (.aload_n 0, 1) := by decide +kernel
theorem dX6_cache_167 : decode cX6_cache 167 = .ok (.getfield 91, 3) := by decide +kernel
theorem dX6_cache_170 : decode cX6_cache 170 = .ok (.iload 4, 2) := by decide +kernel
theorem dX6_cache_172 : decode cX6_cache 172 = .ok (.iastore, 1) := by decide +kernel
theorem dX6_cache_173 : decode cX6_cache 173 = .ok (.aload_n 0, 1) := by decide +kernel
theorem dX6_cache_174 : decode cX6_cache 174 = .ok (.getfield 32, 3) := by decide +kernel
theorem dX6_cache_177 : decode cX6_cache 177 = .ok (.aload_n 0, 1) := by decide +kernel
theorem dX6_cache_178 : decode cX6_cache 178 = .ok (.getfield 91, 3) := by decide +kernel
theorem dX6_cache_181 : decode cX6_cache 181 = .ok (.iload 6, 2) := by decide +kernel
theorem dX6_cache_183 : decode cX6_cache 183 = .ok (.iastore, 1) := by decide +kernel
theorem dX6_cache_184 : decode cX6_cache 184 = .ok (.aload_n 0, 1) := by decide +kernel
theorem dX6_cache_185 : decode cX6_cache 185 = .ok (.getfield 35, 3) := by decide +kernel
theorem dX6_cache_188 : decode cX6_cache 188 = .ok (.aload_n 0, 1) := by decide +kernel
theorem dX6_cache_189 : decode cX6_cache 189 = .ok (.getfield 91, 3) := by decide +kernel
theorem dX6_cache_192 : decode cX6_cache 192 = .ok (.iload 7, 2) := by decide +kernel
theorem dX6_cache_194 : decode cX6_cache 194 = .ok (.iload 6, 2) := by decide +kernel
theorem dX6_cache_196 : decode cX6_cache 196 = .ok (.idiv, 1) := by decide +kernel
theorem dX6_cache_197 : decode cX6_cache 197 = .ok (.iastore, 1) := by decide +kernel
theorem dX6_cache_198 : decode cX6_cache 198 = .ok (.aload_n 0, 1) := by decide +kernel
theorem dX6_cache_199 : decode cX6_cache 199 = .ok (.getfield 38, 3) := by decide +kernel
theorem dX6_cache_202 : decode cX6_cache 202 = .ok (.aload_n 0, 1) := by decide +kernel
theorem dX6_cache_203 : decode cX6_cache 203 = .ok (.getfield 91, 3) := by decide +kernel
theorem dX6_cache_206 : decode cX6_cache 206 = .ok (.iload 7, 2) := by decide +kernel
theorem dX6_cache_208 : decode cX6_cache 208 = .ok (.iload 6, 2) := by decide +kernel
theorem dX6_cache_210 : decode cX6_cache 210 = .ok (.irem, 1) := by decide +kernel
theorem dX6_cache_211 : decode cX6_cache 211 = .ok (.iload_n 2, 1) := by decide +kernel
theorem dX6_cache_212 : decode cX6_cache 212 = .ok (.idiv, 1) := by decide +kernel
theorem dX6_cache_213 : decode cX6_cache 213 = .ok (.iconst 1, 1) := by decide +kernel
theorem dX6_cache_214 : decode cX6_cache 214 = .ok (.iadd, 1) := by decide +kernel
theorem dX6_cache_215 : decode cX6_cache 215 = .ok (.iastore, 1) := by decide +kernel
theorem dX6_cache_216 : decode cX6_cache 216 = .ok (.aload_n 0, 1) := by decide +kernel
theorem dX6_cache_217 : decode cX6_cache 217 = .ok (.dup, 1) := by decide +kernel
theorem dX6_cache_218 : decode cX6_cache 218 = .ok (.getfield 91, 3) := by decide +kernel
theorem dX6_cache_221 : decode cX6_cache 221 = .ok (.iconst 1, 1) := by decide +kernel
theorem dX6_cache_222 : decode cX6_cache 222 = .ok (.iadd, 1) := by decide +kernel
theorem dX6_cache_223 : decode cX6_cache 223 = .ok (.putfield 91, 3) := by decide +kernel
theorem dX6_cache_226 : decode cX6_cache 226 = .ok (.aload_n 0, 1) := by decide +kernel
theorem dX6_cache_227 : decode cX6_cache 227 = .ok (.getfield 91, 3) := by decide +kernel
theorem dX6_cache_230 : decode cX6_cache 230 = .ok (.iconst 1, 1) := by decide +kernel
theorem dX6_cache_231 : decode cX6_cache 231 = .ok (.isub, 1) := by decide +kernel
theorem dX6_cache_232 : decode cX6_cache 232 = .ok (.ireturn, 1) := by decide +kernel
theorem dX6_liveOf_0 : decode cX6_liveOf 0 = .ok (.iconst 0, 1) := by decide +kernel
theorem dX6_liveOf_1 : decode cX6_liveOf 1 = .ok (.istore_n 2, 1) := by decide +kernel
theorem dX6_liveOf_2 : decode cX6_liveOf 2 = .ok (.iconst 0, 1) := by decide +kernel
theorem dX6_liveOf_3 : decode cX6_liveOf 3 = .ok (.istore_n 3, 1) := by decide +kernel
theorem dX6_liveOf_4 : decode cX6_liveOf 4 = .ok (.iload_n 3, 1) := by decide +kernel
theorem dX6_liveOf_5 : decode cX6_liveOf 5 = .ok (.ldc 59, 2) := by decide +kernel
theorem dX6_liveOf_7 : decode cX6_liveOf 7 = .ok (.if_icmp .ge 46, 3) := by decide +kernel
theorem dX6_liveOf_10 : decode cX6_liveOf 10 = .ok (.aload_n 0, 1) := by decide +kernel
theorem dX6_liveOf_11 : decode cX6_liveOf 11 = .ok (.getfield 60, 3) := by decide +kernel
theorem dX6_liveOf_14 : decode cX6_liveOf 14 = .ok (.iload_n 3, 1) := by decide +kernel
theorem dX6_liveOf_15 : decode cX6_liveOf 15 = .ok (.iaload, 1) := by decide +kernel
theorem dX6_liveOf_16 : decode cX6_liveOf 16 = .ok (.iconst 2, 1) := by decide +kernel
theorem dX6_liveOf_17 : decode cX6_liveOf 17 = .ok (.if_icmp .ne 28, 3) := by decide +kernel
theorem dX6_liveOf_20 : decode cX6_liveOf 20 = .ok (.aload_n 0, 1) := by decide +kernel
theorem dX6_liveOf_21 : decode cX6_liveOf 21 = .ok (.getfield 47, 3) := by decide +kernel
theorem dX6_liveOf_24 : decode cX6_liveOf 24 = .ok (.aload_n 0, 1) := by decide +kernel
theorem dX6_liveOf_25 : decode cX6_liveOf 25 = .ok (.getfield 13, 3) := by decide +kernel
theorem dX6_liveOf_28 : decode cX6_liveOf 28 = .ok (.iload_n 3, 1) := by decide +kernel
theorem dX6_liveOf_29 : decode cX6_liveOf 29 = .ok (.sipush 128, 3) := by decide +kernel
theorem dX6_liveOf_32 : decode cX6_liveOf 32 = .ok (.idiv, 1) := by decide +kernel
theorem dX6_liveOf_33 : decode cX6_liveOf 33 = .ok (.iaload, 1) := by decide +kernel
theorem dX6_liveOf_34 : decode cX6_liveOf 34 = .ok (.iaload, 1) := by decide +kernel
theorem dX6_liveOf_35 : decode cX6_liveOf 35 = .ok (.iload_n 1, 1) := by decide +kernel
theorem dX6_liveOf_36 : decode cX6_liveOf 36 = .ok (.if_icmp .ne 9, 3) := by decide +kernel
theorem dX6_liveOf_39 : decode cX6_liveOf 39 = .ok (.iload_n 2, 1) := by decide +kernel
theorem dX6_liveOf_40 : decode cX6_liveOf 40 = .ok (.iconst 1, 1) := by decide +kernel
theorem dX6_liveOf_41 : decode cX6_liveOf 41 = .ok (.iadd, 1) := by decide +kernel
theorem dX6_liveOf_42 : decode cX6_liveOf 42 = .ok (.goto 4, 3) := by decide +kernel
theorem dX6_liveOf_45 : decode cX6_liveOf 45 = .ok (.iload_n 2, 1) := by decide +kernel
theorem dX6_liveOf_46 : decode cX6_liveOf 46 = .ok (.istore_n 2, 1) := by decide +kernel
theorem dX6_liveOf_47 : decode cX6_liveOf 47 = .ok (.iinc 3 1, 3) := by decide +kernel
theorem dX6_liveOf_50 : decode cX6_liveOf 50 = .ok (.goto (-46), 3) := by decide +kernel
theorem dX6_liveOf_53 : decode cX6_liveOf 53 = .ok (.iload_n 2, 1) := by decide +kernel
theorem dX6_liveOf_54 : decode cX6_liveOf 54 = .ok (.ireturn, 1) := by decide +kernel
theorem dX6_emptyHeld_0 : decode cX6_emptyHeld 0 = .ok (.aload_n 0, 1) := by decide +kernel
theorem dX6_emptyHeld_1 : decode cX6_emptyHeld 1 = .ok (.getfield 75, 3) := by decide +kernel
theorem dX6_emptyHeld_4 : decode cX6_emptyHeld 4 = .ok (.iload_n 1, 1) := by decide +kernel
theorem dX6_emptyHeld_5 : decode cX6_emptyHeld 5 = .ok (.iaload, 1) := by decide +kernel
theorem dX6_emptyHeld_6 : decode cX6_emptyHeld 6 = .ok (.istore_n 2, 1) := by decide +kernel
theorem dX6_emptyHeld_7 : decode cX6_emptyHeld 7 = .ok (.iload_n 2, 1) := by decide +kernel
theorem dX6_emptyHeld_8 : decode cX6_emptyHeld 8 = .ok (.iconst 1, 1) := by decide +kernel
theorem dX6_emptyHeld_9 : decode cX6_emptyHeld 9 = .ok (.isub, 1) := by decide +kernel
theorem dX6_emptyHeld_10 : decode cX6_emptyHeld 10 = .ok (.istore_n 3, 1) := by decide +kernel
theorem dX6_emptyHeld_11 : decode cX6_emptyHeld 11 = .ok (.iload_n 3, 1) := by decide +kernel
theorem dX6_emptyHeld_12 : decode cX6_emptyHeld 12 = .ok (.ifCond .lt 23, 3) := by decide +kernel
theorem dX6_emptyHeld_15 : decode cX6_emptyHeld 15 = .ok (.aload_n 0, 1) := by decide +kernel
theorem dX6_emptyHeld_16 : decode cX6_emptyHeld 16 = .ok (.aload_n 0, 1) := by decide +kernel
theorem dX6_emptyHeld_17 : decode cX6_emptyHeld 17 = .ok (.getfield 78, 3) := by decide +kernel
theorem dX6_emptyHeld_20 : decode cX6_emptyHeld 20 = .ok (.iconst 4, 1) := by decide +kernel
theorem dX6_emptyHeld_21 : decode cX6_emptyHeld 21 = .ok (.iload_n 1, 1) := by decide +kernel
theorem dX6_emptyHeld_22 : decode cX6_emptyHeld 22 = .ok (.imul, 1) := by decide +kernel
theorem dX6_emptyHeld_23 : decode cX6_emptyHeld 23 = .ok (.iload_n 3, 1) := by decide +kernel
theorem dX6_emptyHeld_24 : decode cX6_emptyHeld 24 = .ok (.iadd, 1) := by decide +kernel
theorem dX6_emptyHeld_25 : decode cX6_emptyHeld 25 = .ok (.iaload, 1) := by decide +kernel
theorem dX6_emptyHeld_26 : decode cX6_emptyHeld 26 = .ok (.invokevirtual 137, 3) := by decide +kernel
theorem dX6_emptyHeld_29 : decode cX6_emptyHeld 29 = .ok (.iinc 3 (-1), 3) := by decide +kernel
theorem dX6_emptyHeld_32 : decode cX6_emptyHeld 32 = .ok (.goto (-21), 3) := by decide +kernel
theorem dX6_emptyHeld_35 : decode cX6_emptyHeld 35 = .ok (.aload_n 0, 1) := by decide +kernel
theorem dX6_emptyHeld_36 : decode cX6_emptyHeld 36 = .ok (.getfield 75, 3) := by decide +kernel
theorem dX6_emptyHeld_39 : decode cX6_emptyHeld 39 = .ok (.iload_n 1, 1) := by decide +kernel
theorem dX6_emptyHeld_40 : decode cX6_emptyHeld 40 = .ok (.iconst 0, 1) := by decide +kernel
theorem dX6_emptyHeld_41 : decode cX6_emptyHeld 41 = .ok (.iastore, 1) := by decide +kernel
theorem dX6_emptyHeld_42 : decode cX6_emptyHeld 42 = .ok (.iload_n 2, 1) := by decide +kernel
theorem dX6_emptyHeld_43 : decode cX6_emptyHeld 43 = .ok (.ireturn, 1) := by decide +kernel
theorem dX6_emptyDepot_0 : decode cX6_emptyDepot 0 = .ok (.iconst 4, 1) := by decide +kernel
theorem dX6_emptyDepot_1 : decode cX6_emptyDepot 1 = .ok (.aload_n 0, 1) := by decide +kernel
theorem dX6_emptyDepot_2 : decode cX6_emptyDepot 2 = .ok (.getfield 81, 3) := by decide +kernel
theorem dX6_emptyDepot_5 : decode cX6_emptyDepot 5 = .ok (.iload_n 1, 1) := by decide +kernel
theorem dX6_emptyDepot_6 : decode cX6_emptyDepot 6 = .ok (.iaload, 1) := by decide +kernel
theorem dX6_emptyDepot_7 : decode cX6_emptyDepot 7 = .ok (.imul, 1) := by decide +kernel
theorem dX6_emptyDepot_8 : decode cX6_emptyDepot 8 = .ok (.istore_n 2, 1) := by decide +kernel
theorem dX6_emptyDepot_9 : decode cX6_emptyDepot 9 = .ok (.iload_n 2, 1) := by decide +kernel
theorem dX6_emptyDepot_10 : decode cX6_emptyDepot 10 = .ok (.iconst 1, 1) := by decide +kernel
theorem dX6_emptyDepot_11 : decode cX6_emptyDepot 11 = .ok (.isub, 1) := by decide +kernel
theorem dX6_emptyDepot_12 : decode cX6_emptyDepot 12 = .ok (.istore_n 3, 1) := by decide +kernel
theorem dX6_emptyDepot_13 : decode cX6_emptyDepot 13 = .ok (.iload_n 3, 1) := by decide +kernel
theorem dX6_emptyDepot_14 : decode cX6_emptyDepot 14 = .ok (.ifCond .lt 24, 3) := by decide +kernel
theorem dX6_emptyDepot_17 : decode cX6_emptyDepot 17 = .ok (.aload_n 0, 1) := by decide +kernel
theorem dX6_emptyDepot_18 : decode cX6_emptyDepot 18 = .ok (.aload_n 0, 1) := by decide +kernel
theorem dX6_emptyDepot_19 : decode cX6_emptyDepot 19 = .ok (.getfield 84, 3) := by decide +kernel
theorem dX6_emptyDepot_22 : decode cX6_emptyDepot 22 = .ok (.bipush 12, 2) := by decide +kernel
theorem dX6_emptyDepot_24 : decode cX6_emptyDepot 24 = .ok (.iload_n 1, 1) := by decide +kernel
theorem dX6_emptyDepot_25 : decode cX6_emptyDepot 25 = .ok (.imul, 1) := by decide +kernel
theorem dX6_emptyDepot_26 : decode cX6_emptyDepot 26 = .ok (.iload_n 3, 1) := by decide +kernel
theorem dX6_emptyDepot_27 : decode cX6_emptyDepot 27 = .ok (.iadd, 1) := by decide +kernel
theorem dX6_emptyDepot_28 : decode cX6_emptyDepot 28 = .ok (.iaload, 1) := by decide +kernel
theorem dX6_emptyDepot_29 : decode cX6_emptyDepot 29 = .ok (.invokevirtual 137, 3) := by decide +kernel
theorem dX6_emptyDepot_32 : decode cX6_emptyDepot 32 = .ok (.iinc 3 (-1), 3) := by decide +kernel
theorem dX6_emptyDepot_35 : decode cX6_emptyDepot 35 = .ok (.goto (-22), 3) := by decide +kernel
theorem dX6_emptyDepot_38 : decode cX6_emptyDepot 38 = .ok (.aload_n 0, 1) := by decide +kernel
theorem dX6_emptyDepot_39 : decode cX6_emptyDepot 39 = .ok (.getfield 81, 3) := by decide +kernel
theorem dX6_emptyDepot_42 : decode cX6_emptyDepot 42 = .ok (.iload_n 1, 1) := by decide +kernel
theorem dX6_emptyDepot_43 : decode cX6_emptyDepot 43 = .ok (.iconst 0, 1) := by decide +kernel
theorem dX6_emptyDepot_44 : decode cX6_emptyDepot 44 = .ok (.iastore, 1) := by decide +kernel
theorem dX6_emptyDepot_45 : decode cX6_emptyDepot 45 = .ok (.iload_n 2, 1) := by decide +kernel
theorem dX6_emptyDepot_46 : decode cX6_emptyDepot 46 = .ok (.ireturn, 1) := by decide +kernel
theorem dX6_drop_0 : decode cX6_drop 0 = .ok (.aload_n 0, 1) := by decide +kernel
theorem dX6_drop_1 : decode cX6_drop 1 = .ok (.aload_n 0, 1) := by decide +kernel
theorem dX6_drop_2 : decode cX6_drop 2 = .ok (.iload_n 1, 1) := by decide +kernel
theorem dX6_drop_3 : decode cX6_drop 3 = .ok (.invokevirtual 141, 3) := by decide +kernel
theorem dX6_drop_6 : decode cX6_drop 6 = .ok (.ifCond .ne 7, 3) := by decide +kernel
theorem dX6_drop_9 : decode cX6_drop 9 = .ok (.iconst 1, 1) := by decide +kernel
theorem dX6_drop_10 : decode cX6_drop 10 = .ok (.goto 16, 3) := by decide +kernel
theorem dX6_drop_13 : decode cX6_drop 13 = .ok (.aload_n 0, 1) := by decide +kernel
theorem dX6_drop_14 : decode cX6_drop 14 = .ok (.iload_n 1, 1) := by decide +kernel
theorem dX6_drop_15 : decode cX6_drop 15 = .ok (.invokevirtual 144, 3) := by decide +kernel
theorem dX6_drop_18 : decode cX6_drop 18 = .ok (.ifCond .le 7, 3) := by decide +kernel
theorem dX6_drop_21 : decode cX6_drop 21 = .ok (.iconst 2, 1) := by decide +kernel
theorem dX6_drop_22 : decode cX6_drop 22 = .ok (.goto 4, 3) := by decide +kernel
theorem dX6_drop_25 : decode cX6_drop 25 = .ok (.iconst 0, 1) := by decide +kernel
theorem dX6_drop_26 : decode cX6_drop 26 = .ok (.invokevirtual 134, 3) := by decide +kernel
theorem dX6_drop_29 : decode cX6_drop 29 = .ok (.ifCond .eq 5, 3) := by decide +kernel
theorem dX6_drop_32 : decode cX6_drop 32 = .ok (.iconst 0, 1) := by decide +kernel
theorem dX6_drop_33 : decode cX6_drop 33 = .ok (.ireturn, 1) := by decide +kernel
theorem dX6_drop_34 : decode cX6_drop 34 = .ok (.iconst 0, 1) := by decide +kernel
theorem dX6_drop_35 : decode cX6_drop 35 = .ok (.istore_n 2, 1) := by decide +kernel
theorem dX6_drop_36 : decode cX6_drop 36 = .ok (.iload_n 2, 1) := by decide +kernel
theorem dX6_drop_37 : decode cX6_drop 37 = .ok (.iconst 4, 1) := by decide +kernel
theorem dX6_drop_38 : decode cX6_drop 38 = .ok (.if_icmp .ge 37, 3) := by decide +kernel
theorem dX6_drop_41 : decode cX6_drop 41 = .ok (.aload_n 0, 1) := by decide +kernel
theorem dX6_drop_42 : decode cX6_drop 42 = .ok (.iconst 2, 1) := by decide +kernel
theorem dX6_drop_43 : decode cX6_drop 43 = .ok (.bipush 8, 2) := by decide +kernel
theorem dX6_drop_45 : decode cX6_drop 45 = .ok (.iload_n 2, 1) := by decide +kernel
theorem dX6_drop_46 : decode cX6_drop 46 = .ok (.imul, 1) := by decide +kernel
theorem dX6_drop_47 : decode cX6_drop 47 = .ok (.iload_n 1, 1) := by decide +kernel
theorem dX6_drop_48 : decode cX6_drop 48 = .ok (.iadd, 1) := by decide +kernel
theorem dX6_drop_49 : decode cX6_drop 49 = .ok (.imul, 1) := by decide +kernel
theorem dX6_drop_50 : decode cX6_drop 50 = .ok (.invokevirtual 147, 3) := by decide +kernel
theorem dX6_drop_53 : decode cX6_drop 53 = .ok (.pop, 1) := by decide +kernel
theorem dX6_drop_54 : decode cX6_drop 54 = .ok (.aload_n 0, 1) := by decide +kernel
theorem dX6_drop_55 : decode cX6_drop 55 = .ok (.iconst 2, 1) := by decide +kernel
theorem dX6_drop_56 : decode cX6_drop 56 = .ok (.bipush 8, 2) := by decide +kernel
theorem dX6_drop_58 : decode cX6_drop 58 = .ok (.iload_n 2, 1) := by decide +kernel
theorem dX6_drop_59 : decode cX6_drop 59 = .ok (.imul, 1) := by decide +kernel
theorem dX6_drop_60 : decode cX6_drop 60 = .ok (.iload_n 1, 1) := by decide +kernel
theorem dX6_drop_61 : decode cX6_drop 61 = .ok (.iadd, 1) := by decide +kernel
theorem dX6_drop_62 : decode cX6_drop 62 = .ok (.imul, 1) := by decide +kernel
theorem dX6_drop_63 : decode cX6_drop 63 = .ok (.iconst 1, 1) := by decide +kernel
theorem dX6_drop_64 : decode cX6_drop 64 = .ok (.iadd, 1) := by decide +kernel
theorem dX6_drop_65 : decode cX6_drop 65 = .ok (.invokevirtual 147, 3) := by decide +kernel
theorem dX6_drop_68 : decode cX6_drop 68 = .ok (.pop, 1) := by decide +kernel
theorem dX6_drop_69 : decode cX6_drop 69 = .ok (.iinc 2 1, 3) := by decide +kernel
theorem dX6_drop_72 : decode cX6_drop 72 = .ok (.goto (-36), 3) := by decide +kernel
theorem dX6_drop_75 : decode cX6_drop 75 = .ok (.aload_n 0, 1) := by decide +kernel
theorem dX6_drop_76 : decode cX6_drop 76 = .ok (.iload_n 1, 1) := by decide +kernel
theorem dX6_drop_77 : decode cX6_drop 77 = .ok (.invokevirtual 150, 3) := by decide +kernel
theorem dX6_drop_80 : decode cX6_drop 80 = .ok (.pop, 1) := by decide +kernel
theorem dX6_drop_81 : decode cX6_drop 81 = .ok (.iconst 0, 1) := by decide +kernel
theorem dX6_drop_82 : decode cX6_drop 82 = .ok (.istore_n 2, 1) := by decide +kernel
theorem dX6_drop_83 : decode cX6_drop 83 = .ok (.iconst 0, 1) := by decide +kernel
theorem dX6_drop_84 : decode cX6_drop 84 = .ok (.istore_n 3, 1) := by decide +kernel
theorem dX6_drop_85 : decode cX6_drop 85 = .ok (.iload_n 3, 1) := by decide +kernel
theorem dX6_drop_86 : decode cX6_drop 86 = .ok (.sipush 256, 3) := by decide +kernel
theorem dX6_drop_89 : decode cX6_drop 89 = .ok (.if_icmp .ge 41, 3) := by decide +kernel
theorem dX6_drop_92 : decode cX6_drop 92 = .ok (.aload_n 0, 1) := by decide +kernel
theorem dX6_drop_93 : decode cX6_drop 93 = .ok (.getfield 13, 3) := by decide +kernel
theorem dX6_drop_96 : decode cX6_drop 96 = .ok (.iload_n 3, 1) := by decide +kernel
theorem dX6_drop_97 : decode cX6_drop 97 = .ok (.iaload, 1) := by decide +kernel
theorem dX6_drop_98 : decode cX6_drop 98 = .ok (.iload_n 3, 1) := by decide +kernel
theorem dX6_drop_99 : decode cX6_drop 99 = .ok (.if_icmp .ne 23, 3) := by decide +kernel
theorem dX6_drop_102 : decode cX6_drop 102 = .ok (.aload_n 0, 1) := by decide +kernel
theorem dX6_drop_103 : decode cX6_drop 103 = .ok (.getfield 47, 3) := by decide +kernel
theorem dX6_drop_106 : decode cX6_drop 106 = .ok (.iload_n 3, 1) := by decide +kernel
theorem dX6_drop_107 : decode cX6_drop 107 = .ok (.iaload, 1) := by decide +kernel
theorem dX6_drop_108 : decode cX6_drop 108 = .ok (.iload_n 1, 1) := by decide +kernel
theorem dX6_drop_109 : decode cX6_drop 109 = .ok (.if_icmp .ne 13, 3) := by decide +kernel
theorem dX6_drop_112 : decode cX6_drop 112 = .ok (.iload_n 2, 1) := by decide +kernel
theorem dX6_drop_113 : decode cX6_drop 113 = .ok (.aload_n 0, 1) := by decide +kernel
theorem dX6_drop_114 : decode cX6_drop 114 = .ok (.iload_n 3, 1) := by decide +kernel
theorem dX6_drop_115 : decode cX6_drop 115 = .ok (.invokevirtual 124, 3) := by decide +kernel
theorem dX6_drop_118 : decode cX6_drop 118 = .ok (.iadd, 1) := by decide +kernel
theorem dX6_drop_119 : decode cX6_drop 119 = .ok (.goto 4, 3) := by decide +kernel
theorem dX6_drop_122 : decode cX6_drop 122 = .ok (.iload_n 2, 1) := by decide +kernel
theorem dX6_drop_123 : decode cX6_drop 123 = .ok (.istore_n 2, 1) := by decide +kernel
theorem dX6_drop_124 : decode cX6_drop 124 = .ok (.iinc 3 1, 3) := by decide +kernel
theorem dX6_drop_127 : decode cX6_drop 127 = .ok (.goto (-42), 3) := by decide +kernel
theorem dX6_drop_130 : decode cX6_drop 130 = .ok (.aload_n 0, 1) := by decide +kernel
theorem dX6_drop_131 : decode cX6_drop 131 = .ok (.getfield 16, 3) := by decide +kernel
theorem dX6_drop_134 : decode cX6_drop 134 = .ok (.iload_n 1, 1) := by decide +kernel
theorem dX6_drop_135 : decode cX6_drop 135 = .ok (.iconst 1, 1) := by decide +kernel
theorem dX6_drop_136 : decode cX6_drop 136 = .ok (.bastore, 1) := by decide +kernel
theorem dX6_drop_137 : decode cX6_drop 137 = .ok (.iload_n 2, 1) := by decide +kernel
theorem dX6_drop_138 : decode cX6_drop 138 = .ok (.ireturn, 1) := by decide +kernel
theorem dX6_swap_0 : decode cX6_swap 0 = .ok (.iconst 0, 1) := by decide +kernel
theorem dX6_swap_1 : decode cX6_swap 1 = .ok (.istore_n 2, 1) := by decide +kernel
theorem dX6_swap_2 : decode cX6_swap 2 = .ok (.iload_n 2, 1) := by decide +kernel
theorem dX6_swap_3 : decode cX6_swap 3 = .ok (.iconst 4, 1) := by decide +kernel
theorem dX6_swap_4 : decode cX6_swap 4 = .ok (.if_icmp .ge 55, 3) := by decide +kernel
theorem dX6_swap_7 : decode cX6_swap 7 = .ok (.aload_n 0, 1) := by decide +kernel
theorem dX6_swap_8 : decode cX6_swap 8 = .ok (.getfield 78, 3) := by decide +kernel
theorem dX6_swap_11 : decode cX6_swap 11 = .ok (.iconst 4, 1) := by decide +kernel
theorem dX6_swap_12 : decode cX6_swap 12 = .ok (.iload_n 1, 1) := by decide +kernel
theorem dX6_swap_13 : decode cX6_swap 13 = .ok (.imul, 1) := by decide +kernel
theorem dX6_swap_14 : decode cX6_swap 14 = .ok (.iload_n 2, 1) := by decide +kernel
theorem dX6_swap_15 : decode cX6_swap 15 = .ok (.iadd, 1) := by decide +kernel
theorem dX6_swap_16 : decode cX6_swap 16 = .ok (.iaload, 1) := by decide +kernel
theorem dX6_swap_17 : decode cX6_swap 17 = .ok (.istore_n 3, 1) := by decide +kernel
theorem dX6_swap_18 : decode cX6_swap 18 = .ok (.aload_n 0, 1) := by decide +kernel
theorem dX6_swap_19 : decode cX6_swap 19 = .ok (.getfield 78, 3) := by decide +kernel
theorem dX6_swap_22 : decode cX6_swap 22 = .ok (.iconst 4, 1) := by decide +kernel
theorem dX6_swap_23 : decode cX6_swap 23 = .ok (.iload_n 1, 1) := by decide +kernel
theorem dX6_swap_24 : decode cX6_swap 24 = .ok (.imul, 1) := by decide +kernel
theorem dX6_swap_25 : decode cX6_swap 25 = .ok (.iload_n 2, 1) := by decide +kernel
theorem dX6_swap_26 : decode cX6_swap 26 = .ok (.iadd, 1) := by decide +kernel
theorem dX6_swap_27 : decode cX6_swap 27 = .ok (.aload_n 0, 1) := by decide +kernel
theorem dX6_swap_28 : decode cX6_swap 28 = .ok (.getfield 78, 3) := by decide +kernel
theorem dX6_swap_31 : decode cX6_swap 31 = .ok (.iconst 4, 1) := by decide +kernel
theorem dX6_swap_32 : decode cX6_swap 32 = .ok (.iload_n 1, 1) := by decide +kernel
theorem dX6_swap_33 : decode cX6_swap 33 = .ok (.imul, 1) := by decide +kernel
theorem dX6_swap_34 : decode cX6_swap 34 = .ok (.iconst 4, 1) := by decide +kernel
theorem dX6_swap_35 : decode cX6_swap 35 = .ok (.iadd, 1) := by decide +kernel
theorem dX6_swap_36 : decode cX6_swap 36 = .ok (.iload_n 2, 1) := by decide +kernel
theorem dX6_swap_37 : decode cX6_swap 37 = .ok (.iadd, 1) := by decide +kernel
theorem dX6_swap_38 : decode cX6_swap 38 = .ok (.iaload, 1) := by decide +kernel
theorem dX6_swap_39 : decode cX6_swap 39 = .ok (.iastore, 1) := by decide +kernel
theorem dX6_swap_40 : decode cX6_swap 40 = .ok (.aload_n 0, 1) := by decide +kernel
theorem dX6_swap_41 : decode cX6_swap 41 = .ok (.getfield 78, 3) := by decide +kernel
theorem dX6_swap_44 : decode cX6_swap 44 = .ok (.iconst 4, 1) := by decide +kernel
theorem dX6_swap_45 : decode cX6_swap 45 = .ok (.iload_n 1, 1) := by decide +kernel
theorem dX6_swap_46 : decode cX6_swap 46 = .ok (.imul, 1) := by decide +kernel
theorem dX6_swap_47 : decode cX6_swap 47 = .ok (.iconst 4, 1) := by decide +kernel
theorem dX6_swap_48 : decode cX6_swap 48 = .ok (.iadd, 1) := by decide +kernel
theorem dX6_swap_49 : decode cX6_swap 49 = .ok (.iload_n 2, 1) := by decide +kernel
theorem dX6_swap_50 : decode cX6_swap 50 = .ok (.iadd, 1) := by decide +kernel
theorem dX6_swap_51 : decode cX6_swap 51 = .ok (.iload_n 3, 1) := by decide +kernel
theorem dX6_swap_52 : decode cX6_swap 52 = .ok (.iastore, 1) := by decide +kernel
theorem dX6_swap_53 : decode cX6_swap 53 = .ok (.iinc 2 1, 3) := by decide +kernel
theorem dX6_swap_56 : decode cX6_swap 56 = .ok (.goto (-54), 3) := by decide +kernel
theorem dX6_swap_59 : decode cX6_swap 59 = .ok (.aload_n 0, 1) := by decide +kernel
theorem dX6_swap_60 : decode cX6_swap 60 = .ok (.getfield 75, 3) := by decide +kernel
theorem dX6_swap_63 : decode cX6_swap 63 = .ok (.iload_n 1, 1) := by decide +kernel
theorem dX6_swap_64 : decode cX6_swap 64 = .ok (.iaload, 1) := by decide +kernel
theorem dX6_swap_65 : decode cX6_swap 65 = .ok (.istore_n 2, 1) := by decide +kernel
theorem dX6_swap_66 : decode cX6_swap 66 = .ok (.aload_n 0, 1) := by decide +kernel
theorem dX6_swap_67 : decode cX6_swap 67 = .ok (.getfield 75, 3) := by decide +kernel
theorem dX6_swap_70 : decode cX6_swap 70 = .ok (.iload_n 1, 1) := by decide +kernel
theorem dX6_swap_71 : decode cX6_swap 71 = .ok (.aload_n 0, 1) := by decide +kernel
theorem dX6_swap_72 : decode cX6_swap 72 = .ok (.getfield 75, 3) := by decide +kernel
theorem dX6_swap_75 : decode cX6_swap 75 = .ok (.iload_n 1, 1) := by decide +kernel
theorem dX6_swap_76 : decode cX6_swap 76 = .ok (.iconst 1, 1) := by decide +kernel
theorem dX6_swap_77 : decode cX6_swap 77 = .ok (.iadd, 1) := by decide +kernel
theorem dX6_swap_78 : decode cX6_swap 78 = .ok (.iaload, 1) := by decide +kernel
theorem dX6_swap_79 : decode cX6_swap 79 = .ok (.iastore, 1) := by decide +kernel
theorem dX6_swap_80 : decode cX6_swap 80 = .ok (.aload_n 0, 1) := by decide +kernel
theorem dX6_swap_81 : decode cX6_swap 81 = .ok (.getfield 75, 3) := by decide +kernel
theorem dX6_swap_84 : decode cX6_swap 84 = .ok (.iload_n 1, 1) := by decide +kernel
theorem dX6_swap_85 : decode cX6_swap 85 = .ok (.iconst 1, 1) := by decide +kernel
theorem dX6_swap_86 : decode cX6_swap 86 = .ok (.iadd, 1) := by decide +kernel
theorem dX6_swap_87 : decode cX6_swap 87 = .ok (.iload_n 2, 1) := by decide +kernel
theorem dX6_swap_88 : decode cX6_swap 88 = .ok (.iastore, 1) := by decide +kernel
theorem dX6_swap_89 : decode cX6_swap 89 = .ok (.return_, 1) := by decide +kernel
theorem dX6_allocate_0 : decode cX6_allocate 0 = .ok (.aload_n 0, 1) := by decide +kernel
theorem dX6_allocate_1 : decode cX6_allocate 1 = .ok (.aload_n 0, 1) := by decide +kernel
theorem dX6_allocate_2 : decode cX6_allocate 2 = .ok (.iload_n 1, 1) := by decide +kernel
theorem dX6_allocate_3 : decode cX6_allocate 3 = .ok (.invokevirtual 141, 3) := by decide +kernel
theorem dX6_allocate_6 : decode cX6_allocate 6 = .ok (.ifCond .ne 7, 3) := by decide +kernel
theorem dX6_allocate_9 : decode cX6_allocate 9 = .ok (.iconst 1, 1) := by decide +kernel
theorem dX6_allocate_10 : decode cX6_allocate 10 = .ok (.goto 17, 3) := by decide +kernel
theorem dX6_allocate_13 : decode cX6_allocate 13 = .ok (.iload_n 2, 1) := by decide +kernel
theorem dX6_allocate_14 : decode cX6_allocate 14 = .ok (.iconst 0, 1) := by decide +kernel
theorem dX6_allocate_15 : decode cX6_allocate 15 = .ok (.iconst 3, 1) := by decide +kernel
theorem dX6_allocate_16 : decode cX6_allocate 16 = .ok (.invokestatic 94, 3) := by decide +kernel
theorem dX6_allocate_19 : decode cX6_allocate 19 = .ok (.ifCond .ne 7, 3) := by decide +kernel
theorem dX6_allocate_22 : decode cX6_allocate 22 = .ok (.iconst 2, 1) := by decide +kernel
theorem dX6_allocate_23 : decode cX6_allocate 23 = .ok (.goto 4, 3) := by decide +kernel
theorem dX6_allocate_26 : decode cX6_allocate 26 = .ok (.iconst 0, 1) := by decide +kernel
theorem dX6_allocate_27 : decode cX6_allocate 27 = .ok (.invokevirtual 134, 3) := by decide +kernel
theorem dX6_allocate_30 : decode cX6_allocate 30 = .ok (.ifCond .eq 5, 3) := by decide +kernel
theorem dX6_allocate_33 : decode cX6_allocate 33 = .ok (.iconst 0, 1) := by decide +kernel
theorem dX6_allocate_34 : decode cX6_allocate 34 = .ok (.ireturn, 1) := by decide +kernel
theorem dX6_allocate_35 : decode cX6_allocate 35 = .ok (.iconst 2, 1) := by decide +kernel
theorem dX6_allocate_36 : decode cX6_allocate 36 = .ok (.bipush 8, 2) := by decide +kernel
theorem dX6_allocate_38 : decode cX6_allocate 38 = .ok (.iload_n 2, 1) := by decide +kernel
theorem dX6_allocate_39 : decode cX6_allocate 39 = .ok (.imul, 1) := by decide +kernel
theorem dX6_allocate_40 : decode cX6_allocate 40 = .ok (.iload_n 1, 1) := by decide +kernel
theorem dX6_allocate_41 : decode cX6_allocate 41 = .ok (.iadd, 1) := by decide +kernel
theorem dX6_allocate_42 : decode cX6_allocate 42 = .ok (.imul, 1) := by decide +kernel
theorem dX6_allocate_43 : decode cX6_allocate 43 = .ok (.istore_n 3, 1) := by decide +kernel
theorem dX6_allocate_44 : decode cX6_allocate 44 = .ok (.aload_n 0, 1) := by decide +kernel
theorem dX6_allocate_45 : decode cX6_allocate 45 = .ok (.getfield 75, 3) := by decide +kernel
theorem dX6_allocate_48 : decode cX6_allocate 48 = .ok (.iload_n 3, 1) := by decide +kernel
theorem dX6_allocate_49 : decode cX6_allocate 49 = .ok (.iaload, 1) := by decide +kernel
theorem dX6_allocate_50 : decode cX6_allocate 50 = .ok (.ifCond .ne 19, 3) := by decide +kernel
theorem dX6_allocate_53 : decode cX6_allocate 53 = .ok (.aload_n 0, 1) := by decide +kernel
theorem dX6_allocate_54 : decode cX6_allocate 54 = .ok (.getfield 75, 3) := by decide +kernel
theorem dX6_allocate_57 : decode cX6_allocate 57 = .ok (.iload_n 3, 1) := by decide +kernel
theorem dX6_allocate_58 : decode cX6_allocate 58 = .ok (.iconst 1, 1) := by decide +kernel
theorem dX6_allocate_59 : decode cX6_allocate 59 = .ok (.iadd, 1) := by decide +kernel
theorem dX6_allocate_60 : decode cX6_allocate 60 = .ok (.iaload, 1) := by decide +kernel
theorem dX6_allocate_61 : decode cX6_allocate 61 = .ok (.ifCond .le 8, 3) := by decide +kernel
theorem dX6_allocate_64 : decode cX6_allocate 64 = .ok (.aload_n 0, 1) := by decide +kernel
theorem dX6_allocate_65 : decode cX6_allocate 65 = .ok (.iload_n 3, 1) := by decide +kernel
theorem dX6_allocate_66 : decode cX6_allocate 66 = .ok (.invokevirtual 153, 3) := by decide +kernel
theorem dX6_allocate_69 : decode cX6_allocate 69 = .ok (.aload_n 0, 1) := by decide +kernel
theorem dX6_allocate_70 : decode cX6_allocate 70 = .ok (.getfield 75, 3) := by decide +kernel
theorem dX6_allocate_73 : decode cX6_allocate 73 = .ok (.iload_n 3, 1) := by decide +kernel
theorem dX6_allocate_74 : decode cX6_allocate 74 = .ok (.iaload, 1) := by decide +kernel
theorem dX6_allocate_75 : decode cX6_allocate 75 = .ok (.ifCond .ne 76, 3) := by decide +kernel
theorem dX6_allocate_78 : decode cX6_allocate 78 = .ok (.aload_n 0, 1) := by decide +kernel
theorem dX6_allocate_79 : decode cX6_allocate 79 = .ok (.getfield 81, 3) := by decide +kernel
theorem dX6_allocate_82 : decode cX6_allocate 82 = .ok (.iload_n 1, 1) := by decide +kernel
theorem dX6_allocate_83 : decode cX6_allocate 83 = .ok (.iaload, 1) := by decide +kernel
theorem dX6_allocate_84 : decode cX6_allocate 84 = .ok (.ifCond .le 67, 3) := by decide +kernel
theorem dX6_allocate_87 : decode cX6_allocate 87 = .ok (.aload_n 0, 1) := by decide +kernel
theorem dX6_allocate_88 : decode cX6_allocate 88 = .ok (.getfield 81, 3) := by decide +kernel
theorem dX6_allocate_91 : decode cX6_allocate 91 = .ok (.iload_n 1, 1) := by decide +kernel
theorem dX6_allocate_92 : decode cX6_allocate 92 = .ok (.dup2, 1) := by decide +kernel
theorem dX6_allocate_93 : decode cX6_allocate 93 = .ok (.iaload, 1) := by decide +kernel
theorem dX6_allocate_94 : decode cX6_allocate 94 = .ok (.iconst 1, 1) := by decide +kernel
theorem dX6_allocate_95 : decode cX6_allocate 95 = .ok (.isub, 1) := by decide +kernel
theorem dX6_allocate_96 : decode cX6_allocate 96 = .ok (.iastore, 1) := by decide +kernel
theorem dX6_allocate_97 : decode cX6_allocate 97 = .ok (.iconst 0, 1) := by decide +kernel
theorem dX6_allocate_98 : decode cX6_allocate 98 = .ok (.istore 4, 2) := by decide +kernel
theorem dX6_allocate_100 : decode cX6_allocate 100 = .ok (.iload 4, 2) := by decide +kernel
theorem dX6_allocate_102 : decode cX6_allocate 102 = .ok (.iconst 4, 1) := by decide +kernel
theorem dX6_allocate_103 : decode cX6_allocate 103 = .ok (.if_icmp .ge 41, 3) := by decide +kernel
theorem dX6_allocate_106 : decode cX6_allocate 106 = .ok (.aload_n 0, 1) := by decide +kernel
theorem dX6_allocate_107 : decode cX6_allocate 107 = .ok (.getfield 78, 3) := by decide +kernel
theorem dX6_allocate_110 : decode cX6_allocate 110 = .ok (.iconst 4, 1) := by decide +kernel
theorem dX6_allocate_111 : decode cX6_allocate 111 = .ok (.iload_n 3, 1) := by decide +kernel
theorem dX6_allocate_112 : decode cX6_allocate 112 = .ok (.imul, 1) := by decide +kernel
theorem dX6_allocate_113 : decode cX6_allocate 113 = .ok (.iload 4, 2) := by decide +kernel
theorem dX6_allocate_115 : decode cX6_allocate 115 = .ok (.iadd, 1) := by decide +kernel
theorem dX6_allocate_116 : decode cX6_allocate 116 = .ok (.aload_n 0, 1) := by decide +kernel
theorem dX6_allocate_117 : decode cX6_allocate 117 = .ok (.getfield 84, 3) := by decide +kernel
theorem dX6_allocate_120 : decode cX6_allocate 120 = .ok (.bipush 12, 2) := by decide +kernel
theorem dX6_allocate_122 : decode cX6_allocate 122 = .ok (.iload_n 1, 1) := by decide +kernel
theorem dX6_allocate_123 : decode cX6_allocate 123 = .ok (.imul, 1) := by decide +kernel
theorem dX6_allocate_124 : decode cX6_allocate 124 = .ok (.iconst 4, 1) := by decide +kernel
theorem dX6_allocate_125 : decode cX6_allocate 125 = .ok (.aload_n 0, 1) := by decide +kernel
theorem dX6_allocate_126 : decode cX6_allocate 126 = .ok (.getfield 81, 3) := by decide +kernel
theorem dX6_allocate_129 : decode cX6_allocate 129 = .ok (.iload_n 1, 1) := by decide +kernel
theorem dX6_allocate_130 : decode cX6_allocate 130 = .ok (.iaload, 1) := by decide +kernel
theorem dX6_allocate_131 : decode cX6_allocate 131 = .ok (.imul, 1) := by decide +kernel
theorem dX6_allocate_132 : decode cX6_allocate 132 = .ok (.iadd, 1) := by decide +kernel
theorem dX6_allocate_133 : decode cX6_allocate 133 = .ok (.iload 4, 2) := by decide +kernel
theorem dX6_allocate_135 : decode cX6_allocate 135 = .ok (.iadd, 1) := by decide +kernel
theorem dX6_allocate_136 : decode cX6_allocate 136 = .ok (.iaload, 1) := by decide +kernel
theorem dX6_allocate_137 : decode cX6_allocate 137 = .ok (.iastore, 1) := by decide +kernel
theorem dX6_allocate_138 : decode cX6_allocate 138 = .ok (.iinc 4 1, 3) := by decide +kernel
theorem dX6_allocate_141 : decode cX6_allocate 141 = .ok (.goto (-41), 3) := by decide +kernel
theorem dX6_allocate_144 : decode cX6_allocate 144 = .ok (.aload_n 0, 1) := by decide +kernel
theorem dX6_allocate_145 : decode cX6_allocate 145 = .ok (.getfield 75, 3) := by decide +kernel
theorem dX6_allocate_148 : decode cX6_allocate 148 = .ok (.iload_n 3, 1) := by decide +kernel
theorem dX6_allocate_149 : decode cX6_allocate 149 = .ok (.iconst 4, 1) := by decide +kernel
theorem dX6_allocate_150 : decode cX6_allocate 150 = .ok (.iastore, 1) := by decide +kernel
theorem dX6_allocate_151 : decode cX6_allocate 151 = .ok (.iconst (-1), 1) := by decide +kernel
theorem dX6_allocate_152 : decode cX6_allocate 152 = .ok (.istore 4, 2) := by decide +kernel
theorem dX6_allocate_154 : decode cX6_allocate 154 = .ok (.aload_n 0, 1) := by decide +kernel
theorem dX6_allocate_155 : decode cX6_allocate 155 = .ok (.getfield 75, 3) := by decide +kernel
theorem dX6_allocate_158 : decode cX6_allocate 158 = .ok (.iload_n 3, 1) := by decide +kernel
theorem dX6_allocate_159 : decode cX6_allocate 159 = .ok (.iaload, 1) := by decide +kernel
theorem dX6_allocate_160 : decode cX6_allocate 160 = .ok (.ifCond .le 33, 3) := by decide +kernel
theorem dX6_allocate_163 : decode cX6_allocate 163 = .ok (.aload_n 0, 1) := by decide +kernel
theorem dX6_allocate_164 : decode cX6_allocate 164 = .ok (.getfield 75, 3) := by decide +kernel
theorem dX6_allocate_167 : decode cX6_allocate 167 = .ok (.iload_n 3, 1) := by decide +kernel
theorem dX6_allocate_168 : decode cX6_allocate 168 = .ok (.dup2, 1) := by decide +kernel
theorem dX6_allocate_169 : decode cX6_allocate 169 = .ok (.iaload, 1) := by decide +kernel
theorem dX6_allocate_170 : decode cX6_allocate 170 = .ok (.iconst 1, 1) := by decide +kernel
theorem dX6_allocate_171 : decode cX6_allocate 171 = .ok (.isub, 1) := by decide +kernel
theorem dX6_allocate_172 : decode cX6_allocate 172 = .ok (.iastore, 1) := by decide +kernel
theorem dX6_allocate_173 : decode cX6_allocate 173 = .ok (.aload_n 0, 1) := by decide +kernel
theorem dX6_allocate_174 : decode cX6_allocate 174 = .ok (.getfield 78, 3) := by decide +kernel
theorem dX6_allocate_177 : decode cX6_allocate 177 = .ok (.iconst 4, 1) := by decide +kernel
theorem dX6_allocate_178 : decode cX6_allocate 178 = .ok (.iload_n 3, 1) := by decide +kernel
theorem dX6_allocate_179 : decode cX6_allocate 179 = .ok (.imul, 1) := by decide +kernel
theorem dX6_allocate_180 : decode cX6_allocate 180 = .ok (.aload_n 0, 1) := by decide +kernel
theorem dX6_allocate_181 : decode cX6_allocate 181 = .ok (.getfield 75, 3) := by decide +kernel
theorem dX6_allocate_184 : decode cX6_allocate 184 = .ok (.iload_n 3, 1) := by decide +kernel
theorem dX6_allocate_185 : decode cX6_allocate 185 = .ok (.iaload, 1) := by decide +kernel
theorem dX6_allocate_186 : decode cX6_allocate 186 = .ok (.iadd, 1) := by decide +kernel
theorem dX6_allocate_187 : decode cX6_allocate 187 = .ok (.iaload, 1) := by decide +kernel
theorem dX6_allocate_188 : decode cX6_allocate 188 = .ok (.istore 4, 2) := by decide +kernel
theorem dX6_allocate_190 : decode cX6_allocate 190 = .ok (.goto 10, 3) := by decide +kernel
theorem dX6_allocate_193 : decode cX6_allocate 193 = .ok (.aload_n 0, 1) := by decide +kernel
theorem dX6_allocate_194 : decode cX6_allocate 194 = .ok (.iload_n 1, 1) := by decide +kernel
theorem dX6_allocate_195 : decode cX6_allocate 195 = .ok (.invokevirtual 156, 3) := by decide +kernel
theorem dX6_allocate_198 : decode cX6_allocate 198 = .ok (.istore 4, 2) := by decide +kernel
theorem dX6_allocate_200 : decode cX6_allocate 200 = .ok (.iload 4, 2) := by decide +kernel
theorem dX6_allocate_202 : decode cX6_allocate 202 = .ok (.ifCond .ge 15, 3) := by decide +kernel
theorem dX6_allocate_205 : decode cX6_allocate 205 = .ok (.aload_n 0, 1) := by decide +kernel
theorem dX6_allocate_206 : decode cX6_allocate 206 = .ok (.getfield 44, 3) := by decide +kernel
theorem dX6_allocate_209 : decode cX6_allocate 209 = .ok (.iload_n 1, 1) := by decide +kernel
theorem dX6_allocate_210 : decode cX6_allocate 210 = .ok (.dup2, 1) := by decide +kernel
theorem dX6_allocate_211 : decode cX6_allocate 211 = .ok (.iaload, 1) := by decide +kernel
theorem dX6_allocate_212 : decode cX6_allocate 212 = .ok (.iconst 1, 1) := by decide +kernel
theorem dX6_allocate_213 : decode cX6_allocate 213 = .ok (.iadd, 1) := by decide +kernel
theorem dX6_allocate_214 : decode cX6_allocate 214 = .ok (.iastore, 1) := by decide +kernel
theorem dX6_allocate_215 : decode cX6_allocate 215 = .ok (.iconst (-1), 1) := by decide +kernel
theorem dX6_allocate_216 : decode cX6_allocate 216 = .ok (.ireturn, 1) := by decide +kernel
theorem dX6_allocate_217 : decode cX6_allocate 217 = .ok (.aload_n 0, 1) := by decide +kernel
theorem dX6_allocate_218 : decode cX6_allocate 218 = .ok (.getfield 60, 3) := by decide +kernel
theorem dX6_allocate_221 : decode cX6_allocate 221 = .ok (.iload 4, 2) := by decide +kernel
theorem dX6_allocate_223 : decode cX6_allocate 223 = .ok (.iconst 2, 1) := by decide +kernel
theorem dX6_allocate_224 : decode cX6_allocate 224 = .ok (.iastore, 1) := by decide +kernel
theorem dX6_allocate_225 : decode cX6_allocate 225 = .ok (.bipush 8, 2) := by decide +kernel
theorem dX6_allocate_227 : decode cX6_allocate 227 = .ok (.iload 4, 2) := by decide +kernel
theorem dX6_allocate_229 : decode cX6_allocate 229 = .ok (.imul, 1) := by decide +kernel
theorem dX6_allocate_230 : decode cX6_allocate 230 = .ok (.ireturn, 1) := by decide +kernel
theorem dX6_isLive_0 : decode cX6_isLive 0 = .ok (.iload_n 1, 1) := by decide +kernel
theorem dX6_isLive_1 : decode cX6_isLive 1 = .ok (.iconst 0, 1) := by decide +kernel
theorem dX6_isLive_2 : decode cX6_isLive 2 = .ok (.ldc 159, 2) := by decide +kernel
theorem dX6_isLive_4 : decode cX6_isLive 4 = .ok (.invokestatic 94, 3) := by decide +kernel
theorem dX6_isLive_7 : decode cX6_isLive 7 = .ok (.ifCond .eq 27, 3) := by decide +kernel
theorem dX6_isLive_10 : decode cX6_isLive 10 = .ok (.iload_n 1, 1) := by decide +kernel
theorem dX6_isLive_11 : decode cX6_isLive 11 = .ok (.bipush 8, 2) := by decide +kernel
theorem dX6_isLive_13 : decode cX6_isLive 13 = .ok (.irem, 1) := by decide +kernel
theorem dX6_isLive_14 : decode cX6_isLive 14 = .ok (.ifCond .ne 20, 3) := by decide +kernel
theorem dX6_isLive_17 : decode cX6_isLive 17 = .ok (.aload_n 0, 1) := by decide +kernel
theorem dX6_isLive_18 : decode cX6_isLive 18 = .ok (.getfield 60, 3) := by decide +kernel
theorem dX6_isLive_21 : decode cX6_isLive 21 = .ok (.iload_n 1, 1) := by decide +kernel
theorem dX6_isLive_22 : decode cX6_isLive 22 = .ok (.bipush 8, 2) := by decide +kernel
theorem dX6_isLive_24 : decode cX6_isLive 24 = .ok (.idiv, 1) := by decide +kernel
theorem dX6_isLive_25 : decode cX6_isLive 25 = .ok (.iaload, 1) := by decide +kernel
theorem dX6_isLive_26 : decode cX6_isLive 26 = .ok (.iconst 2, 1) := by decide +kernel
theorem dX6_isLive_27 : decode cX6_isLive 27 = .ok (.if_icmp .ne 7, 3) := by decide +kernel
theorem dX6_isLive_30 : decode cX6_isLive 30 = .ok (.iconst 1, 1) := by decide +kernel
theorem dX6_isLive_31 : decode cX6_isLive 31 = .ok (.goto 4, 3) := by decide +kernel
theorem dX6_isLive_34 : decode cX6_isLive 34 = .ok (.iconst 0, 1) := by decide +kernel
theorem dX6_isLive_35 : decode cX6_isLive 35 = .ok (.ireturn, 1) := by decide +kernel
theorem dX6_cacheAt_0 : decode cX6_cacheAt 0 = .ok (.aload_n 0, 1) := by decide +kernel
theorem dX6_cacheAt_1 : decode cX6_cacheAt 1 = .ok (.getfield 47, 3) := by decide +kernel
theorem dX6_cacheAt_4 : decode cX6_cacheAt 4 = .ok (.aload_n 0, 1) := by decide +kernel
theorem dX6_cacheAt_5 : decode cX6_cacheAt 5 = .ok (.getfield 13, 3) := by decide +kernel
theorem dX6_cacheAt_8 : decode cX6_cacheAt 8 = .ok (.iload_n 1, 1) := by decide +kernel
theorem dX6_cacheAt_9 : decode cX6_cacheAt 9 = .ok (.sipush 1024, 3) := by decide +kernel
theorem dX6_cacheAt_12 : decode cX6_cacheAt 12 = .ok (.idiv, 1) := by decide +kernel
theorem dX6_cacheAt_13 : decode cX6_cacheAt 13 = .ok (.iaload, 1) := by decide +kernel
theorem dX6_cacheAt_14 : decode cX6_cacheAt 14 = .ok (.iaload, 1) := by decide +kernel
theorem dX6_cacheAt_15 : decode cX6_cacheAt 15 = .ok (.ireturn, 1) := by decide +kernel
theorem dX6_free_0 : decode cX6_free 0 = .ok (.aload_n 0, 1) := by decide +kernel
theorem dX6_free_1 : decode cX6_free 1 = .ok (.iload_n 1, 1) := by decide +kernel
theorem dX6_free_2 : decode cX6_free 2 = .ok (.invokevirtual 160, 3) := by decide +kernel
theorem dX6_free_5 : decode cX6_free 5 = .ok (.ifCond .ne 7, 3) := by decide +kernel
theorem dX6_free_8 : decode cX6_free 8 = .ok (.iconst 1, 1) := by decide +kernel
theorem dX6_free_9 : decode cX6_free 9 = .ok (.goto 43, 3) := by decide +kernel
theorem dX6_free_12 : decode cX6_free 12 = .ok (.iload_n 2, 1) := by decide +kernel
theorem dX6_free_13 : decode cX6_free 13 = .ok (.iconst 0, 1) := by decide +kernel
theorem dX6_free_14 : decode cX6_free 14 = .ok (.iconst 3, 1) := by decide +kernel
theorem dX6_free_15 : decode cX6_free 15 = .ok (.invokestatic 94, 3) := by decide +kernel
theorem dX6_free_18 : decode cX6_free 18 = .ok (.ifCond .ne 7, 3) := by decide +kernel
theorem dX6_free_21 : decode cX6_free 21 = .ok (.iconst 2, 1) := by decide +kernel
theorem dX6_free_22 : decode cX6_free 22 = .ok (.goto 30, 3) := by decide +kernel
theorem dX6_free_25 : decode cX6_free 25 = .ok (.aload_n 0, 1) := by decide +kernel
theorem dX6_free_26 : decode cX6_free 26 = .ok (.getfield 66, 3) := by decide +kernel
theorem dX6_free_29 : decode cX6_free 29 = .ok (.iload_n 1, 1) := by decide +kernel
theorem dX6_free_30 : decode cX6_free 30 = .ok (.bipush 8, 2) := by decide +kernel
theorem dX6_free_32 : decode cX6_free 32 = .ok (.idiv, 1) := by decide +kernel
theorem dX6_free_33 : decode cX6_free 33 = .ok (.iaload, 1) := by decide +kernel
theorem dX6_free_34 : decode cX6_free 34 = .ok (.aload_n 0, 1) := by decide +kernel
theorem dX6_free_35 : decode cX6_free 35 = .ok (.getfield 29, 3) := by decide +kernel
theorem dX6_free_38 : decode cX6_free 38 = .ok (.aload_n 0, 1) := by decide +kernel
theorem dX6_free_39 : decode cX6_free 39 = .ok (.iload_n 1, 1) := by decide +kernel
theorem dX6_free_40 : decode cX6_free 40 = .ok (.invokevirtual 163, 3) := by decide +kernel
theorem dX6_free_43 : decode cX6_free 43 = .ok (.iaload, 1) := by decide +kernel
theorem dX6_free_44 : decode cX6_free 44 = .ok (.if_icmp .eq 7, 3) := by decide +kernel
theorem dX6_free_47 : decode cX6_free 47 = .ok (.iconst 3, 1) := by decide +kernel
theorem dX6_free_48 : decode cX6_free 48 = .ok (.goto 4, 3) := by decide +kernel
theorem dX6_free_51 : decode cX6_free 51 = .ok (.iconst 0, 1) := by decide +kernel
theorem dX6_free_52 : decode cX6_free 52 = .ok (.istore_n 3, 1) := by decide +kernel
theorem dX6_free_53 : decode cX6_free 53 = .ok (.aload_n 0, 1) := by decide +kernel
theorem dX6_free_54 : decode cX6_free 54 = .ok (.iload_n 3, 1) := by decide +kernel
theorem dX6_free_55 : decode cX6_free 55 = .ok (.invokevirtual 134, 3) := by decide +kernel
theorem dX6_free_58 : decode cX6_free 58 = .ok (.ifCond .eq 5, 3) := by decide +kernel
theorem dX6_free_61 : decode cX6_free 61 = .ok (.iconst 0, 1) := by decide +kernel
theorem dX6_free_62 : decode cX6_free 62 = .ok (.ireturn, 1) := by decide +kernel
theorem dX6_free_63 : decode cX6_free 63 = .ok (.iload_n 1, 1) := by decide +kernel
theorem dX6_free_64 : decode cX6_free 64 = .ok (.bipush 8, 2) := by decide +kernel
theorem dX6_free_66 : decode cX6_free 66 = .ok (.idiv, 1) := by decide +kernel
theorem dX6_free_67 : decode cX6_free 67 = .ok (.istore 4, 2) := by decide +kernel
theorem dX6_free_69 : decode cX6_free 69 = .ok (.aload_n 0, 1) := by decide +kernel
theorem dX6_free_70 : decode cX6_free 70 = .ok (.iload_n 1, 1) := by decide +kernel
theorem dX6_free_71 : decode cX6_free 71 = .ok (.invokevirtual 163, 3) := by decide +kernel
theorem dX6_free_74 : decode cX6_free 74 = .ok (.istore 5, 2) := by decide +kernel
theorem dX6_free_76 : decode cX6_free 76 = .ok (.iconst 2, 1) := by decide +kernel
theorem dX6_free_77 : decode cX6_free 77 = .ok (.bipush 8, 2) := by decide +kernel
theorem dX6_free_79 : decode cX6_free 79 = .ok (.iload_n 2, 1) := by decide +kernel
theorem dX6_free_80 : decode cX6_free 80 = .ok (.imul, 1) := by decide +kernel
theorem dX6_free_81 : decode cX6_free 81 = .ok (.iload 5, 2) := by decide +kernel
theorem dX6_free_83 : decode cX6_free 83 = .ok (.iadd, 1) := by decide +kernel
theorem dX6_free_84 : decode cX6_free 84 = .ok (.imul, 1) := by decide +kernel
theorem dX6_free_85 : decode cX6_free 85 = .ok (.istore 6, 2) := by decide +kernel
end
section
theorem dX6_free_87 : decode cX6_free 87 = .ok (.aload_n 0, 1) := by decide +kernel
theorem dX6_free_88 : decode cX6_free 88 = .ok (.getfield 75, 3) := by decide +kernel
theorem dX6_free_91 : decode cX6_free 91 = .ok (.iload 6, 2) := by decide +kernel
theorem dX6_free_93 : decode cX6_free 93 = .ok (.iaload, 1) := by decide +kernel
theorem dX6_free_94 : decode cX6_free 94 = .ok (.iconst 4, 1) := by decide +kernel
theorem dX6_free_95 : decode cX6_free 95 = .ok (.if_icmp .ne 22, 3) := by decide +kernel
theorem dX6_free_98 : decode cX6_free 98 = .ok (.aload_n 0, 1) := by decide +kernel
theorem dX6_free_99 : decode cX6_free 99 = .ok (.getfield 75, 3) := by decide +kernel
theorem dX6_free_102 : decode cX6_free 102 = .ok (.iload 6, 2) := by decide +kernel
theorem dX6_free_104 : decode cX6_free 104 = .ok (.iconst 1, 1) := by decide +kernel
theorem dX6_free_105 : decode cX6_free 105 = .ok (.iadd, 1) := by decide +kernel
theorem dX6_free_106 : decode cX6_free 106 = .ok (.iaload, 1) := by decide +kernel
theorem dX6_free_107 : decode cX6_free 107 = .ok (.iconst 4, 1) := by decide +kernel
theorem dX6_free_108 : decode cX6_free 108 = .ok (.if_icmp .ge 9, 3) := by decide +kernel
theorem dX6_free_111 : decode cX6_free 111 = .ok (.aload_n 0, 1) := by decide +kernel
theorem dX6_free_112 : decode cX6_free 112 = .ok (.iload 6, 2) := by decide +kernel
theorem dX6_free_114 : decode cX6_free 114 = .ok (.invokevirtual 153, 3) := by decide +kernel
theorem dX6_free_117 : decode cX6_free 117 = .ok (.aload_n 0, 1) := by decide +kernel
theorem dX6_free_118 : decode cX6_free 118 = .ok (.getfield 75, 3) := by decide +kernel
theorem dX6_free_121 : decode cX6_free 121 = .ok (.iload 6, 2) := by decide +kernel
theorem dX6_free_123 : decode cX6_free 123 = .ok (.iaload, 1) := by decide +kernel
theorem dX6_free_124 : decode cX6_free 124 = .ok (.iconst 4, 1) := by decide +kernel
theorem dX6_free_125 : decode cX6_free 125 = .ok (.if_icmp .ne 93, 3) := by decide +kernel
theorem dX6_free_128 : decode cX6_free 128 = .ok (.aload_n 0, 1) := by decide +kernel
theorem dX6_free_129 : decode cX6_free 129 = .ok (.getfield 81, 3) := by decide +kernel
theorem dX6_free_132 : decode cX6_free 132 = .ok (.iload 5, 2) := by decide +kernel
theorem dX6_free_134 : decode cX6_free 134 = .ok (.iaload, 1) := by decide +kernel
theorem dX6_free_135 : decode cX6_free 135 = .ok (.iconst 3, 1) := by decide +kernel
theorem dX6_free_136 : decode cX6_free 136 = .ok (.if_icmp .ge 82, 3) := by decide +kernel
theorem dX6_free_139 : decode cX6_free 139 = .ok (.iconst 0, 1) := by decide +kernel
theorem dX6_free_140 : decode cX6_free 140 = .ok (.istore 7, 2) := by decide +kernel
theorem dX6_free_142 : decode cX6_free 142 = .ok (.iload 7, 2) := by decide +kernel
theorem dX6_free_144 : decode cX6_free 144 = .ok (.iconst 4, 1) := by decide +kernel
theorem dX6_free_145 : decode cX6_free 145 = .ok (.if_icmp .ge 46, 3) := by decide +kernel
theorem dX6_free_148 : decode cX6_free 148 = .ok (.aload_n 0, 1) := by decide +kernel
theorem dX6_free_149 : decode cX6_free 149 = .ok (.getfield 84, 3) := by decide +kernel
theorem dX6_free_152 : decode cX6_free 152 = .ok (.bipush 12, 2) := by decide +kernel
theorem dX6_free_154 : decode cX6_free 154 = .ok (.iload 5, 2) := by decide +kernel
theorem dX6_free_156 : decode cX6_free 156 = .ok (.imul, 1) := by decide +kernel
theorem dX6_free_157 : decode cX6_free 157 = .ok (.iconst 4, 1) := by decide +kernel
theorem dX6_free_158 : decode cX6_free 158 = .ok (.aload_n 0, 1) := by decide +kernel
theorem dX6_free_159 : decode cX6_free 159 = .ok (.getfield 81, 3) := by decide +kernel
theorem dX6_free_162 : decode cX6_free 162 = .ok (.iload 5, 2) := by decide +kernel
theorem dX6_free_164 : decode cX6_free 164 = .ok (.iaload, 1) := by decide +kernel
theorem dX6_free_165 : decode cX6_free 165 = .ok (.imul, 1) := by decide +kernel
theorem dX6_free_166 : decode cX6_free 166 = .ok (.iadd, 1) := by decide +kernel
theorem dX6_free_167 : decode cX6_free 167 = .ok (.iload 7, 2) := by decide +kernel
theorem dX6_free_169 : decode cX6_free 169 = .ok (.iadd, 1) := by decide +kernel
theorem dX6_free_170 : decode cX6_free 170 = .ok (.aload_n 0, 1) := by decide +kernel
theorem dX6_free_171 : decode cX6_free 171 = .ok (.getfield 78, 3) := by decide +kernel
theorem dX6_free_174 : decode cX6_free 174 = .ok (.iconst 4, 1) := by decide +kernel
theorem dX6_free_175 : decode cX6_free 175 = .ok (.iload 6, 2) := by decide +kernel
theorem dX6_free_177 : decode cX6_free 177 = .ok (.imul, 1) := by decide +kernel
theorem dX6_free_178 : decode cX6_free 178 = .ok (.iconst 4, 1) := by decide +kernel
theorem dX6_free_179 : decode cX6_free 179 = .ok (.iadd, 1) := by decide +kernel
theorem dX6_free_180 : decode cX6_free 180 = .ok (.iload 7, 2) := by decide +kernel
theorem dX6_free_182 : decode cX6_free 182 = .ok (.iadd, 1) := by decide +kernel
theorem dX6_free_183 : decode cX6_free 183 = .ok (.iaload, 1) := by decide +kernel
theorem dX6_free_184 : decode cX6_free 184 = .ok (.iastore, 1) := by decide +kernel
theorem dX6_free_185 : decode cX6_free 185 = .ok (.iinc 7 1, 3) := by decide +kernel
theorem dX6_free_188 : decode cX6_free 188 = .ok (.goto (-46), 3) := by decide +kernel
theorem dX6_free_191 : decode cX6_free 191 = .ok (.aload_n 0, 1) := by decide +kernel
theorem dX6_free_192 : decode cX6_free 192 = .ok (.getfield 81, 3) := by decide +kernel
theorem dX6_free_195 : decode cX6_free 195 = .ok (.iload 5, 2) := by decide +kernel
theorem dX6_free_197 : decode cX6_free 197 = .ok (.dup2, 1) := by decide +kernel
theorem dX6_free_198 : decode cX6_free 198 = .ok (.iaload, 1) := by decide +kernel
theorem dX6_free_199 : decode cX6_free 199 = .ok (.iconst 1, 1) := by decide +kernel
theorem dX6_free_200 : decode cX6_free 200 = .ok (.iadd, 1) := by decide +kernel
theorem dX6_free_201 : decode cX6_free 201 = .ok (.iastore, 1) := by decide +kernel
theorem dX6_free_202 : decode cX6_free 202 = .ok (.aload_n 0, 1) := by decide +kernel
theorem dX6_free_203 : decode cX6_free 203 = .ok (.getfield 75, 3) := by decide +kernel
theorem dX6_free_206 : decode cX6_free 206 = .ok (.iload 6, 2) := by decide +kernel
theorem dX6_free_208 : decode cX6_free 208 = .ok (.iconst 1, 1) := by decide +kernel
theorem dX6_free_209 : decode cX6_free 209 = .ok (.iadd, 1) := by decide +kernel
theorem dX6_free_210 : decode cX6_free 210 = .ok (.iconst 0, 1) := by decide +kernel
theorem dX6_free_211 : decode cX6_free 211 = .ok (.iastore, 1) := by decide +kernel
theorem dX6_free_212 : decode cX6_free 212 = .ok (.aload_n 0, 1) := by decide +kernel
theorem dX6_free_213 : decode cX6_free 213 = .ok (.iload 6, 2) := by decide +kernel
theorem dX6_free_215 : decode cX6_free 215 = .ok (.invokevirtual 153, 3) := by decide +kernel
theorem dX6_free_218 : decode cX6_free 218 = .ok (.aload_n 0, 1) := by decide +kernel
theorem dX6_free_219 : decode cX6_free 219 = .ok (.getfield 75, 3) := by decide +kernel
theorem dX6_free_222 : decode cX6_free 222 = .ok (.iload 6, 2) := by decide +kernel
theorem dX6_free_224 : decode cX6_free 224 = .ok (.iaload, 1) := by decide +kernel
theorem dX6_free_225 : decode cX6_free 225 = .ok (.iconst 4, 1) := by decide +kernel
theorem dX6_free_226 : decode cX6_free 226 = .ok (.if_icmp .ge 44, 3) := by decide +kernel
theorem dX6_free_229 : decode cX6_free 229 = .ok (.aload_n 0, 1) := by decide +kernel
theorem dX6_free_230 : decode cX6_free 230 = .ok (.getfield 78, 3) := by decide +kernel
theorem dX6_free_233 : decode cX6_free 233 = .ok (.iconst 4, 1) := by decide +kernel
theorem dX6_free_234 : decode cX6_free 234 = .ok (.iload 6, 2) := by decide +kernel
theorem dX6_free_236 : decode cX6_free 236 = .ok (.imul, 1) := by decide +kernel
theorem dX6_free_237 : decode cX6_free 237 = .ok (.aload_n 0, 1) := by decide +kernel
theorem dX6_free_238 : decode cX6_free 238 = .ok (.getfield 75, 3) := by decide +kernel
theorem dX6_free_241 : decode cX6_free 241 = .ok (.iload 6, 2) := by decide +kernel
theorem dX6_free_243 : decode cX6_free 243 = .ok (.iaload, 1) := by decide +kernel
theorem dX6_free_244 : decode cX6_free 244 = .ok (.iadd, 1) := by decide +kernel
theorem dX6_free_245 : decode cX6_free 245 = .ok (.iload 4, 2) := by decide +kernel
theorem dX6_free_247 : decode cX6_free 247 = .ok (.iastore, 1) := by decide +kernel
theorem dX6_free_248 : decode cX6_free 248 = .ok (.aload_n 0, 1) := by decide +kernel
theorem dX6_free_249 : decode cX6_free 249 = .ok (.getfield 75, 3) := by decide +kernel
theorem dX6_free_252 : decode cX6_free 252 = .ok (.iload 6, 2) := by decide +kernel
theorem dX6_free_254 : decode cX6_free 254 = .ok (.dup2, 1) := by decide +kernel
theorem dX6_free_255 : decode cX6_free 255 = .ok (.iaload, 1) := by decide +kernel
theorem dX6_free_256 : decode cX6_free 256 = .ok (.iconst 1, 1) := by decide +kernel
theorem dX6_free_257 : decode cX6_free 257 = .ok (.iadd, 1) := by decide +kernel
theorem dX6_free_258 : decode cX6_free 258 = .ok (.iastore, 1) := by decide +kernel
theorem dX6_free_259 : decode cX6_free 259 = .ok (.aload_n 0, 1) := by decide +kernel
theorem dX6_free_260 : decode cX6_free 260 = .ok (.getfield 60, 3) := by decide +kernel
theorem dX6_free_263 : decode cX6_free 263 = .ok (.iload 4, 2) := by decide +kernel
theorem dX6_free_265 : decode cX6_free 265 = .ok (.iconst 3, 1) := by decide +kernel
theorem dX6_free_266 : decode cX6_free 266 = .ok (.iastore, 1) := by decide +kernel
theorem dX6_free_267 : decode cX6_free 267 = .ok (.goto 9, 3) := by decide +kernel
theorem dX6_free_270 : decode cX6_free 270 = .ok (.aload_n 0, 1) := by decide +kernel
theorem dX6_free_271 : decode cX6_free 271 = .ok (.iload 4, 2) := by decide +kernel
theorem dX6_free_273 : decode cX6_free 273 = .ok (.invokevirtual 137, 3) := by decide +kernel
theorem dX6_free_276 : decode cX6_free 276 = .ok (.iload 5, 2) := by decide +kernel
theorem dX6_free_278 : decode cX6_free 278 = .ok (.ireturn, 1) := by decide +kernel
theorem dX6_mark_0 : decode cX6_mark 0 = .ok (.aload_n 0, 1) := by decide +kernel
theorem dX6_mark_1 : decode cX6_mark 1 = .ok (.aload_n 0, 1) := by decide +kernel
theorem dX6_mark_2 : decode cX6_mark 2 = .ok (.iload_n 1, 1) := by decide +kernel
theorem dX6_mark_3 : decode cX6_mark 3 = .ok (.invokevirtual 160, 3) := by decide +kernel
theorem dX6_mark_6 : decode cX6_mark 6 = .ok (.ifCond .eq 7, 3) := by decide +kernel
theorem dX6_mark_9 : decode cX6_mark 9 = .ok (.iconst 0, 1) := by decide +kernel
theorem dX6_mark_10 : decode cX6_mark 10 = .ok (.goto 4, 3) := by decide +kernel
theorem dX6_mark_13 : decode cX6_mark 13 = .ok (.iconst 1, 1) := by decide +kernel
theorem dX6_mark_14 : decode cX6_mark 14 = .ok (.invokevirtual 134, 3) := by decide +kernel
theorem dX6_mark_17 : decode cX6_mark 17 = .ok (.ifCond .eq 5, 3) := by decide +kernel
theorem dX6_mark_20 : decode cX6_mark 20 = .ok (.iconst 0, 1) := by decide +kernel
theorem dX6_mark_21 : decode cX6_mark 21 = .ok (.ireturn, 1) := by decide +kernel
theorem dX6_mark_22 : decode cX6_mark 22 = .ok (.aload_n 0, 1) := by decide +kernel
theorem dX6_mark_23 : decode cX6_mark 23 = .ok (.getfield 66, 3) := by decide +kernel
theorem dX6_mark_26 : decode cX6_mark 26 = .ok (.iload_n 1, 1) := by decide +kernel
theorem dX6_mark_27 : decode cX6_mark 27 = .ok (.bipush 8, 2) := by decide +kernel
theorem dX6_mark_29 : decode cX6_mark 29 = .ok (.idiv, 1) := by decide +kernel
theorem dX6_mark_30 : decode cX6_mark 30 = .ok (.iaload, 1) := by decide +kernel
theorem dX6_mark_31 : decode cX6_mark 31 = .ok (.istore_n 3, 1) := by decide +kernel
theorem dX6_mark_32 : decode cX6_mark 32 = .ok (.aload_n 0, 1) := by decide +kernel
theorem dX6_mark_33 : decode cX6_mark 33 = .ok (.getfield 66, 3) := by decide +kernel
theorem dX6_mark_36 : decode cX6_mark 36 = .ok (.iload_n 1, 1) := by decide +kernel
theorem dX6_mark_37 : decode cX6_mark 37 = .ok (.bipush 8, 2) := by decide +kernel
theorem dX6_mark_39 : decode cX6_mark 39 = .ok (.idiv, 1) := by decide +kernel
theorem dX6_mark_40 : decode cX6_mark 40 = .ok (.iload_n 2, 1) := by decide +kernel
theorem dX6_mark_41 : decode cX6_mark 41 = .ok (.iastore, 1) := by decide +kernel
theorem dX6_mark_42 : decode cX6_mark 42 = .ok (.iload_n 3, 1) := by decide +kernel
theorem dX6_mark_43 : decode cX6_mark 43 = .ok (.ireturn, 1) := by decide +kernel
theorem dX6_flush_0 : decode cX6_flush 0 = .ok (.aload_n 0, 1) := by decide +kernel
theorem dX6_flush_1 : decode cX6_flush 1 = .ok (.iload_n 1, 1) := by decide +kernel
theorem dX6_flush_2 : decode cX6_flush 2 = .ok (.iconst 0, 1) := by decide +kernel
theorem dX6_flush_3 : decode cX6_flush 3 = .ok (.iconst 3, 1) := by decide +kernel
theorem dX6_flush_4 : decode cX6_flush 4 = .ok (.invokestatic 94, 3) := by decide +kernel
theorem dX6_flush_7 : decode cX6_flush 7 = .ok (.ifCond .eq 7, 3) := by decide +kernel
theorem dX6_flush_10 : decode cX6_flush 10 = .ok (.iconst 0, 1) := by decide +kernel
theorem dX6_flush_11 : decode cX6_flush 11 = .ok (.goto 4, 3) := by decide +kernel
theorem dX6_flush_14 : decode cX6_flush 14 = .ok (.iconst 1, 1) := by decide +kernel
theorem dX6_flush_15 : decode cX6_flush 15 = .ok (.invokevirtual 134, 3) := by decide +kernel
theorem dX6_flush_18 : decode cX6_flush 18 = .ok (.ifCond .eq 5, 3) := by decide +kernel
theorem dX6_flush_21 : decode cX6_flush 21 = .ok (.iconst 0, 1) := by decide +kernel
theorem dX6_flush_22 : decode cX6_flush 22 = .ok (.ireturn, 1) := by decide +kernel
theorem dX6_flush_23 : decode cX6_flush 23 = .ok (.iconst 0, 1) := by decide +kernel
theorem dX6_flush_24 : decode cX6_flush 24 = .ok (.istore_n 2, 1) := by decide +kernel
theorem dX6_flush_25 : decode cX6_flush 25 = .ok (.iconst 0, 1) := by decide +kernel
theorem dX6_flush_26 : decode cX6_flush 26 = .ok (.istore_n 3, 1) := by decide +kernel
theorem dX6_flush_27 : decode cX6_flush 27 = .ok (.iload_n 3, 1) := by decide +kernel
theorem dX6_flush_28 : decode cX6_flush 28 = .ok (.aload_n 0, 1) := by decide +kernel
theorem dX6_flush_29 : decode cX6_flush 29 = .ok (.getfield 91, 3) := by decide +kernel
theorem dX6_flush_32 : decode cX6_flush 32 = .ok (.if_icmp .ge 39, 3) := by decide +kernel
theorem dX6_flush_35 : decode cX6_flush 35 = .ok (.iconst 2, 1) := by decide +kernel
theorem dX6_flush_36 : decode cX6_flush 36 = .ok (.bipush 8, 2) := by decide +kernel
theorem dX6_flush_38 : decode cX6_flush 38 = .ok (.iload_n 1, 1) := by decide +kernel
theorem dX6_flush_39 : decode cX6_flush 39 = .ok (.imul, 1) := by decide +kernel
theorem dX6_flush_40 : decode cX6_flush 40 = .ok (.iload_n 3, 1) := by decide +kernel
theorem dX6_flush_41 : decode cX6_flush 41 = .ok (.iadd, 1) := by decide +kernel
theorem dX6_flush_42 : decode cX6_flush 42 = .ok (.imul, 1) := by decide +kernel
theorem dX6_flush_43 : decode cX6_flush 43 = .ok (.istore 4, 2) := by decide +kernel
theorem dX6_flush_45 : decode cX6_flush 45 = .ok (.iload_n 2, 1) := by decide +kernel
theorem dX6_flush_46 : decode cX6_flush 46 = .ok (.aload_n 0, 1) := by decide +kernel
theorem dX6_flush_47 : decode cX6_flush 47 = .ok (.iload 4, 2) := by decide +kernel
theorem dX6_flush_49 : decode cX6_flush 49 = .ok (.invokevirtual 147, 3) := by decide +kernel
theorem dX6_flush_52 : decode cX6_flush 52 = .ok (.iadd, 1) := by decide +kernel
theorem dX6_flush_53 : decode cX6_flush 53 = .ok (.istore_n 2, 1) := by decide +kernel
theorem dX6_flush_54 : decode cX6_flush 54 = .ok (.iload_n 2, 1) := by decide +kernel
theorem dX6_flush_55 : decode cX6_flush 55 = .ok (.aload_n 0, 1) := by decide +kernel
theorem dX6_flush_56 : decode cX6_flush 56 = .ok (.iload 4, 2) := by decide +kernel
theorem dX6_flush_58 : decode cX6_flush 58 = .ok (.iconst 1, 1) := by decide +kernel
theorem dX6_flush_59 : decode cX6_flush 59 = .ok (.iadd, 1) := by decide +kernel
theorem dX6_flush_60 : decode cX6_flush 60 = .ok (.invokevirtual 147, 3) := by decide +kernel
theorem dX6_flush_63 : decode cX6_flush 63 = .ok (.iadd, 1) := by decide +kernel
theorem dX6_flush_64 : decode cX6_flush 64 = .ok (.istore_n 2, 1) := by decide +kernel
theorem dX6_flush_65 : decode cX6_flush 65 = .ok (.iinc 3 1, 3) := by decide +kernel
theorem dX6_flush_68 : decode cX6_flush 68 = .ok (.goto (-41), 3) := by decide +kernel
theorem dX6_flush_71 : decode cX6_flush 71 = .ok (.iload_n 2, 1) := by decide +kernel
theorem dX6_flush_72 : decode cX6_flush 72 = .ok (.ireturn, 1) := by decide +kernel
theorem dX6_empty_0 : decode cX6_empty 0 = .ok (.aload_n 0, 1) := by decide +kernel
theorem dX6_empty_1 : decode cX6_empty 1 = .ok (.aload_n 0, 1) := by decide +kernel
theorem dX6_empty_2 : decode cX6_empty 2 = .ok (.iload_n 1, 1) := by decide +kernel
theorem dX6_empty_3 : decode cX6_empty 3 = .ok (.invokevirtual 141, 3) := by decide +kernel
theorem dX6_empty_6 : decode cX6_empty 6 = .ok (.ifCond .eq 7, 3) := by decide +kernel
theorem dX6_empty_9 : decode cX6_empty 9 = .ok (.iconst 0, 1) := by decide +kernel
theorem dX6_empty_10 : decode cX6_empty 10 = .ok (.goto 4, 3) := by decide +kernel
theorem dX6_empty_13 : decode cX6_empty 13 = .ok (.iconst 1, 1) := by decide +kernel
theorem dX6_empty_14 : decode cX6_empty 14 = .ok (.invokevirtual 134, 3) := by decide +kernel
theorem dX6_empty_17 : decode cX6_empty 17 = .ok (.ifCond .eq 7, 3) := by decide +kernel
theorem dX6_empty_20 : decode cX6_empty 20 = .ok (.iconst 0, 1) := by decide +kernel
theorem dX6_empty_21 : decode cX6_empty 21 = .ok (.goto 8, 3) := by decide +kernel
theorem dX6_empty_24 : decode cX6_empty 24 = .ok (.aload_n 0, 1) := by decide +kernel
theorem dX6_empty_25 : decode cX6_empty 25 = .ok (.iload_n 1, 1) := by decide +kernel
theorem dX6_empty_26 : decode cX6_empty 26 = .ok (.invokevirtual 150, 3) := by decide +kernel
theorem dX6_empty_29 : decode cX6_empty 29 = .ok (.ireturn, 1) := by decide +kernel
theorem dX6_reap_0 : decode cX6_reap 0 = .ok (.aload_n 0, 1) := by decide +kernel
theorem dX6_reap_1 : decode cX6_reap 1 = .ok (.iconst 0, 1) := by decide +kernel
theorem dX6_reap_2 : decode cX6_reap 2 = .ok (.putfield 87, 3) := by decide +kernel
theorem dX6_reap_5 : decode cX6_reap 5 = .ok (.aload_n 0, 1) := by decide +kernel
theorem dX6_reap_6 : decode cX6_reap 6 = .ok (.invokevirtual 112, 3) := by decide +kernel
theorem dX6_reap_9 : decode cX6_reap 9 = .ok (.ireturn, 1) := by decide +kernel
theorem dX6_slabAt_0 : decode cX6_slabAt 0 = .ok (.iload_n 1, 1) := by decide +kernel
theorem dX6_slabAt_1 : decode cX6_slabAt 1 = .ok (.iconst 0, 1) := by decide +kernel
theorem dX6_slabAt_2 : decode cX6_slabAt 2 = .ok (.ldc 159, 2) := by decide +kernel
theorem dX6_slabAt_4 : decode cX6_slabAt 4 = .ok (.invokestatic 94, 3) := by decide +kernel
theorem dX6_slabAt_7 : decode cX6_slabAt 7 = .ok (.ifCond .eq 16, 3) := by decide +kernel
theorem dX6_slabAt_10 : decode cX6_slabAt 10 = .ok (.aload_n 0, 1) := by decide +kernel
theorem dX6_slabAt_11 : decode cX6_slabAt 11 = .ok (.getfield 13, 3) := by decide +kernel
theorem dX6_slabAt_14 : decode cX6_slabAt 14 = .ok (.iload_n 1, 1) := by decide +kernel
theorem dX6_slabAt_15 : decode cX6_slabAt 15 = .ok (.sipush 1024, 3) := by decide +kernel
theorem dX6_slabAt_18 : decode cX6_slabAt 18 = .ok (.idiv, 1) := by decide +kernel
theorem dX6_slabAt_19 : decode cX6_slabAt 19 = .ok (.iaload, 1) := by decide +kernel
theorem dX6_slabAt_20 : decode cX6_slabAt 20 = .ok (.goto 4, 3) := by decide +kernel
theorem dX6_slabAt_23 : decode cX6_slabAt 23 = .ok (.iconst (-1), 1) := by decide +kernel
theorem dX6_slabAt_24 : decode cX6_slabAt 24 = .ok (.ireturn, 1) := by decide +kernel
theorem dX6_cacheOf_0 : decode cX6_cacheOf 0 = .ok (.aload_n 0, 1) := by decide +kernel
theorem dX6_cacheOf_1 : decode cX6_cacheOf 1 = .ok (.iconst 0, 1) := by decide +kernel
theorem dX6_cacheOf_2 : decode cX6_cacheOf 2 = .ok (.putfield 87, 3) := by decide +kernel
theorem dX6_cacheOf_5 : decode cX6_cacheOf 5 = .ok (.aload_n 0, 1) := by decide +kernel
theorem dX6_cacheOf_6 : decode cX6_cacheOf 6 = .ok (.iload_n 1, 1) := by decide +kernel
theorem dX6_cacheOf_7 : decode cX6_cacheOf 7 = .ok (.invokevirtual 166, 3) := by decide +kernel
theorem dX6_cacheOf_10 : decode cX6_cacheOf 10 = .ok (.istore_n 2, 1) := by decide +kernel
theorem dX6_cacheOf_11 : decode cX6_cacheOf 11 = .ok (.iload_n 2, 1) := by decide +kernel
theorem dX6_cacheOf_12 : decode cX6_cacheOf 12 = .ok (.ifCond .ge 7, 3) := by decide +kernel
theorem dX6_cacheOf_15 : decode cX6_cacheOf 15 = .ok (.iconst (-1), 1) := by decide +kernel
theorem dX6_cacheOf_16 : decode cX6_cacheOf 16 = .ok (.goto 9, 3) := by decide +kernel
theorem dX6_cacheOf_19 : decode cX6_cacheOf 19 = .ok (.aload_n 0, 1) := by decide +kernel
theorem dX6_cacheOf_20 : decode cX6_cacheOf 20 = .ok (.getfield 47, 3) := by decide +kernel
theorem dX6_cacheOf_23 : decode cX6_cacheOf 23 = .ok (.iload_n 2, 1) := by decide +kernel
theorem dX6_cacheOf_24 : decode cX6_cacheOf 24 = .ok (.iaload, 1) := by decide +kernel
theorem dX6_cacheOf_25 : decode cX6_cacheOf 25 = .ok (.ireturn, 1) := by decide +kernel
theorem dX6_objectOf_0 : decode cX6_objectOf 0 = .ok (.aload_n 0, 1) := by decide +kernel
theorem dX6_objectOf_1 : decode cX6_objectOf 1 = .ok (.iconst 0, 1) := by decide +kernel
theorem dX6_objectOf_2 : decode cX6_objectOf 2 = .ok (.putfield 87, 3) := by decide +kernel
theorem dX6_objectOf_5 : decode cX6_objectOf 5 = .ok (.aload_n 0, 1) := by decide +kernel
theorem dX6_objectOf_6 : decode cX6_objectOf 6 = .ok (.iload_n 1, 1) := by decide +kernel
theorem dX6_objectOf_7 : decode cX6_objectOf 7 = .ok (.invokevirtual 166, 3) := by decide +kernel
theorem dX6_objectOf_10 : decode cX6_objectOf 10 = .ok (.istore_n 2, 1) := by decide +kernel
theorem dX6_objectOf_11 : decode cX6_objectOf 11 = .ok (.iload_n 2, 1) := by decide +kernel
theorem dX6_objectOf_12 : decode cX6_objectOf 12 = .ok (.ifCond .ge 5, 3) := by decide +kernel
theorem dX6_objectOf_15 : decode cX6_objectOf 15 = .ok (.iconst (-1), 1) := by decide +kernel
theorem dX6_objectOf_16 : decode cX6_objectOf 16 = .ok (.ireturn, 1) := by decide +kernel
theorem dX6_objectOf_17 : decode cX6_objectOf 17 = .ok (.aload_n 0, 1) := by decide +kernel
theorem dX6_objectOf_18 : decode cX6_objectOf 18 = .ok (.getfield 47, 3) := by decide +kernel
theorem dX6_objectOf_21 : decode cX6_objectOf 21 = .ok (.iload_n 2, 1) := by decide +kernel
theorem dX6_objectOf_22 : decode cX6_objectOf 22 = .ok (.iaload, 1) := by decide +kernel
theorem dX6_objectOf_23 : decode cX6_objectOf 23 = .ok (.istore_n 3, 1) := by decide +kernel
theorem dX6_objectOf_24 : decode cX6_objectOf 24 = .ok (.iconst 0, 1) := by decide +kernel
theorem dX6_objectOf_25 : decode cX6_objectOf 25 = .ok (.istore 4, 2) := by decide +kernel
theorem dX6_objectOf_27 : decode cX6_objectOf 27 = .ok (.iload 4, 2) := by decide +kernel
theorem dX6_objectOf_29 : decode cX6_objectOf 29 = .ok (.aload_n 0, 1) := by decide +kernel
theorem dX6_objectOf_30 : decode cX6_objectOf 30 = .ok (.getfield 35, 3) := by decide +kernel
theorem dX6_objectOf_33 : decode cX6_objectOf 33 = .ok (.iload_n 3, 1) := by decide +kernel
theorem dX6_objectOf_34 : decode cX6_objectOf 34 = .ok (.iaload, 1) := by decide +kernel
theorem dX6_objectOf_35 : decode cX6_objectOf 35 = .ok (.if_icmp .ge 58, 3) := by decide +kernel
theorem dX6_objectOf_38 : decode cX6_objectOf 38 = .ok (.bipush 8, 2) := by decide +kernel
theorem dX6_objectOf_40 : decode cX6_objectOf 40 = .ok (.aload_n 0, 1) := by decide +kernel
theorem dX6_objectOf_41 : decode cX6_objectOf 41 = .ok (.iload_n 2, 1) := by decide +kernel
theorem dX6_objectOf_42 : decode cX6_objectOf 42 = .ok (.iload 4, 2) := by decide +kernel
theorem dX6_objectOf_44 : decode cX6_objectOf 44 = .ok (.invokevirtual 116, 3) := by decide +kernel
theorem dX6_objectOf_47 : decode cX6_objectOf 47 = .ok (.imul, 1) := by decide +kernel
theorem dX6_objectOf_48 : decode cX6_objectOf 48 = .ok (.istore 5, 2) := by decide +kernel
theorem dX6_objectOf_50 : decode cX6_objectOf 50 = .ok (.aload_n 0, 1) := by decide +kernel
theorem dX6_objectOf_51 : decode cX6_objectOf 51 = .ok (.getfield 60, 3) := by decide +kernel
theorem dX6_objectOf_54 : decode cX6_objectOf 54 = .ok (.iload 5, 2) := by decide +kernel
theorem dX6_objectOf_56 : decode cX6_objectOf 56 = .ok (.bipush 8, 2) := by decide +kernel
theorem dX6_objectOf_58 : decode cX6_objectOf 58 = .ok (.idiv, 1) := by decide +kernel
theorem dX6_objectOf_59 : decode cX6_objectOf 59 = .ok (.iaload, 1) := by decide +kernel
theorem dX6_objectOf_60 : decode cX6_objectOf 60 = .ok (.iconst 2, 1) := by decide +kernel
theorem dX6_objectOf_61 : decode cX6_objectOf 61 = .ok (.if_icmp .ne 26, 3) := by decide +kernel
theorem dX6_objectOf_64 : decode cX6_objectOf 64 = .ok (.iload_n 1, 1) := by decide +kernel
theorem dX6_objectOf_65 : decode cX6_objectOf 65 = .ok (.iload 5, 2) := by decide +kernel
theorem dX6_objectOf_67 : decode cX6_objectOf 67 = .ok (.iload 5, 2) := by decide +kernel
theorem dX6_objectOf_69 : decode cX6_objectOf 69 = .ok (.aload_n 0, 1) := by decide +kernel
theorem dX6_objectOf_70 : decode cX6_objectOf 70 = .ok (.getfield 20, 3) := by decide +kernel
theorem dX6_objectOf_73 : decode cX6_objectOf 73 = .ok (.iload_n 3, 1) := by decide +kernel
theorem dX6_objectOf_74 : decode cX6_objectOf 74 = .ok (.iaload, 1) := by decide +kernel
theorem dX6_objectOf_75 : decode cX6_objectOf 75 = .ok (.iadd, 1) := by decide +kernel
theorem dX6_objectOf_76 : decode cX6_objectOf 76 = .ok (.iconst 1, 1) := by decide +kernel
theorem dX6_objectOf_77 : decode cX6_objectOf 77 = .ok (.isub, 1) := by decide +kernel
theorem dX6_objectOf_78 : decode cX6_objectOf 78 = .ok (.invokestatic 94, 3) := by decide +kernel
theorem dX6_objectOf_81 : decode cX6_objectOf 81 = .ok (.ifCond .eq 6, 3) := by decide +kernel
theorem dX6_objectOf_84 : decode cX6_objectOf 84 = .ok (.iload 5, 2) := by decide +kernel
theorem dX6_objectOf_86 : decode cX6_objectOf 86 = .ok (.ireturn, 1) := by decide +kernel
theorem dX6_objectOf_87 : decode cX6_objectOf 87 = .ok (.iinc 4 1, 3) := by decide +kernel
theorem dX6_objectOf_90 : decode cX6_objectOf 90 = .ok (.goto (-63), 3) := by decide +kernel
theorem dX6_objectOf_93 : decode cX6_objectOf 93 = .ok (.iconst (-1), 1) := by decide +kernel
theorem dX6_objectOf_94 : decode cX6_objectOf 94 = .ok (.ireturn, 1) := by decide +kernel
theorem dX6_about_0 : decode cX6_about 0 = .ok (.aload_n 0, 1) := by decide +kernel
theorem dX6_about_1 : decode cX6_about 1 = .ok (.aload_n 0, 1) := by decide +kernel
theorem dX6_about_2 : decode cX6_about 2 = .ok (.iload_n 1, 1) := by decide +kernel
theorem dX6_about_3 : decode cX6_about 3 = .ok (.invokevirtual 141, 3) := by decide +kernel
theorem dX6_about_6 : decode cX6_about 6 = .ok (.ifCond .ne 7, 3) := by decide +kernel
theorem dX6_about_9 : decode cX6_about 9 = .ok (.iconst 1, 1) := by decide +kernel
theorem dX6_about_10 : decode cX6_about 10 = .ok (.goto 18, 3) := by decide +kernel
theorem dX6_about_13 : decode cX6_about 13 = .ok (.iload_n 2, 1) := by decide +kernel
theorem dX6_about_14 : decode cX6_about 14 = .ok (.iconst 0, 1) := by decide +kernel
theorem dX6_about_15 : decode cX6_about 15 = .ok (.bipush 7, 2) := by decide +kernel
theorem dX6_about_17 : decode cX6_about 17 = .ok (.invokestatic 94, 3) := by decide +kernel
theorem dX6_about_20 : decode cX6_about 20 = .ok (.ifCond .ne 7, 3) := by decide +kernel
theorem dX6_about_23 : decode cX6_about 23 = .ok (.iconst 2, 1) := by decide +kernel
theorem dX6_about_24 : decode cX6_about 24 = .ok (.goto 4, 3) := by decide +kernel
theorem dX6_about_27 : decode cX6_about 27 = .ok (.iconst 0, 1) := by decide +kernel
theorem dX6_about_28 : decode cX6_about 28 = .ok (.invokevirtual 134, 3) := by decide +kernel
theorem dX6_about_31 : decode cX6_about 31 = .ok (.ifCond .eq 5, 3) := by decide +kernel
theorem dX6_about_34 : decode cX6_about 34 = .ok (.iconst 0, 1) := by decide +kernel
theorem dX6_about_35 : decode cX6_about 35 = .ok (.ireturn, 1) := by decide +kernel
theorem dX6_about_36 : decode cX6_about 36 = .ok (.iload_n 2, 1) := by decide +kernel
theorem dX6_about_37 : decode cX6_about 37 = .ok (.iconst 4, 1) := by decide +kernel
theorem dX6_about_38 : decode cX6_about 38 = .ok (.if_icmp .ge 51, 3) := by decide +kernel
theorem dX6_about_41 : decode cX6_about 41 = .ok (.iload_n 2, 1) := by decide +kernel
theorem dX6_about_42 : decode cX6_about 42 = .ok (.ifCond .ne 12, 3) := by decide +kernel
theorem dX6_about_45 : decode cX6_about 45 = .ok (.aload_n 0, 1) := by decide +kernel
theorem dX6_about_46 : decode cX6_about 46 = .ok (.getfield 32, 3) := by decide +kernel
theorem dX6_about_49 : decode cX6_about 49 = .ok (.iload_n 1, 1) := by decide +kernel
theorem dX6_about_50 : decode cX6_about 50 = .ok (.iaload, 1) := by decide +kernel
theorem dX6_about_51 : decode cX6_about 51 = .ok (.goto 37, 3) := by decide +kernel
theorem dX6_about_54 : decode cX6_about 54 = .ok (.iload_n 2, 1) := by decide +kernel
theorem dX6_about_55 : decode cX6_about 55 = .ok (.iconst 1, 1) := by decide +kernel
theorem dX6_about_56 : decode cX6_about 56 = .ok (.if_icmp .ne 12, 3) := by decide +kernel
theorem dX6_about_59 : decode cX6_about 59 = .ok (.aload_n 0, 1) := by decide +kernel
theorem dX6_about_60 : decode cX6_about 60 = .ok (.getfield 35, 3) := by decide +kernel
theorem dX6_about_63 : decode cX6_about 63 = .ok (.iload_n 1, 1) := by decide +kernel
theorem dX6_about_64 : decode cX6_about 64 = .ok (.iaload, 1) := by decide +kernel
theorem dX6_about_65 : decode cX6_about 65 = .ok (.goto 23, 3) := by decide +kernel
theorem dX6_about_68 : decode cX6_about 68 = .ok (.iload_n 2, 1) := by decide +kernel
theorem dX6_about_69 : decode cX6_about 69 = .ok (.iconst 2, 1) := by decide +kernel
theorem dX6_about_70 : decode cX6_about 70 = .ok (.if_icmp .ne 12, 3) := by decide +kernel
theorem dX6_about_73 : decode cX6_about 73 = .ok (.aload_n 0, 1) := by decide +kernel
theorem dX6_about_74 : decode cX6_about 74 = .ok (.getfield 38, 3) := by decide +kernel
theorem dX6_about_77 : decode cX6_about 77 = .ok (.iload_n 1, 1) := by decide +kernel
theorem dX6_about_78 : decode cX6_about 78 = .ok (.iaload, 1) := by decide +kernel
theorem dX6_about_79 : decode cX6_about 79 = .ok (.goto 9, 3) := by decide +kernel
theorem dX6_about_82 : decode cX6_about 82 = .ok (.aload_n 0, 1) := by decide +kernel
theorem dX6_about_83 : decode cX6_about 83 = .ok (.getfield 41, 3) := by decide +kernel
theorem dX6_about_86 : decode cX6_about 86 = .ok (.iload_n 1, 1) := by decide +kernel
theorem dX6_about_87 : decode cX6_about 87 = .ok (.iaload, 1) := by decide +kernel
theorem dX6_about_88 : decode cX6_about 88 = .ok (.ireturn, 1) := by decide +kernel
theorem dX6_about_89 : decode cX6_about 89 = .ok (.iconst 0, 1) := by decide +kernel
theorem dX6_about_90 : decode cX6_about 90 = .ok (.istore_n 3, 1) := by decide +kernel
theorem dX6_about_91 : decode cX6_about 91 = .ok (.iload_n 2, 1) := by decide +kernel
theorem dX6_about_92 : decode cX6_about 92 = .ok (.bipush 6, 2) := by decide +kernel
theorem dX6_about_94 : decode cX6_about 94 = .ok (.if_icmp .ne 58, 3) := by decide +kernel
theorem dX6_about_97 : decode cX6_about 97 = .ok (.iconst 4, 1) := by decide +kernel
theorem dX6_about_98 : decode cX6_about 98 = .ok (.aload_n 0, 1) := by decide +kernel
theorem dX6_about_99 : decode cX6_about 99 = .ok (.getfield 81, 3) := by decide +kernel
theorem dX6_about_102 : decode cX6_about 102 = .ok (.iload_n 1, 1) := by decide +kernel
theorem dX6_about_103 : decode cX6_about 103 = .ok (.iaload, 1) := by decide +kernel
theorem dX6_about_104 : decode cX6_about 104 = .ok (.imul, 1) := by decide +kernel
theorem dX6_about_105 : decode cX6_about 105 = .ok (.istore_n 3, 1) := by decide +kernel
theorem dX6_about_106 : decode cX6_about 106 = .ok (.iconst 0, 1) := by decide +kernel
theorem dX6_about_107 : decode cX6_about 107 = .ok (.istore 4, 2) := by decide +kernel
theorem dX6_about_109 : decode cX6_about 109 = .ok (.iload 4, 2) := by decide +kernel
theorem dX6_about_111 : decode cX6_about 111 = .ok (.iconst 4, 1) := by decide +kernel
theorem dX6_about_112 : decode cX6_about 112 = .ok (.if_icmp .ge 40, 3) := by decide +kernel
theorem dX6_about_115 : decode cX6_about 115 = .ok (.iconst 2, 1) := by decide +kernel
theorem dX6_about_116 : decode cX6_about 116 = .ok (.bipush 8, 2) := by decide +kernel
theorem dX6_about_118 : decode cX6_about 118 = .ok (.iload 4, 2) := by decide +kernel
theorem dX6_about_120 : decode cX6_about 120 = .ok (.imul, 1) := by decide +kernel
theorem dX6_about_121 : decode cX6_about 121 = .ok (.iload_n 1, 1) := by decide +kernel
theorem dX6_about_122 : decode cX6_about 122 = .ok (.iadd, 1) := by decide +kernel
theorem dX6_about_123 : decode cX6_about 123 = .ok (.imul, 1) := by decide +kernel
theorem dX6_about_124 : decode cX6_about 124 = .ok (.istore 5, 2) := by decide +kernel
theorem dX6_about_126 : decode cX6_about 126 = .ok (.iload_n 3, 1) := by decide +kernel
theorem dX6_about_127 : decode cX6_about 127 = .ok (.aload_n 0, 1) := by decide +kernel
theorem dX6_about_128 : decode cX6_about 128 = .ok (.getfield 75, 3) := by decide +kernel
theorem dX6_about_131 : decode cX6_about 131 = .ok (.iload 5, 2) := by decide +kernel
theorem dX6_about_133 : decode cX6_about 133 = .ok (.iaload, 1) := by decide +kernel
theorem dX6_about_134 : decode cX6_about 134 = .ok (.iadd, 1) := by decide +kernel
theorem dX6_about_135 : decode cX6_about 135 = .ok (.aload_n 0, 1) := by decide +kernel
theorem dX6_about_136 : decode cX6_about 136 = .ok (.getfield 75, 3) := by decide +kernel
theorem dX6_about_139 : decode cX6_about 139 = .ok (.iload 5, 2) := by decide +kernel
theorem dX6_about_141 : decode cX6_about 141 = .ok (.iconst 1, 1) := by decide +kernel
theorem dX6_about_142 : decode cX6_about 142 = .ok (.iadd, 1) := by decide +kernel
theorem dX6_about_143 : decode cX6_about 143 = .ok (.iaload, 1) := by decide +kernel
theorem dX6_about_144 : decode cX6_about 144 = .ok (.iadd, 1) := by decide +kernel
theorem dX6_about_145 : decode cX6_about 145 = .ok (.istore_n 3, 1) := by decide +kernel
theorem dX6_about_146 : decode cX6_about 146 = .ok (.iinc 4 1, 3) := by decide +kernel
theorem dX6_about_149 : decode cX6_about 149 = .ok (.goto (-40), 3) := by decide +kernel
theorem dX6_about_152 : decode cX6_about 152 = .ok (.aload_n 0, 1) := by decide +kernel
theorem dX6_about_153 : decode cX6_about 153 = .ok (.getfield 69, 3) := by decide +kernel
theorem dX6_about_156 : decode cX6_about 156 = .ok (.iconst 3, 1) := by decide +kernel
theorem dX6_about_157 : decode cX6_about 157 = .ok (.iload_n 1, 1) := by decide +kernel
theorem dX6_about_158 : decode cX6_about 158 = .ok (.imul, 1) := by decide +kernel
theorem dX6_about_159 : decode cX6_about 159 = .ok (.iaload, 1) := by decide +kernel
theorem dX6_about_160 : decode cX6_about 160 = .ok (.aload_n 0, 1) := by decide +kernel
theorem dX6_about_161 : decode cX6_about 161 = .ok (.getfield 69, 3) := by decide +kernel
theorem dX6_about_164 : decode cX6_about 164 = .ok (.iconst 3, 1) := by decide +kernel
theorem dX6_about_165 : decode cX6_about 165 = .ok (.iload_n 1, 1) := by decide +kernel
theorem dX6_about_166 : decode cX6_about 166 = .ok (.imul, 1) := by decide +kernel
theorem dX6_about_167 : decode cX6_about 167 = .ok (.iconst 1, 1) := by decide +kernel
theorem dX6_about_168 : decode cX6_about 168 = .ok (.iadd, 1) := by decide +kernel
theorem dX6_about_169 : decode cX6_about 169 = .ok (.iaload, 1) := by decide +kernel
theorem dX6_about_170 : decode cX6_about 170 = .ok (.iadd, 1) := by decide +kernel
theorem dX6_about_171 : decode cX6_about 171 = .ok (.aload_n 0, 1) := by decide +kernel
theorem dX6_about_172 : decode cX6_about 172 = .ok (.getfield 69, 3) := by decide +kernel
theorem dX6_about_175 : decode cX6_about 175 = .ok (.iconst 3, 1) := by decide +kernel
theorem dX6_about_176 : decode cX6_about 176 = .ok (.iload_n 1, 1) := by decide +kernel
theorem dX6_about_177 : decode cX6_about 177 = .ok (.imul, 1) := by decide +kernel
theorem dX6_about_178 : decode cX6_about 178 = .ok (.iconst 2, 1) := by decide +kernel
theorem dX6_about_179 : decode cX6_about 179 = .ok (.iadd, 1) := by decide +kernel
theorem dX6_about_180 : decode cX6_about 180 = .ok (.iaload, 1) := by decide +kernel
theorem dX6_about_181 : decode cX6_about 181 = .ok (.iadd, 1) := by decide +kernel
theorem dX6_about_182 : decode cX6_about 182 = .ok (.istore 4, 2) := by decide +kernel
theorem dX6_about_184 : decode cX6_about 184 = .ok (.iload_n 2, 1) := by decide +kernel
theorem dX6_about_185 : decode cX6_about 185 = .ok (.iconst 4, 1) := by decide +kernel
theorem dX6_about_186 : decode cX6_about 186 = .ok (.if_icmp .ne 8, 3) := by decide +kernel
theorem dX6_about_189 : decode cX6_about 189 = .ok (.iload 4, 2) := by decide +kernel
theorem dX6_about_191 : decode cX6_about 191 = .ok (.goto 32, 3) := by decide +kernel
theorem dX6_about_194 : decode cX6_about 194 = .ok (.iload_n 2, 1) := by decide +kernel
theorem dX6_about_195 : decode cX6_about 195 = .ok (.iconst 5, 1) := by decide +kernel
theorem dX6_about_196 : decode cX6_about 196 = .ok (.if_icmp .ne 11, 3) := by decide +kernel
theorem dX6_about_199 : decode cX6_about 199 = .ok (.aload_n 0, 1) := by decide +kernel
theorem dX6_about_200 : decode cX6_about 200 = .ok (.iload_n 1, 1) := by decide +kernel
theorem dX6_about_201 : decode cX6_about 201 = .ok (.invokevirtual 144, 3) := by decide +kernel
theorem dX6_about_204 : decode cX6_about 204 = .ok (.goto 19, 3) := by decide +kernel
theorem dX6_about_207 : decode cX6_about 207 = .ok (.iload_n 2, 1) := by decide +kernel
theorem dX6_about_208 : decode cX6_about 208 = .ok (.bipush 6, 2) := by decide +kernel
theorem dX6_about_210 : decode cX6_about 210 = .ok (.if_icmp .ne 7, 3) := by decide +kernel
theorem dX6_about_213 : decode cX6_about 213 = .ok (.iload_n 3, 1) := by decide +kernel
theorem dX6_about_214 : decode cX6_about 214 = .ok (.goto 9, 3) := by decide +kernel
theorem dX6_about_217 : decode cX6_about 217 = .ok (.aload_n 0, 1) := by decide +kernel
theorem dX6_about_218 : decode cX6_about 218 = .ok (.getfield 44, 3) := by decide +kernel
theorem dX6_about_221 : decode cX6_about 221 = .ok (.iload_n 1, 1) := by decide +kernel
theorem dX6_about_222 : decode cX6_about 222 = .ok (.iaload, 1) := by decide +kernel
theorem dX6_about_223 : decode cX6_about 223 = .ok (.ireturn, 1) := by decide +kernel
theorem dX6_list_0 : decode cX6_list 0 = .ok (.aload_n 0, 1) := by decide +kernel
theorem dX6_list_1 : decode cX6_list 1 = .ok (.aload_n 0, 1) := by decide +kernel
theorem dX6_list_2 : decode cX6_list 2 = .ok (.iload_n 1, 1) := by decide +kernel
theorem dX6_list_3 : decode cX6_list 3 = .ok (.invokevirtual 141, 3) := by decide +kernel
theorem dX6_list_6 : decode cX6_list 6 = .ok (.ifCond .ne 7, 3) := by decide +kernel
theorem dX6_list_9 : decode cX6_list 9 = .ok (.iconst 1, 1) := by decide +kernel
theorem dX6_list_10 : decode cX6_list 10 = .ok (.goto 17, 3) := by decide +kernel
theorem dX6_list_13 : decode cX6_list 13 = .ok (.iload_n 2, 1) := by decide +kernel
theorem dX6_list_14 : decode cX6_list 14 = .ok (.iconst 0, 1) := by decide +kernel
theorem dX6_list_15 : decode cX6_list 15 = .ok (.iconst 2, 1) := by decide +kernel
theorem dX6_list_16 : decode cX6_list 16 = .ok (.invokestatic 94, 3) := by decide +kernel
theorem dX6_list_19 : decode cX6_list 19 = .ok (.ifCond .ne 7, 3) := by decide +kernel
theorem dX6_list_22 : decode cX6_list 22 = .ok (.iconst 2, 1) := by decide +kernel
theorem dX6_list_23 : decode cX6_list 23 = .ok (.goto 4, 3) := by decide +kernel
theorem dX6_list_26 : decode cX6_list 26 = .ok (.iconst 0, 1) := by decide +kernel
theorem dX6_list_27 : decode cX6_list 27 = .ok (.invokevirtual 134, 3) := by decide +kernel
theorem dX6_list_30 : decode cX6_list 30 = .ok (.ifCond .eq 5, 3) := by decide +kernel
theorem dX6_list_33 : decode cX6_list 33 = .ok (.iconst 0, 1) := by decide +kernel
theorem dX6_list_34 : decode cX6_list 34 = .ok (.ireturn, 1) := by decide +kernel
theorem dX6_list_35 : decode cX6_list 35 = .ok (.iconst 3, 1) := by decide +kernel
theorem dX6_list_36 : decode cX6_list 36 = .ok (.iload_n 1, 1) := by decide +kernel
theorem dX6_list_37 : decode cX6_list 37 = .ok (.imul, 1) := by decide +kernel
theorem dX6_list_38 : decode cX6_list 38 = .ok (.iload_n 2, 1) := by decide +kernel
theorem dX6_list_39 : decode cX6_list 39 = .ok (.iadd, 1) := by decide +kernel
theorem dX6_list_40 : decode cX6_list 40 = .ok (.istore 4, 2) := by decide +kernel
theorem dX6_list_42 : decode cX6_list 42 = .ok (.iload_n 3, 1) := by decide +kernel
theorem dX6_list_43 : decode cX6_list 43 = .ok (.iconst 0, 1) := by decide +kernel
theorem dX6_list_44 : decode cX6_list 44 = .ok (.aload_n 0, 1) := by decide +kernel
theorem dX6_list_45 : decode cX6_list 45 = .ok (.getfield 69, 3) := by decide +kernel
theorem dX6_list_48 : decode cX6_list 48 = .ok (.iload 4, 2) := by decide +kernel
theorem dX6_list_50 : decode cX6_list 50 = .ok (.iaload, 1) := by decide +kernel
theorem dX6_list_51 : decode cX6_list 51 = .ok (.iconst 1, 1) := by decide +kernel
theorem dX6_list_52 : decode cX6_list 52 = .ok (.isub, 1) := by decide +kernel
theorem dX6_list_53 : decode cX6_list 53 = .ok (.invokestatic 94, 3) := by decide +kernel
theorem dX6_list_56 : decode cX6_list 56 = .ok (.ifCond .eq 23, 3) := by decide +kernel
theorem dX6_list_59 : decode cX6_list 59 = .ok (.sipush 1024, 3) := by decide +kernel
theorem dX6_list_62 : decode cX6_list 62 = .ok (.aload_n 0, 1) := by decide +kernel
theorem dX6_list_63 : decode cX6_list 63 = .ok (.getfield 72, 3) := by decide +kernel
theorem dX6_list_66 : decode cX6_list 66 = .ok (.sipush 256, 3) := by decide +kernel
theorem dX6_list_69 : decode cX6_list 69 = .ok (.iload 4, 2) := by decide +kernel
theorem dX6_list_71 : decode cX6_list 71 = .ok (.imul, 1) := by decide +kernel
theorem dX6_list_72 : decode cX6_list 72 = .ok (.iload_n 3, 1) := by decide +kernel
theorem dX6_list_73 : decode cX6_list 73 = .ok (.iadd, 1) := by decide +kernel
theorem dX6_list_74 : decode cX6_list 74 = .ok (.iaload, 1) := by decide +kernel
theorem dX6_list_75 : decode cX6_list 75 = .ok (.imul, 1) := by decide +kernel
theorem dX6_list_76 : decode cX6_list 76 = .ok (.goto 4, 3) := by decide +kernel
theorem dX6_list_79 : decode cX6_list 79 = .ok (.iconst (-1), 1) := by decide +kernel
theorem dX6_list_80 : decode cX6_list 80 = .ok (.ireturn, 1) := by decide +kernel
theorem dX6_slab_0 : decode cX6_slab 0 = .ok (.aload_n 0, 1) := by decide +kernel
theorem dX6_slab_1 : decode cX6_slab 1 = .ok (.iload_n 1, 1) := by decide +kernel
theorem dX6_slab_2 : decode cX6_slab 2 = .ok (.invokevirtual 166, 3) := by decide +kernel
theorem dX6_slab_5 : decode cX6_slab 5 = .ok (.istore_n 3, 1) := by decide +kernel
theorem dX6_slab_6 : decode cX6_slab 6 = .ok (.aload_n 0, 1) := by decide +kernel
theorem dX6_slab_7 : decode cX6_slab 7 = .ok (.iload_n 3, 1) := by decide +kernel
theorem dX6_slab_8 : decode cX6_slab 8 = .ok (.ifCond .ge 7, 3) := by decide +kernel
theorem dX6_slab_11 : decode cX6_slab 11 = .ok (.iconst 1, 1) := by decide +kernel
theorem dX6_slab_12 : decode cX6_slab 12 = .ok (.goto 17, 3) := by decide +kernel
theorem dX6_slab_15 : decode cX6_slab 15 = .ok (.iload_n 2, 1) := by decide +kernel
theorem dX6_slab_16 : decode cX6_slab 16 = .ok (.iconst 0, 1) := by decide +kernel
theorem dX6_slab_17 : decode cX6_slab 17 = .ok (.iconst 3, 1) := by decide +kernel
theorem dX6_slab_18 : decode cX6_slab 18 = .ok (.invokestatic 94, 3) := by decide +kernel
theorem dX6_slab_21 : decode cX6_slab 21 = .ok (.ifCond .ne 7, 3) := by decide +kernel
theorem dX6_slab_24 : decode cX6_slab 24 = .ok (.iconst 2, 1) := by decide +kernel
theorem dX6_slab_25 : decode cX6_slab 25 = .ok (.goto 4, 3) := by decide +kernel
theorem dX6_slab_28 : decode cX6_slab 28 = .ok (.iconst 0, 1) := by decide +kernel
theorem dX6_slab_29 : decode cX6_slab 29 = .ok (.invokevirtual 134, 3) := by decide +kernel
theorem dX6_slab_32 : decode cX6_slab 32 = .ok (.ifCond .eq 5, 3) := by decide +kernel
theorem dX6_slab_35 : decode cX6_slab 35 = .ok (.iconst 0, 1) := by decide +kernel
theorem dX6_slab_36 : decode cX6_slab 36 = .ok (.ireturn, 1) := by decide +kernel
theorem dX6_slab_37 : decode cX6_slab 37 = .ok (.iload_n 2, 1) := by decide +kernel
theorem dX6_slab_38 : decode cX6_slab 38 = .ok (.iconst 3, 1) := by decide +kernel
theorem dX6_slab_39 : decode cX6_slab 39 = .ok (.if_icmp .ge 36, 3) := by decide +kernel
theorem dX6_slab_42 : decode cX6_slab 42 = .ok (.iload_n 2, 1) := by decide +kernel
theorem dX6_slab_43 : decode cX6_slab 43 = .ok (.ifCond .ne 11, 3) := by decide +kernel
theorem dX6_slab_46 : decode cX6_slab 46 = .ok (.sipush 1024, 3) := by decide +kernel
theorem dX6_slab_49 : decode cX6_slab 49 = .ok (.iload_n 3, 1) := by decide +kernel
theorem dX6_slab_50 : decode cX6_slab 50 = .ok (.imul, 1) := by decide +kernel
theorem dX6_slab_51 : decode cX6_slab 51 = .ok (.goto 23, 3) := by decide +kernel
theorem dX6_slab_54 : decode cX6_slab 54 = .ok (.iload_n 2, 1) := by decide +kernel
theorem dX6_slab_55 : decode cX6_slab 55 = .ok (.iconst 1, 1) := by decide +kernel
theorem dX6_slab_56 : decode cX6_slab 56 = .ok (.if_icmp .ne 12, 3) := by decide +kernel
theorem dX6_slab_59 : decode cX6_slab 59 = .ok (.aload_n 0, 1) := by decide +kernel
theorem dX6_slab_60 : decode cX6_slab 60 = .ok (.getfield 50, 3) := by decide +kernel
theorem dX6_slab_63 : decode cX6_slab 63 = .ok (.iload_n 3, 1) := by decide +kernel
theorem dX6_slab_64 : decode cX6_slab 64 = .ok (.iaload, 1) := by decide +kernel
theorem dX6_slab_65 : decode cX6_slab 65 = .ok (.goto 9, 3) := by decide +kernel
theorem dX6_slab_68 : decode cX6_slab 68 = .ok (.aload_n 0, 1) := by decide +kernel
theorem dX6_slab_69 : decode cX6_slab 69 = .ok (.getfield 53, 3) := by decide +kernel
theorem dX6_slab_72 : decode cX6_slab 72 = .ok (.iload_n 3, 1) := by decide +kernel
theorem dX6_slab_73 : decode cX6_slab 73 = .ok (.iaload, 1) := by decide +kernel
theorem dX6_slab_74 : decode cX6_slab 74 = .ok (.ireturn, 1) := by decide +kernel
theorem dX6_slab_75 : decode cX6_slab 75 = .ok (.iconst 0, 1) := by decide +kernel
theorem dX6_slab_76 : decode cX6_slab 76 = .ok (.istore 4, 2) := by decide +kernel
theorem dX6_slab_78 : decode cX6_slab 78 = .ok (.iload 4, 2) := by decide +kernel
theorem dX6_slab_80 : decode cX6_slab 80 = .ok (.aload_n 0, 1) := by decide +kernel
theorem dX6_slab_81 : decode cX6_slab 81 = .ok (.getfield 35, 3) := by decide +kernel
theorem dX6_slab_84 : decode cX6_slab 84 = .ok (.aload_n 0, 1) := by decide +kernel
theorem dX6_slab_85 : decode cX6_slab 85 = .ok (.getfield 47, 3) := by decide +kernel
theorem dX6_slab_88 : decode cX6_slab 88 = .ok (.iload_n 3, 1) := by decide +kernel
theorem dX6_slab_89 : decode cX6_slab 89 = .ok (.iaload, 1) := by decide +kernel
theorem dX6_slab_90 : decode cX6_slab 90 = .ok (.iaload, 1) := by decide +kernel
theorem dX6_slab_91 : decode cX6_slab 91 = .ok (.if_icmp .ge 25, 3) := by decide +kernel
theorem dX6_slab_94 : decode cX6_slab 94 = .ok (.aload_n 0, 1) := by decide +kernel
theorem dX6_slab_95 : decode cX6_slab 95 = .ok (.iload_n 3, 1) := by decide +kernel
theorem dX6_slab_96 : decode cX6_slab 96 = .ok (.iload 4, 2) := by decide +kernel
theorem dX6_slab_98 : decode cX6_slab 98 = .ok (.invokevirtual 116, 3) := by decide +kernel
theorem dX6_slab_101 : decode cX6_slab 101 = .ok (.aload_n 0, 1) := by decide +kernel
theorem dX6_slab_102 : decode cX6_slab 102 = .ok (.getfield 56, 3) := by decide +kernel
theorem dX6_slab_105 : decode cX6_slab 105 = .ok (.iload_n 3, 1) := by decide +kernel
theorem dX6_slab_106 : decode cX6_slab 106 = .ok (.iaload, 1) := by decide +kernel
theorem dX6_slab_107 : decode cX6_slab 107 = .ok (.if_icmp .eq 9, 3) := by decide +kernel
theorem dX6_slab_110 : decode cX6_slab 110 = .ok (.iinc 4 1, 3) := by decide +kernel
theorem dX6_slab_113 : decode cX6_slab 113 = .ok (.goto (-35), 3) := by decide +kernel
theorem dX6_slab_116 : decode cX6_slab 116 = .ok (.iload 4, 2) := by decide +kernel
theorem dX6_slab_118 : decode cX6_slab 118 = .ok (.aload_n 0, 1) := by decide +kernel
theorem dX6_slab_119 : decode cX6_slab 119 = .ok (.getfield 35, 3) := by decide +kernel
theorem dX6_slab_122 : decode cX6_slab 122 = .ok (.aload_n 0, 1) := by decide +kernel
theorem dX6_slab_123 : decode cX6_slab 123 = .ok (.getfield 47, 3) := by decide +kernel
theorem dX6_slab_126 : decode cX6_slab 126 = .ok (.iload_n 3, 1) := by decide +kernel
theorem dX6_slab_127 : decode cX6_slab 127 = .ok (.iaload, 1) := by decide +kernel
theorem dX6_slab_128 : decode cX6_slab 128 = .ok (.iaload, 1) := by decide +kernel
theorem dX6_slab_129 : decode cX6_slab 129 = .ok (.if_icmp .ge 8, 3) := by decide +kernel
theorem dX6_slab_132 : decode cX6_slab 132 = .ok (.iload 4, 2) := by decide +kernel
theorem dX6_slab_134 : decode cX6_slab 134 = .ok (.goto 4, 3) := by decide +kernel
theorem dX6_slab_137 : decode cX6_slab 137 = .ok (.iconst (-1), 1) := by decide +kernel
theorem dX6_slab_138 : decode cX6_slab 138 = .ok (.ireturn, 1) := by decide +kernel
theorem dX6_magazine_0 : decode cX6_magazine 0 = .ok (.aload_n 0, 1) := by decide +kernel
theorem dX6_magazine_1 : decode cX6_magazine 1 = .ok (.aload_n 0, 1) := by decide +kernel
theorem dX6_magazine_2 : decode cX6_magazine 2 = .ok (.iload_n 1, 1) := by decide +kernel
theorem dX6_magazine_3 : decode cX6_magazine 3 = .ok (.invokevirtual 141, 3) := by decide +kernel
theorem dX6_magazine_6 : decode cX6_magazine 6 = .ok (.ifCond .ne 7, 3) := by decide +kernel
theorem dX6_magazine_9 : decode cX6_magazine 9 = .ok (.iconst 1, 1) := by decide +kernel
theorem dX6_magazine_10 : decode cX6_magazine 10 = .ok (.goto 26, 3) := by decide +kernel
theorem dX6_magazine_13 : decode cX6_magazine 13 = .ok (.iload_n 2, 1) := by decide +kernel
theorem dX6_magazine_14 : decode cX6_magazine 14 = .ok (.iconst 0, 1) := by decide +kernel
theorem dX6_magazine_15 : decode cX6_magazine 15 = .ok (.iconst 3, 1) := by decide +kernel
theorem dX6_magazine_16 : decode cX6_magazine 16 = .ok (.invokestatic 94, 3) := by decide +kernel
theorem dX6_magazine_19 : decode cX6_magazine 19 = .ok (.ifCond .eq 12, 3) := by decide +kernel
theorem dX6_magazine_22 : decode cX6_magazine 22 = .ok (.iload_n 3, 1) := by decide +kernel
theorem dX6_magazine_23 : decode cX6_magazine 23 = .ok (.iconst 0, 1) := by decide +kernel
theorem dX6_magazine_24 : decode cX6_magazine 24 = .ok (.iconst 2, 1) := by decide +kernel
theorem dX6_magazine_25 : decode cX6_magazine 25 = .ok (.invokestatic 94, 3) := by decide +kernel
theorem dX6_magazine_28 : decode cX6_magazine 28 = .ok (.ifCond .ne 7, 3) := by decide +kernel
theorem dX6_magazine_31 : decode cX6_magazine 31 = .ok (.iconst 2, 1) := by decide +kernel
theorem dX6_magazine_32 : decode cX6_magazine 32 = .ok (.goto 4, 3) := by decide +kernel
theorem dX6_magazine_35 : decode cX6_magazine 35 = .ok (.iconst 0, 1) := by decide +kernel
theorem dX6_magazine_36 : decode cX6_magazine 36 = .ok (.invokevirtual 134, 3) := by decide +kernel
theorem dX6_magazine_39 : decode cX6_magazine 39 = .ok (.ifCond .eq 5, 3) := by decide +kernel
theorem dX6_magazine_42 : decode cX6_magazine 42 = .ok (.iconst 0, 1) := by decide +kernel
theorem dX6_magazine_43 : decode cX6_magazine 43 = .ok (.ireturn, 1) := by decide +kernel
theorem dX6_magazine_44 : decode cX6_magazine 44 = .ok (.iload_n 3, 1) := by decide +kernel
theorem dX6_magazine_45 : decode cX6_magazine 45 = .ok (.iconst 2, 1) := by decide +kernel
theorem dX6_magazine_46 : decode cX6_magazine 46 = .ok (.if_icmp .ne 12, 3) := by decide +kernel
theorem dX6_magazine_49 : decode cX6_magazine 49 = .ok (.aload_n 0, 1) := by decide +kernel
theorem dX6_magazine_50 : decode cX6_magazine 50 = .ok (.getfield 81, 3) := by decide +kernel
theorem dX6_magazine_53 : decode cX6_magazine 53 = .ok (.iload_n 1, 1) := by decide +kernel
theorem dX6_magazine_54 : decode cX6_magazine 54 = .ok (.iaload, 1) := by decide +kernel
theorem dX6_magazine_55 : decode cX6_magazine 55 = .ok (.goto 18, 3) := by decide +kernel
theorem dX6_magazine_58 : decode cX6_magazine 58 = .ok (.aload_n 0, 1) := by decide +kernel
theorem dX6_magazine_59 : decode cX6_magazine 59 = .ok (.getfield 75, 3) := by decide +kernel
theorem dX6_magazine_62 : decode cX6_magazine 62 = .ok (.iconst 2, 1) := by decide +kernel
theorem dX6_magazine_63 : decode cX6_magazine 63 = .ok (.bipush 8, 2) := by decide +kernel
theorem dX6_magazine_65 : decode cX6_magazine 65 = .ok (.iload_n 2, 1) := by decide +kernel
theorem dX6_magazine_66 : decode cX6_magazine 66 = .ok (.imul, 1) := by decide +kernel
theorem dX6_magazine_67 : decode cX6_magazine 67 = .ok (.iload_n 1, 1) := by decide +kernel
theorem dX6_magazine_68 : decode cX6_magazine 68 = .ok (.iadd, 1) := by decide +kernel
theorem dX6_magazine_69 : decode cX6_magazine 69 = .ok (.imul, 1) := by decide +kernel
theorem dX6_magazine_70 : decode cX6_magazine 70 = .ok (.iload_n 3, 1) := by decide +kernel
theorem dX6_magazine_71 : decode cX6_magazine 71 = .ok (.iadd, 1) := by decide +kernel
theorem dX6_magazine_72 : decode cX6_magazine 72 = .ok (.iaload, 1) := by decide +kernel
theorem dX6_magazine_73 : decode cX6_magazine 73 = .ok (.ireturn, 1) := by decide +kernel
theorem dX6_block_0 : decode cX6_block 0 = .ok (.aload_n 0, 1) := by decide +kernel
theorem dX6_block_1 : decode cX6_block 1 = .ok (.iload_n 1, 1) := by decide +kernel
theorem dX6_block_2 : decode cX6_block 2 = .ok (.iconst 0, 1) := by decide +kernel
theorem dX6_block_3 : decode cX6_block 3 = .ok (.bipush 6, 2) := by decide +kernel
theorem dX6_block_5 : decode cX6_block 5 = .ok (.invokestatic 94, 3) := by decide +kernel
theorem dX6_block_8 : decode cX6_block 8 = .ok (.ifCond .eq 7, 3) := by decide +kernel
theorem dX6_block_11 : decode cX6_block 11 = .ok (.iconst 0, 1) := by decide +kernel
theorem dX6_block_12 : decode cX6_block 12 = .ok (.goto 4, 3) := by decide +kernel
theorem dX6_block_15 : decode cX6_block 15 = .ok (.iconst 1, 1) := by decide +kernel
theorem dX6_block_16 : decode cX6_block 16 = .ok (.invokevirtual 134, 3) := by decide +kernel
theorem dX6_block_19 : decode cX6_block 19 = .ok (.ifCond .eq 5, 3) := by decide +kernel
theorem dX6_block_22 : decode cX6_block 22 = .ok (.iconst 0, 1) := by decide +kernel
theorem dX6_block_23 : decode cX6_block 23 = .ok (.ireturn, 1) := by decide +kernel
theorem dX6_block_24 : decode cX6_block 24 = .ok (.iconst 0, 1) := by decide +kernel
theorem dX6_block_25 : decode cX6_block 25 = .ok (.istore_n 3, 1) := by decide +kernel
theorem dX6_block_26 : decode cX6_block 26 = .ok (.iconst 0, 1) := by decide +kernel
theorem dX6_block_27 : decode cX6_block 27 = .ok (.istore 4, 2) := by decide +kernel
theorem dX6_block_29 : decode cX6_block 29 = .ok (.iload 4, 2) := by decide +kernel
theorem dX6_block_31 : decode cX6_block 31 = .ok (.sipush 256, 3) := by decide +kernel
theorem dX6_block_34 : decode cX6_block 34 = .ok (.if_icmp .ge 31, 3) := by decide +kernel
theorem dX6_block_37 : decode cX6_block 37 = .ok (.aload_n 0, 1) := by decide +kernel
theorem dX6_block_38 : decode cX6_block 38 = .ok (.getfield 7, 3) := by decide +kernel
theorem dX6_block_41 : decode cX6_block 41 = .ok (.iload 4, 2) := by decide +kernel
theorem dX6_block_43 : decode cX6_block 43 = .ok (.iaload, 1) := by decide +kernel
theorem dX6_block_44 : decode cX6_block 44 = .ok (.iload_n 1, 1) := by decide +kernel
theorem dX6_block_45 : decode cX6_block 45 = .ok (.if_icmp .ne 14, 3) := by decide +kernel
theorem dX6_block_48 : decode cX6_block 48 = .ok (.iload_n 3, 1) := by decide +kernel
theorem dX6_block_49 : decode cX6_block 49 = .ok (.iload_n 2, 1) := by decide +kernel
theorem dX6_block_50 : decode cX6_block 50 = .ok (.if_icmp .ne 6, 3) := by decide +kernel
theorem dX6_block_53 : decode cX6_block 53 = .ok (.iload 4, 2) := by decide +kernel
theorem dX6_block_55 : decode cX6_block 55 = .ok (.ireturn, 1) := by decide +kernel
theorem dX6_block_56 : decode cX6_block 56 = .ok (.iinc 3 1, 3) := by decide +kernel
theorem dX6_block_59 : decode cX6_block 59 = .ok (.iinc 4 1, 3) := by decide +kernel
theorem dX6_block_62 : decode cX6_block 62 = .ok (.goto (-33), 3) := by decide +kernel
theorem dX6_block_65 : decode cX6_block 65 = .ok (.iconst (-1), 1) := by decide +kernel
theorem dX6_block_66 : decode cX6_block 66 = .ok (.ireturn, 1) := by decide +kernel
theorem dX6_pages_0 : decode cX6_pages 0 = .ok (.aload_n 0, 1) := by decide +kernel
theorem dX6_pages_1 : decode cX6_pages 1 = .ok (.iconst 0, 1) := by decide +kernel
theorem dX6_pages_2 : decode cX6_pages 2 = .ok (.putfield 87, 3) := by decide +kernel
theorem dX6_pages_5 : decode cX6_pages 5 = .ok (.iconst 0, 1) := by decide +kernel
theorem dX6_pages_6 : decode cX6_pages 6 = .ok (.istore_n 2, 1) := by decide +kernel
theorem dX6_pages_7 : decode cX6_pages 7 = .ok (.iconst 0, 1) := by decide +kernel
theorem dX6_pages_8 : decode cX6_pages 8 = .ok (.istore_n 3, 1) := by decide +kernel
theorem dX6_pages_9 : decode cX6_pages 9 = .ok (.iload_n 3, 1) := by decide +kernel
theorem dX6_pages_10 : decode cX6_pages 10 = .ok (.sipush 256, 3) := by decide +kernel
theorem dX6_pages_13 : decode cX6_pages 13 = .ok (.if_icmp .ge 26, 3) := by decide +kernel
theorem dX6_pages_16 : decode cX6_pages 16 = .ok (.aload_n 0, 1) := by decide +kernel
theorem dX6_pages_17 : decode cX6_pages 17 = .ok (.getfield 13, 3) := by decide +kernel
theorem dX6_pages_20 : decode cX6_pages 20 = .ok (.iload_n 3, 1) := by decide +kernel
theorem dX6_pages_21 : decode cX6_pages 21 = .ok (.iaload, 1) := by decide +kernel
theorem dX6_pages_22 : decode cX6_pages 22 = .ok (.ifCond .lt 9, 3) := by decide +kernel
theorem dX6_pages_25 : decode cX6_pages 25 = .ok (.iload_n 2, 1) := by decide +kernel
theorem dX6_pages_26 : decode cX6_pages 26 = .ok (.iconst 1, 1) := by decide +kernel
theorem dX6_pages_27 : decode cX6_pages 27 = .ok (.iadd, 1) := by decide +kernel
theorem dX6_pages_28 : decode cX6_pages 28 = .ok (.goto 4, 3) := by decide +kernel
theorem dX6_pages_31 : decode cX6_pages 31 = .ok (.iload_n 2, 1) := by decide +kernel
theorem dX6_pages_32 : decode cX6_pages 32 = .ok (.istore_n 2, 1) := by decide +kernel
theorem dX6_pages_33 : decode cX6_pages 33 = .ok (.iinc 3 1, 3) := by decide +kernel
theorem dX6_pages_36 : decode cX6_pages 36 = .ok (.goto (-27), 3) := by decide +kernel
theorem dX6_pages_39 : decode cX6_pages 39 = .ok (.iload_n 1, 1) := by decide +kernel
theorem dX6_pages_40 : decode cX6_pages 40 = .ok (.ifCond .ne 11, 3) := by decide +kernel
theorem dX6_pages_43 : decode cX6_pages 43 = .ok (.sipush 256, 3) := by decide +kernel
theorem dX6_pages_46 : decode cX6_pages 46 = .ok (.iload_n 2, 1) := by decide +kernel
theorem dX6_pages_47 : decode cX6_pages 47 = .ok (.isub, 1) := by decide +kernel
theorem dX6_pages_48 : decode cX6_pages 48 = .ok (.goto 13, 3) := by decide +kernel
theorem dX6_pages_51 : decode cX6_pages 51 = .ok (.iload_n 1, 1) := by decide +kernel
theorem dX6_pages_52 : decode cX6_pages 52 = .ok (.iconst 1, 1) := by decide +kernel
theorem dX6_pages_53 : decode cX6_pages 53 = .ok (.if_icmp .ne 7, 3) := by decide +kernel
theorem dX6_pages_56 : decode cX6_pages 56 = .ok (.iload_n 2, 1) := by decide +kernel
theorem dX6_pages_57 : decode cX6_pages 57 = .ok (.goto 4, 3) := by decide +kernel
theorem dX6_pages_60 : decode cX6_pages 60 = .ok (.iconst (-1), 1) := by decide +kernel
theorem dX6_pages_61 : decode cX6_pages 61 = .ok (.ireturn, 1) := by decide +kernel
theorem dJ9_max_7cf53_0 : decode cJ9_max_7cf53 0 = .ok (.iload_n 0, 1) := by decide +kernel
theorem dJ9_max_7cf53_1 : decode cJ9_max_7cf53 1 = .ok (.iload_n 1, 1) := by decide +kernel
theorem dJ9_max_7cf53_2 : decode cJ9_max_7cf53 2 = .ok (.if_icmp .lt 7, 3) := by decide +kernel
theorem dJ9_max_7cf53_5 : decode cJ9_max_7cf53 5 = .ok (.iload_n 0, 1) := by decide +kernel
theorem dJ9_max_7cf53_6 : decode cJ9_max_7cf53 6 = .ok (.goto 4, 3) := by decide +kernel
theorem dJ9_max_7cf53_9 : decode cJ9_max_7cf53 9 = .ok (.iload_n 1, 1) := by decide +kernel
theorem dJ9_max_7cf53_10 : decode cJ9_max_7cf53 10 = .ok (.ireturn, 1) := by decide +kernel
theorem dJ9_min_7cf53_0 : decode cJ9_min_7cf53 0 = .ok (.iload_n 0, 1) := by decide +kernel
theorem dJ9_min_7cf53_1 : decode cJ9_min_7cf53 1 = .ok (.iload_n 1, 1) := by decide +kernel
theorem dJ9_min_7cf53_2 : decode cJ9_min_7cf53 2 = .ok (.if_icmp .gt 7, 3) := by decide +kernel
theorem dJ9_min_7cf53_5 : decode cJ9_min_7cf53 5 = .ok (.iload_n 0, 1) := by decide +kernel
theorem dJ9_min_7cf53_6 : decode cJ9_min_7cf53 6 = .ok (.goto 4, 3) := by decide +kernel
theorem dJ9_min_7cf53_9 : decode cJ9_min_7cf53 9 = .ok (.iload_n 1, 1) := by decide +kernel
theorem dJ9_min_7cf53_10 : decode cJ9_min_7cf53 10 = .ok (.ireturn, 1) := by decide +kernel
theorem dJ7_fill_53178_0 : decode cJ7_fill_53178 0 = .ok (.iconst 0, 1) := by decide +kernel
theorem dJ7_fill_53178_1 : decode cJ7_fill_53178 1 = .ok (.istore_n 2, 1) := by decide +kernel
theorem dJ7_fill_53178_2 : decode cJ7_fill_53178 2 = .ok (.aload_n 0, 1) := by decide +kernel
theorem dJ7_fill_53178_3 : decode cJ7_fill_53178 3 = .ok (.arraylength, 1) := by decide +kernel
theorem dJ7_fill_53178_4 : decode cJ7_fill_53178 4 = .ok (.istore_n 3, 1) := by decide +kernel
theorem dJ7_fill_53178_5 : decode cJ7_fill_53178 5 = .ok (.iload_n 2, 1) := by decide +kernel
theorem dJ7_fill_53178_6 : decode cJ7_fill_53178 6 = .ok (.iload_n 3, 1) := by decide +kernel
theorem dJ7_fill_53178_7 : decode cJ7_fill_53178 7 = .ok (.if_icmp .ge 13, 3) := by decide +kernel
theorem dJ7_fill_53178_10 : decode cJ7_fill_53178 10 = .ok (.aload_n 0, 1) := by decide +kernel
theorem dJ7_fill_53178_11 : decode cJ7_fill_53178 11 = .ok (.iload_n 2, 1) := by decide +kernel
theorem dJ7_fill_53178_12 : decode cJ7_fill_53178 12 = .ok (.iload_n 1, 1) := by decide +kernel
theorem dJ7_fill_53178_13 : decode cJ7_fill_53178 13 = .ok (.iastore, 1) := by decide +kernel
theorem dJ7_fill_53178_14 : decode cJ7_fill_53178 14 = .ok (.iinc 2 1, 3) := by decide +kernel
theorem dJ7_fill_53178_17 : decode cJ7_fill_53178 17 = .ok (.goto (-12), 3) := by decide +kernel
theorem dJ7_fill_53178_20 : decode cJ7_fill_53178 20 = .ok (.return_, 1) := by decide +kernel
theorem dJ7_copyOf_59c91_0 : decode cJ7_copyOf_59c91 0 = .ok (.iload_n 1, 1) := by decide +kernel
theorem dJ7_copyOf_59c91_1 : decode cJ7_copyOf_59c91 1 = .ok (.aload_n 0, 1) := by decide +kernel
theorem dJ7_copyOf_59c91_2 : decode cJ7_copyOf_59c91 2 = .ok (.arraylength, 1) := by decide +kernel
theorem dJ7_copyOf_59c91_3 : decode cJ7_copyOf_59c91 3 = .ok (.if_icmp .ne 11, 3) := by decide +kernel
theorem dJ7_copyOf_59c91_6 : decode cJ7_copyOf_59c91 6 = .ok (.aload_n 0, 1) := by decide +kernel
theorem dJ7_copyOf_59c91_7 : decode cJ7_copyOf_59c91 7 = .ok (.invokevirtual 316, 3) := by decide +kernel
theorem dJ7_copyOf_59c91_10 : decode cJ7_copyOf_59c91 10 = .ok (.checkcast 317, 3) := by decide +kernel
theorem dJ7_copyOf_59c91_13 : decode cJ7_copyOf_59c91 13 = .ok (.areturn, 1) := by decide +kernel
theorem dJ7_copyOf_59c91_14 : decode cJ7_copyOf_59c91 14 = .ok (.iload_n 1, 1) := by decide +kernel
theorem dJ7_copyOf_59c91_15 : decode cJ7_copyOf_59c91 15 = .ok (.newarray .int, 2) := by decide +kernel
theorem dJ7_copyOf_59c91_17 : decode cJ7_copyOf_59c91 17 = .ok (.astore_n 2, 1) := by decide +kernel
theorem dJ7_copyOf_59c91_18 : decode cJ7_copyOf_59c91 18 = .ok (.aload_n 0, 1) := by decide +kernel
theorem dJ7_copyOf_59c91_19 : decode cJ7_copyOf_59c91 19 = .ok (.iconst 0, 1) := by decide +kernel
theorem dJ7_copyOf_59c91_20 : decode cJ7_copyOf_59c91 20 = .ok (.aload_n 2, 1) := by decide +kernel
theorem dJ7_copyOf_59c91_21 : decode cJ7_copyOf_59c91 21 = .ok (.iconst 0, 1) := by decide +kernel
theorem dJ7_copyOf_59c91_22 : decode cJ7_copyOf_59c91 22 = .ok (.aload_n 0, 1) := by decide +kernel
theorem dJ7_copyOf_59c91_23 : decode cJ7_copyOf_59c91 23 = .ok (.arraylength, 1) := by decide +kernel
theorem dJ7_copyOf_59c91_24 : decode cJ7_copyOf_59c91 24 = .ok (.iload_n 1, 1) := by decide +kernel
theorem dJ7_copyOf_59c91_25 : decode cJ7_copyOf_59c91 25 = .ok (.invokestatic 304, 3) := by decide +kernel
theorem dJ7_copyOf_59c91_28 : decode cJ7_copyOf_59c91 28 = .ok (.invokestatic 150, 3) := by decide +kernel
theorem dJ7_copyOf_59c91_31 : decode cJ7_copyOf_59c91 31 = .ok (.aload_n 2, 1) := by decide +kernel
theorem dJ7_copyOf_59c91_32 : decode cJ7_copyOf_59c91 32 = .ok (.areturn, 1) := by decide +kernel
theorem dL_cache_0 : decode cL_cache 0 = .ok (.aload 5, 2) := by decide +kernel
theorem dL_cache_2 : decode cL_cache 2 = .ok (.iconst 0, 1) := by decide +kernel
theorem dL_cache_3 : decode cL_cache 3 = .ok (.aload_n 0, 1) := by decide +kernel
theorem dL_cache_4 : decode cL_cache 4 = .ok (.iload_n 1, 1) := by decide +kernel
theorem dL_cache_5 : decode cL_cache 5 = .ok (.iload_n 2, 1) := by decide +kernel
theorem dL_cache_6 : decode cL_cache 6 = .ok (.iload_n 3, 1) := by decide +kernel
theorem dL_cache_7 : decode cL_cache 7 = .ok (.iload 4, 2) := by decide +kernel
theorem dL_cache_9 : decode cL_cache 9 = .ok (.invokevirtual 7, 3) := by decide +kernel
theorem dL_cache_12 : decode cL_cache 12 = .ok (.i2l, 1) := by decide +kernel
theorem dL_cache_13 : decode cL_cache 13 = .ok (.lastore, 1) := by decide +kernel
theorem dL_cache_14 : decode cL_cache 14 = .ok (.goto 7, 3) := by decide +kernel
theorem dL_cache_17 : decode cL_cache 17 = .ok (.astore 6, 2) := by decide +kernel
theorem dL_cache_19 : decode cL_cache 19 = .ok (.iconst 1, 1) := by decide +kernel
theorem dL_cache_20 : decode cL_cache 20 = .ok (.ireturn, 1) := by decide +kernel
theorem dL_cache_21 : decode cL_cache 21 = .ok (.iconst 0, 1) := by decide +kernel
theorem dL_cache_22 : decode cL_cache 22 = .ok (.ireturn, 1) := by decide +kernel
theorem dL_drop_0 : decode cL_drop 0 = .ok (.aload_n 2, 1) := by decide +kernel
theorem dL_drop_1 : decode cL_drop 1 = .ok (.iconst 0, 1) := by decide +kernel
theorem dL_drop_2 : decode cL_drop 2 = .ok (.aload_n 0, 1) := by decide +kernel
theorem dL_drop_3 : decode cL_drop 3 = .ok (.iload_n 1, 1) := by decide +kernel
theorem dL_drop_4 : decode cL_drop 4 = .ok (.invokevirtual 15, 3) := by decide +kernel
theorem dL_drop_7 : decode cL_drop 7 = .ok (.i2l, 1) := by decide +kernel
theorem dL_drop_8 : decode cL_drop 8 = .ok (.lastore, 1) := by decide +kernel
theorem dL_drop_9 : decode cL_drop 9 = .ok (.goto 9, 3) := by decide +kernel
theorem dL_drop_12 : decode cL_drop 12 = .ok (.astore_n 3, 1) := by decide +kernel
theorem dL_drop_13 : decode cL_drop 13 = .ok (.iconst 1, 1) := by decide +kernel
theorem dL_drop_14 : decode cL_drop 14 = .ok (.ireturn, 1) := by decide +kernel
theorem dL_drop_15 : decode cL_drop 15 = .ok (.astore_n 3, 1) := by decide +kernel
theorem dL_drop_16 : decode cL_drop 16 = .ok (.iconst 2, 1) := by decide +kernel
theorem dL_drop_17 : decode cL_drop 17 = .ok (.ireturn, 1) := by decide +kernel
theorem dL_drop_18 : decode cL_drop 18 = .ok (.iconst 0, 1) := by decide +kernel
theorem dL_drop_19 : decode cL_drop 19 = .ok (.ireturn, 1) := by decide +kernel
theorem dL_allocate_0 : decode cL_allocate 0 = .ok (.aload_n 3, 1) := by decide +kernel
theorem dL_allocate_1 : decode cL_allocate 1 = .ok (.iconst 0, 1) := by decide +kernel
theorem dL_allocate_2 : decode cL_allocate 2 = .ok (.aload_n 0, 1) := by decide +kernel
theorem dL_allocate_3 : decode cL_allocate 3 = .ok (.iload_n 1, 1) := by decide +kernel
theorem dL_allocate_4 : decode cL_allocate 4 = .ok (.iload_n 2, 1) := by decide +kernel
theorem dL_allocate_5 : decode cL_allocate 5 = .ok (.invokevirtual 23, 3) := by decide +kernel
theorem dL_allocate_8 : decode cL_allocate 8 = .ok (.i2l, 1) := by decide +kernel
theorem dL_allocate_9 : decode cL_allocate 9 = .ok (.lastore, 1) := by decide +kernel
theorem dL_allocate_10 : decode cL_allocate 10 = .ok (.goto 11, 3) := by decide +kernel
theorem dL_allocate_13 : decode cL_allocate 13 = .ok (.astore 4, 2) := by decide +kernel
theorem dL_allocate_15 : decode cL_allocate 15 = .ok (.iconst 1, 1) := by decide +kernel
theorem dL_allocate_16 : decode cL_allocate 16 = .ok (.ireturn, 1) := by decide +kernel
theorem dL_allocate_17 : decode cL_allocate 17 = .ok (.astore 4, 2) := by decide +kernel
theorem dL_allocate_19 : decode cL_allocate 19 = .ok (.iconst 2, 1) := by decide +kernel
theorem dL_allocate_20 : decode cL_allocate 20 = .ok (.ireturn, 1) := by decide +kernel
theorem dL_allocate_21 : decode cL_allocate 21 = .ok (.iconst 0, 1) := by decide +kernel
theorem dL_allocate_22 : decode cL_allocate 22 = .ok (.ireturn, 1) := by decide +kernel
theorem dL_free_0 : decode cL_free 0 = .ok (.aload_n 3, 1) := by decide +kernel
theorem dL_free_1 : decode cL_free 1 = .ok (.iconst 0, 1) := by decide +kernel
theorem dL_free_2 : decode cL_free 2 = .ok (.aload_n 0, 1) := by decide +kernel
theorem dL_free_3 : decode cL_free 3 = .ok (.iload_n 1, 1) := by decide +kernel
theorem dL_free_4 : decode cL_free 4 = .ok (.iload_n 2, 1) := by decide +kernel
theorem dL_free_5 : decode cL_free 5 = .ok (.invokevirtual 27, 3) := by decide +kernel
theorem dL_free_8 : decode cL_free 8 = .ok (.i2l, 1) := by decide +kernel
theorem dL_free_9 : decode cL_free 9 = .ok (.lastore, 1) := by decide +kernel
theorem dL_free_10 : decode cL_free 10 = .ok (.goto 15, 3) := by decide +kernel
theorem dL_free_13 : decode cL_free 13 = .ok (.astore 4, 2) := by decide +kernel
theorem dL_free_15 : decode cL_free 15 = .ok (.iconst 1, 1) := by decide +kernel
theorem dL_free_16 : decode cL_free 16 = .ok (.ireturn, 1) := by decide +kernel
theorem dL_free_17 : decode cL_free 17 = .ok (.astore 4, 2) := by decide +kernel
theorem dL_free_19 : decode cL_free 19 = .ok (.iconst 2, 1) := by decide +kernel
theorem dL_free_20 : decode cL_free 20 = .ok (.ireturn, 1) := by decide +kernel
theorem dL_free_21 : decode cL_free 21 = .ok (.astore 4, 2) := by decide +kernel
theorem dL_free_23 : decode cL_free 23 = .ok (.iconst 3, 1) := by decide +kernel
theorem dL_free_24 : decode cL_free 24 = .ok (.ireturn, 1) := by decide +kernel
theorem dL_free_25 : decode cL_free 25 = .ok (.iconst 0, 1) := by decide +kernel
theorem dL_free_26 : decode cL_free 26 = .ok (.ireturn, 1) := by decide +kernel
theorem dL_mark_0 : decode cL_mark 0 = .ok (.aload_n 3, 1) := by decide +kernel
theorem dL_mark_1 : decode cL_mark 1 = .ok (.iconst 0, 1) := by decide +kernel
theorem dL_mark_2 : decode cL_mark 2 = .ok (.aload_n 0, 1) := by decide +kernel
theorem dL_mark_3 : decode cL_mark 3 = .ok (.iload_n 1, 1) := by decide +kernel
theorem dL_mark_4 : decode cL_mark 4 = .ok (.iload_n 2, 1) := by decide +kernel
theorem dL_mark_5 : decode cL_mark 5 = .ok (.invokevirtual 30, 3) := by decide +kernel
theorem dL_mark_8 : decode cL_mark 8 = .ok (.i2l, 1) := by decide +kernel
theorem dL_mark_9 : decode cL_mark 9 = .ok (.lastore, 1) := by decide +kernel
theorem dL_mark_10 : decode cL_mark 10 = .ok (.goto 7, 3) := by decide +kernel
theorem dL_mark_13 : decode cL_mark 13 = .ok (.astore 4, 2) := by decide +kernel
theorem dL_mark_15 : decode cL_mark 15 = .ok (.iconst 1, 1) := by decide +kernel
theorem dL_mark_16 : decode cL_mark 16 = .ok (.ireturn, 1) := by decide +kernel
theorem dL_mark_17 : decode cL_mark 17 = .ok (.iconst 0, 1) := by decide +kernel
theorem dL_mark_18 : decode cL_mark 18 = .ok (.ireturn, 1) := by decide +kernel
theorem dL_flush_0 : decode cL_flush 0 = .ok (.aload_n 2, 1) := by decide +kernel
theorem dL_flush_1 : decode cL_flush 1 = .ok (.iconst 0, 1) := by decide +kernel
theorem dL_flush_2 : decode cL_flush 2 = .ok (.aload_n 0, 1) := by decide +kernel
theorem dL_flush_3 : decode cL_flush 3 = .ok (.iload_n 1, 1) := by decide +kernel
theorem dL_flush_4 : decode cL_flush 4 = .ok (.invokevirtual 33, 3) := by decide +kernel
theorem dL_flush_7 : decode cL_flush 7 = .ok (.i2l, 1) := by decide +kernel
theorem dL_flush_8 : decode cL_flush 8 = .ok (.lastore, 1) := by decide +kernel
theorem dL_flush_9 : decode cL_flush 9 = .ok (.goto 6, 3) := by decide +kernel
theorem dL_flush_12 : decode cL_flush 12 = .ok (.astore_n 3, 1) := by decide +kernel
theorem dL_flush_13 : decode cL_flush 13 = .ok (.iconst 1, 1) := by decide +kernel
theorem dL_flush_14 : decode cL_flush 14 = .ok (.ireturn, 1) := by decide +kernel
theorem dL_flush_15 : decode cL_flush 15 = .ok (.iconst 0, 1) := by decide +kernel
theorem dL_flush_16 : decode cL_flush 16 = .ok (.ireturn, 1) := by decide +kernel
theorem dL_empty_0 : decode cL_empty 0 = .ok (.aload_n 2, 1) := by decide +kernel
theorem dL_empty_1 : decode cL_empty 1 = .ok (.iconst 0, 1) := by decide +kernel
theorem dL_empty_2 : decode cL_empty 2 = .ok (.aload_n 0, 1) := by decide +kernel
theorem dL_empty_3 : decode cL_empty 3 = .ok (.iload_n 1, 1) := by decide +kernel
theorem dL_empty_4 : decode cL_empty 4 = .ok (.invokevirtual 36, 3) := by decide +kernel
theorem dL_empty_7 : decode cL_empty 7 = .ok (.i2l, 1) := by decide +kernel
theorem dL_empty_8 : decode cL_empty 8 = .ok (.lastore, 1) := by decide +kernel
theorem dL_empty_9 : decode cL_empty 9 = .ok (.goto 6, 3) := by decide +kernel
theorem dL_empty_12 : decode cL_empty 12 = .ok (.astore_n 3, 1) := by decide +kernel
theorem dL_empty_13 : decode cL_empty 13 = .ok (.iconst 1, 1) := by decide +kernel
theorem dL_empty_14 : decode cL_empty 14 = .ok (.ireturn, 1) := by decide +kernel
theorem dL_empty_15 : decode cL_empty 15 = .ok (.iconst 0, 1) := by decide +kernel
theorem dL_empty_16 : decode cL_empty 16 = .ok (.ireturn, 1) := by decide +kernel
theorem dL_about_0 : decode cL_about 0 = .ok (.aload_n 3, 1) := by decide +kernel
theorem dL_about_1 : decode cL_about 1 = .ok (.iconst 0, 1) := by decide +kernel
theorem dL_about_2 : decode cL_about 2 = .ok (.aload_n 0, 1) := by decide +kernel
theorem dL_about_3 : decode cL_about 3 = .ok (.iload_n 1, 1) := by decide +kernel
theorem dL_about_4 : decode cL_about 4 = .ok (.iload_n 2, 1) := by decide +kernel
theorem dL_about_5 : decode cL_about 5 = .ok (.invokevirtual 39, 3) := by decide +kernel
theorem dL_about_8 : decode cL_about 8 = .ok (.i2l, 1) := by decide +kernel
theorem dL_about_9 : decode cL_about 9 = .ok (.lastore, 1) := by decide +kernel
theorem dL_about_10 : decode cL_about 10 = .ok (.goto 11, 3) := by decide +kernel
theorem dL_about_13 : decode cL_about 13 = .ok (.astore 4, 2) := by decide +kernel
theorem dL_about_15 : decode cL_about 15 = .ok (.iconst 1, 1) := by decide +kernel
theorem dL_about_16 : decode cL_about 16 = .ok (.ireturn, 1) := by decide +kernel
theorem dL_about_17 : decode cL_about 17 = .ok (.astore 4, 2) := by decide +kernel
theorem dL_about_19 : decode cL_about 19 = .ok (.iconst 2, 1) := by decide +kernel
theorem dL_about_20 : decode cL_about 20 = .ok (.ireturn, 1) := by decide +kernel
theorem dL_about_21 : decode cL_about 21 = .ok (.iconst 0, 1) := by decide +kernel
theorem dL_about_22 : decode cL_about 22 = .ok (.ireturn, 1) := by decide +kernel
theorem dL_list_0 : decode cL_list 0 = .ok (.aload 4, 2) := by decide +kernel
theorem dL_list_2 : decode cL_list 2 = .ok (.iconst 0, 1) := by decide +kernel
theorem dL_list_3 : decode cL_list 3 = .ok (.aload_n 0, 1) := by decide +kernel
theorem dL_list_4 : decode cL_list 4 = .ok (.iload_n 1, 1) := by decide +kernel
theorem dL_list_5 : decode cL_list 5 = .ok (.iload_n 2, 1) := by decide +kernel
theorem dL_list_6 : decode cL_list 6 = .ok (.iload_n 3, 1) := by decide +kernel
theorem dL_list_7 : decode cL_list 7 = .ok (.invokevirtual 42, 3) := by decide +kernel
theorem dL_list_10 : decode cL_list 10 = .ok (.i2l, 1) := by decide +kernel
theorem dL_list_11 : decode cL_list 11 = .ok (.lastore, 1) := by decide +kernel
theorem dL_list_12 : decode cL_list 12 = .ok (.goto 11, 3) := by decide +kernel
theorem dL_list_15 : decode cL_list 15 = .ok (.astore 5, 2) := by decide +kernel
theorem dL_list_17 : decode cL_list 17 = .ok (.iconst 1, 1) := by decide +kernel
theorem dL_list_18 : decode cL_list 18 = .ok (.ireturn, 1) := by decide +kernel
theorem dL_list_19 : decode cL_list 19 = .ok (.astore 5, 2) := by decide +kernel
theorem dL_list_21 : decode cL_list 21 = .ok (.iconst 2, 1) := by decide +kernel
theorem dL_list_22 : decode cL_list 22 = .ok (.ireturn, 1) := by decide +kernel
theorem dL_list_23 : decode cL_list 23 = .ok (.iconst 0, 1) := by decide +kernel
theorem dL_list_24 : decode cL_list 24 = .ok (.ireturn, 1) := by decide +kernel
theorem dL_slab_0 : decode cL_slab 0 = .ok (.aload_n 3, 1) := by decide +kernel
theorem dL_slab_1 : decode cL_slab 1 = .ok (.iconst 0, 1) := by decide +kernel
theorem dL_slab_2 : decode cL_slab 2 = .ok (.aload_n 0, 1) := by decide +kernel
theorem dL_slab_3 : decode cL_slab 3 = .ok (.iload_n 1, 1) := by decide +kernel
theorem dL_slab_4 : decode cL_slab 4 = .ok (.iload_n 2, 1) := by decide +kernel
theorem dL_slab_5 : decode cL_slab 5 = .ok (.invokevirtual 46, 3) := by decide +kernel
theorem dL_slab_8 : decode cL_slab 8 = .ok (.i2l, 1) := by decide +kernel
theorem dL_slab_9 : decode cL_slab 9 = .ok (.lastore, 1) := by decide +kernel
theorem dL_slab_10 : decode cL_slab 10 = .ok (.goto 11, 3) := by decide +kernel
theorem dL_slab_13 : decode cL_slab 13 = .ok (.astore 4, 2) := by decide +kernel
theorem dL_slab_15 : decode cL_slab 15 = .ok (.iconst 1, 1) := by decide +kernel
theorem dL_slab_16 : decode cL_slab 16 = .ok (.ireturn, 1) := by decide +kernel
theorem dL_slab_17 : decode cL_slab 17 = .ok (.astore 4, 2) := by decide +kernel
theorem dL_slab_19 : decode cL_slab 19 = .ok (.iconst 2, 1) := by decide +kernel
theorem dL_slab_20 : decode cL_slab 20 = .ok (.ireturn, 1) := by decide +kernel
theorem dL_slab_21 : decode cL_slab 21 = .ok (.iconst 0, 1) := by decide +kernel
theorem dL_slab_22 : decode cL_slab 22 = .ok (.ireturn, 1) := by decide +kernel
theorem dL_magazine_0 : decode cL_magazine 0 = .ok (.aload 4, 2) := by decide +kernel
theorem dL_magazine_2 : decode cL_magazine 2 = .ok (.iconst 0, 1) := by decide +kernel
theorem dL_magazine_3 : decode cL_magazine 3 = .ok (.aload_n 0, 1) := by decide +kernel
theorem dL_magazine_4 : decode cL_magazine 4 = .ok (.iload_n 1, 1) := by decide +kernel
theorem dL_magazine_5 : decode cL_magazine 5 = .ok (.iload_n 2, 1) := by decide +kernel
theorem dL_magazine_6 : decode cL_magazine 6 = .ok (.iload_n 3, 1) := by decide +kernel
theorem dL_magazine_7 : decode cL_magazine 7 = .ok (.invokevirtual 49, 3) := by decide +kernel
theorem dL_magazine_10 : decode cL_magazine 10 = .ok (.i2l, 1) := by decide +kernel
theorem dL_magazine_11 : decode cL_magazine 11 = .ok (.lastore, 1) := by decide +kernel
theorem dL_magazine_12 : decode cL_magazine 12 = .ok (.goto 11, 3) := by decide +kernel
theorem dL_magazine_15 : decode cL_magazine 15 = .ok (.astore 5, 2) := by decide +kernel
theorem dL_magazine_17 : decode cL_magazine 17 = .ok (.iconst 1, 1) := by decide +kernel
theorem dL_magazine_18 : decode cL_magazine 18 = .ok (.ireturn, 1) := by decide +kernel
theorem dL_magazine_19 : decode cL_magazine 19 = .ok (.astore 5, 2) := by decide +kernel
theorem dL_magazine_21 : decode cL_magazine 21 = .ok (.iconst 2, 1) := by decide +kernel
theorem dL_magazine_22 : decode cL_magazine 22 = .ok (.ireturn, 1) := by decide +kernel
theorem dL_magazine_23 : decode cL_magazine 23 = .ok (.iconst 0, 1) := by decide +kernel
theorem dL_magazine_24 : decode cL_magazine 24 = .ok (.ireturn, 1) := by decide +kernel
theorem dL_block_0 : decode cL_block 0 = .ok (.aload_n 3, 1) := by decide +kernel
theorem dL_block_1 : decode cL_block 1 = .ok (.iconst 0, 1) := by decide +kernel
theorem dL_block_2 : decode cL_block 2 = .ok (.aload_n 0, 1) := by decide +kernel
theorem dL_block_3 : decode cL_block 3 = .ok (.iload_n 1, 1) := by decide +kernel
theorem dL_block_4 : decode cL_block 4 = .ok (.iload_n 2, 1) := by decide +kernel
theorem dL_block_5 : decode cL_block 5 = .ok (.invokevirtual 52, 3) := by decide +kernel
theorem dL_block_8 : decode cL_block 8 = .ok (.i2l, 1) := by decide +kernel
theorem dL_block_9 : decode cL_block 9 = .ok (.lastore, 1) := by decide +kernel
theorem dL_block_10 : decode cL_block 10 = .ok (.goto 7, 3) := by decide +kernel
theorem dL_block_13 : decode cL_block 13 = .ok (.astore 4, 2) := by decide +kernel
theorem dL_block_15 : decode cL_block 15 = .ok (.iconst 1, 1) := by decide +kernel
theorem dL_block_16 : decode cL_block 16 = .ok (.ireturn, 1) := by decide +kernel
theorem dL_block_17 : decode cL_block 17 = .ok (.iconst 0, 1) := by decide +kernel
theorem dL_block_18 : decode cL_block 18 = .ok (.ireturn, 1) := by decide +kernel
theorem dL_law_0 : decode cL_law 0 = .ok (.new 8, 3) := by decide +kernel
theorem dL_law_3 : decode cL_law 3 = .ok (.dup, 1) := by decide +kernel
theorem dL_law_4 : decode cL_law 4 = .ok (.invokespecial 55, 3) := by decide +kernel
theorem dL_law_7 : decode cL_law 7 = .ok (.astore_n 1, 1) := by decide +kernel
theorem dL_law_8 : decode cL_law 8 = .ok (.new 56, 3) := by decide +kernel
theorem dL_law_11 : decode cL_law 11 = .ok (.dup, 1) := by decide +kernel
theorem dL_law_12 : decode cL_law 12 = .ok (.invokespecial 58, 3) := by decide +kernel
theorem dL_law_15 : decode cL_law 15 = .ok (.astore_n 2, 1) := by decide +kernel
theorem dL_law_16 : decode cL_law 16 = .ok (.iconst 1, 1) := by decide +kernel
theorem dL_law_17 : decode cL_law 17 = .ok (.newarray .long, 2) := by decide +kernel
theorem dL_law_19 : decode cL_law 19 = .ok (.astore_n 3, 1) := by decide +kernel
theorem dL_law_20 : decode cL_law 20 = .ok (.iconst 0, 1) := by decide +kernel
theorem dL_law_21 : decode cL_law 21 = .ok (.istore 4, 2) := by decide +kernel
theorem dL_law_23 : decode cL_law 23 = .ok (.iload 4, 2) := by decide +kernel
theorem dL_law_25 : decode cL_law 25 = .ok (.aload_n 0, 1) := by decide +kernel
theorem dL_law_26 : decode cL_law 26 = .ok (.arraylength, 1) := by decide +kernel
theorem dL_law_27 : decode cL_law 27 = .ok (.iconst 5, 1) := by decide +kernel
theorem dL_law_28 : decode cL_law 28 = .ok (.isub, 1) := by decide +kernel
theorem dL_law_29 : decode cL_law 29 = .ok (.if_icmp .gt 1009, 3) := by decide +kernel
theorem dL_law_32 : decode cL_law 32 = .ok (.aload_n 0, 1) := by decide +kernel
theorem dL_law_33 : decode cL_law 33 = .ok (.iload 4, 2) := by decide +kernel
theorem dL_law_35 : decode cL_law 35 = .ok (.iaload, 1) := by decide +kernel
theorem dL_law_36 : decode cL_law 36 = .ok (.bipush 15, 2) := by decide +kernel
theorem dL_law_38 : decode cL_law 38 = .ok (.iand, 1) := by decide +kernel
theorem dL_law_39 : decode cL_law 39 = .ok (.tableswitch 993 0 15 #[77, 169, 225, 293, 361, 429, 485, 541, 554, 579, 604, 672, 752, 820, 900, 968], 77) := by decide +kernel
theorem dL_law_116 : decode cL_law 116 = .ok (.aload_n 1, 1) := by decide +kernel
theorem dL_law_117 : decode cL_law 117 = .ok (.aload_n 0, 1) := by decide +kernel
theorem dL_law_118 : decode cL_law 118 = .ok (.iload 4, 2) := by decide +kernel
theorem dL_law_120 : decode cL_law 120 = .ok (.iconst 1, 1) := by decide +kernel
theorem dL_law_121 : decode cL_law 121 = .ok (.iadd, 1) := by decide +kernel
theorem dL_law_122 : decode cL_law 122 = .ok (.iaload, 1) := by decide +kernel
theorem dL_law_123 : decode cL_law 123 = .ok (.aload_n 0, 1) := by decide +kernel
theorem dL_law_124 : decode cL_law 124 = .ok (.iload 4, 2) := by decide +kernel
theorem dL_law_126 : decode cL_law 126 = .ok (.iconst 2, 1) := by decide +kernel
theorem dL_law_127 : decode cL_law 127 = .ok (.iadd, 1) := by decide +kernel
theorem dL_law_128 : decode cL_law 128 = .ok (.iaload, 1) := by decide +kernel
theorem dL_law_129 : decode cL_law 129 = .ok (.aload_n 0, 1) := by decide +kernel
theorem dL_law_130 : decode cL_law 130 = .ok (.iload 4, 2) := by decide +kernel
theorem dL_law_132 : decode cL_law 132 = .ok (.iconst 3, 1) := by decide +kernel
theorem dL_law_133 : decode cL_law 133 = .ok (.iadd, 1) := by decide +kernel
theorem dL_law_134 : decode cL_law 134 = .ok (.iaload, 1) := by decide +kernel
theorem dL_law_135 : decode cL_law 135 = .ok (.aload_n 0, 1) := by decide +kernel
theorem dL_law_136 : decode cL_law 136 = .ok (.iload 4, 2) := by decide +kernel
theorem dL_law_138 : decode cL_law 138 = .ok (.iconst 4, 1) := by decide +kernel
theorem dL_law_139 : decode cL_law 139 = .ok (.iadd, 1) := by decide +kernel
theorem dL_law_140 : decode cL_law 140 = .ok (.iaload, 1) := by decide +kernel
theorem dL_law_141 : decode cL_law 141 = .ok (.aload_n 3, 1) := by decide +kernel
theorem dL_law_142 : decode cL_law 142 = .ok (.invokestatic 59, 3) := by decide +kernel
theorem dL_law_145 : decode cL_law 145 = .ok (.istore 5, 2) := by decide +kernel
theorem dL_law_147 : decode cL_law 147 = .ok (.aload_n 2, 1) := by decide +kernel
theorem dL_law_148 : decode cL_law 148 = .ok (.aload_n 0, 1) := by decide +kernel
theorem dL_law_149 : decode cL_law 149 = .ok (.iload 4, 2) := by decide +kernel
theorem dL_law_151 : decode cL_law 151 = .ok (.iconst 1, 1) := by decide +kernel
theorem dL_law_152 : decode cL_law 152 = .ok (.iadd, 1) := by decide +kernel
theorem dL_law_153 : decode cL_law 153 = .ok (.iaload, 1) := by decide +kernel
theorem dL_law_154 : decode cL_law 154 = .ok (.aload_n 0, 1) := by decide +kernel
theorem dL_law_155 : decode cL_law 155 = .ok (.iload 4, 2) := by decide +kernel
theorem dL_law_157 : decode cL_law 157 = .ok (.iconst 2, 1) := by decide +kernel
theorem dL_law_158 : decode cL_law 158 = .ok (.iadd, 1) := by decide +kernel
theorem dL_law_159 : decode cL_law 159 = .ok (.iaload, 1) := by decide +kernel
theorem dL_law_160 : decode cL_law 160 = .ok (.aload_n 0, 1) := by decide +kernel
theorem dL_law_161 : decode cL_law 161 = .ok (.iload 4, 2) := by decide +kernel
theorem dL_law_163 : decode cL_law 163 = .ok (.iconst 3, 1) := by decide +kernel
theorem dL_law_164 : decode cL_law 164 = .ok (.iadd, 1) := by decide +kernel
theorem dL_law_165 : decode cL_law 165 = .ok (.iaload, 1) := by decide +kernel
theorem dL_law_166 : decode cL_law 166 = .ok (.aload_n 0, 1) := by decide +kernel
theorem dL_law_167 : decode cL_law 167 = .ok (.iload 4, 2) := by decide +kernel
theorem dL_law_169 : decode cL_law 169 = .ok (.iconst 4, 1) := by decide +kernel
theorem dL_law_170 : decode cL_law 170 = .ok (.iadd, 1) := by decide +kernel
theorem dL_law_171 : decode cL_law 171 = .ok (.iaload, 1) := by decide +kernel
theorem dL_law_172 : decode cL_law 172 = .ok (.invokevirtual 64, 3) := by decide +kernel
theorem dL_law_175 : decode cL_law 175 = .ok (.istore 6, 2) := by decide +kernel
theorem dL_law_177 : decode cL_law 177 = .ok (.aload_n 2, 1) := by decide +kernel
theorem dL_law_178 : decode cL_law 178 = .ok (.invokevirtual 65, 3) := by decide +kernel
theorem dL_law_181 : decode cL_law 181 = .ok (.iload 5, 2) := by decide +kernel
theorem dL_law_183 : decode cL_law 183 = .ok (.if_icmp .eq 5, 3) := by decide +kernel
theorem dL_law_186 : decode cL_law 186 = .ok (.iconst 0, 1) := by decide +kernel
theorem dL_law_187 : decode cL_law 187 = .ok (.ireturn, 1) := by decide +kernel
theorem dL_law_188 : decode cL_law 188 = .ok (.iload 5, 2) := by decide +kernel
theorem dL_law_190 : decode cL_law 190 = .ok (.ifCond .ne 15, 3) := by decide +kernel
theorem dL_law_193 : decode cL_law 193 = .ok (.aload_n 3, 1) := by decide +kernel
theorem dL_law_194 : decode cL_law 194 = .ok (.iconst 0, 1) := by decide +kernel
theorem dL_law_195 : decode cL_law 195 = .ok (.laload, 1) := by decide +kernel
theorem dL_law_196 : decode cL_law 196 = .ok (.iload 6, 2) := by decide +kernel
theorem dL_law_198 : decode cL_law 198 = .ok (.i2l, 1) := by decide +kernel
theorem dL_law_199 : decode cL_law 199 = .ok (.lcmp, 1) := by decide +kernel
theorem dL_law_200 : decode cL_law 200 = .ok (.ifCond .eq 5, 3) := by decide +kernel
theorem dL_law_203 : decode cL_law 203 = .ok (.iconst 0, 1) := by decide +kernel
theorem dL_law_204 : decode cL_law 204 = .ok (.ireturn, 1) := by decide +kernel
theorem dL_law_205 : decode cL_law 205 = .ok (.goto 827, 3) := by decide +kernel
theorem dL_law_208 : decode cL_law 208 = .ok (.aload_n 1, 1) := by decide +kernel
theorem dL_law_209 : decode cL_law 209 = .ok (.aload_n 0, 1) := by decide +kernel
theorem dL_law_210 : decode cL_law 210 = .ok (.iload 4, 2) := by decide +kernel
theorem dL_law_212 : decode cL_law 212 = .ok (.iconst 1, 1) := by decide +kernel
theorem dL_law_213 : decode cL_law 213 = .ok (.iadd, 1) := by decide +kernel
theorem dL_law_214 : decode cL_law 214 = .ok (.iaload, 1) := by decide +kernel
theorem dL_law_215 : decode cL_law 215 = .ok (.aload_n 3, 1) := by decide +kernel
theorem dL_law_216 : decode cL_law 216 = .ok (.invokestatic 69, 3) := by decide +kernel
theorem dL_law_219 : decode cL_law 219 = .ok (.istore 5, 2) := by decide +kernel
theorem dL_law_221 : decode cL_law 221 = .ok (.aload_n 2, 1) := by decide +kernel
theorem dL_law_222 : decode cL_law 222 = .ok (.aload_n 0, 1) := by decide +kernel
theorem dL_law_223 : decode cL_law 223 = .ok (.iload 4, 2) := by decide +kernel
theorem dL_law_225 : decode cL_law 225 = .ok (.iconst 1, 1) := by decide +kernel
theorem dL_law_226 : decode cL_law 226 = .ok (.iadd, 1) := by decide +kernel
theorem dL_law_227 : decode cL_law 227 = .ok (.iaload, 1) := by decide +kernel
theorem dL_law_228 : decode cL_law 228 = .ok (.invokevirtual 72, 3) := by decide +kernel
theorem dL_law_231 : decode cL_law 231 = .ok (.istore 6, 2) := by decide +kernel
theorem dL_law_233 : decode cL_law 233 = .ok (.aload_n 2, 1) := by decide +kernel
theorem dL_law_234 : decode cL_law 234 = .ok (.invokevirtual 65, 3) := by decide +kernel
theorem dL_law_237 : decode cL_law 237 = .ok (.iload 5, 2) := by decide +kernel
theorem dL_law_239 : decode cL_law 239 = .ok (.if_icmp .eq 5, 3) := by decide +kernel
theorem dL_law_242 : decode cL_law 242 = .ok (.iconst 0, 1) := by decide +kernel
theorem dL_law_243 : decode cL_law 243 = .ok (.ireturn, 1) := by decide +kernel
theorem dL_law_244 : decode cL_law 244 = .ok (.iload 5, 2) := by decide +kernel
theorem dL_law_246 : decode cL_law 246 = .ok (.ifCond .ne 15, 3) := by decide +kernel
theorem dL_law_249 : decode cL_law 249 = .ok (.aload_n 3, 1) := by decide +kernel
theorem dL_law_250 : decode cL_law 250 = .ok (.iconst 0, 1) := by decide +kernel
theorem dL_law_251 : decode cL_law 251 = .ok (.laload, 1) := by decide +kernel
theorem dL_law_252 : decode cL_law 252 = .ok (.iload 6, 2) := by decide +kernel
theorem dL_law_254 : decode cL_law 254 = .ok (.i2l, 1) := by decide +kernel
theorem dL_law_255 : decode cL_law 255 = .ok (.lcmp, 1) := by decide +kernel
theorem dL_law_256 : decode cL_law 256 = .ok (.ifCond .eq 5, 3) := by decide +kernel
theorem dL_law_259 : decode cL_law 259 = .ok (.iconst 0, 1) := by decide +kernel
theorem dL_law_260 : decode cL_law 260 = .ok (.ireturn, 1) := by decide +kernel
theorem dL_law_261 : decode cL_law 261 = .ok (.goto 771, 3) := by decide +kernel
theorem dL_law_264 : decode cL_law 264 = .ok (.aload_n 1, 1) := by decide +kernel
theorem dL_law_265 : decode cL_law 265 = .ok (.aload_n 0, 1) := by decide +kernel
theorem dL_law_266 : decode cL_law 266 = .ok (.iload 4, 2) := by decide +kernel
theorem dL_law_268 : decode cL_law 268 = .ok (.iconst 1, 1) := by decide +kernel
theorem dL_law_269 : decode cL_law 269 = .ok (.iadd, 1) := by decide +kernel
theorem dL_law_270 : decode cL_law 270 = .ok (.iaload, 1) := by decide +kernel
theorem dL_law_271 : decode cL_law 271 = .ok (.aload_n 0, 1) := by decide +kernel
theorem dL_law_272 : decode cL_law 272 = .ok (.iload 4, 2) := by decide +kernel
theorem dL_law_274 : decode cL_law 274 = .ok (.iconst 2, 1) := by decide +kernel
theorem dL_law_275 : decode cL_law 275 = .ok (.iadd, 1) := by decide +kernel
theorem dL_law_276 : decode cL_law 276 = .ok (.iaload, 1) := by decide +kernel
theorem dL_law_277 : decode cL_law 277 = .ok (.aload_n 3, 1) := by decide +kernel
theorem dL_law_278 : decode cL_law 278 = .ok (.invokestatic 73, 3) := by decide +kernel
theorem dL_law_281 : decode cL_law 281 = .ok (.istore 5, 2) := by decide +kernel
theorem dL_law_283 : decode cL_law 283 = .ok (.aload_n 2, 1) := by decide +kernel
theorem dL_law_284 : decode cL_law 284 = .ok (.aload_n 0, 1) := by decide +kernel
theorem dL_law_285 : decode cL_law 285 = .ok (.iload 4, 2) := by decide +kernel
theorem dL_law_287 : decode cL_law 287 = .ok (.iconst 1, 1) := by decide +kernel
theorem dL_law_288 : decode cL_law 288 = .ok (.iadd, 1) := by decide +kernel
theorem dL_law_289 : decode cL_law 289 = .ok (.iaload, 1) := by decide +kernel
theorem dL_law_290 : decode cL_law 290 = .ok (.aload_n 0, 1) := by decide +kernel
theorem dL_law_291 : decode cL_law 291 = .ok (.iload 4, 2) := by decide +kernel
theorem dL_law_293 : decode cL_law 293 = .ok (.iconst 2, 1) := by decide +kernel
theorem dL_law_294 : decode cL_law 294 = .ok (.iadd, 1) := by decide +kernel
theorem dL_law_295 : decode cL_law 295 = .ok (.iaload, 1) := by decide +kernel
theorem dL_law_296 : decode cL_law 296 = .ok (.invokevirtual 76, 3) := by decide +kernel
theorem dL_law_299 : decode cL_law 299 = .ok (.istore 6, 2) := by decide +kernel
theorem dL_law_301 : decode cL_law 301 = .ok (.aload_n 2, 1) := by decide +kernel
theorem dL_law_302 : decode cL_law 302 = .ok (.invokevirtual 65, 3) := by decide +kernel
theorem dL_law_305 : decode cL_law 305 = .ok (.iload 5, 2) := by decide +kernel
theorem dL_law_307 : decode cL_law 307 = .ok (.if_icmp .eq 5, 3) := by decide +kernel
theorem dL_law_310 : decode cL_law 310 = .ok (.iconst 0, 1) := by decide +kernel
theorem dL_law_311 : decode cL_law 311 = .ok (.ireturn, 1) := by decide +kernel
theorem dL_law_312 : decode cL_law 312 = .ok (.iload 5, 2) := by decide +kernel
theorem dL_law_314 : decode cL_law 314 = .ok (.ifCond .ne 15, 3) := by decide +kernel
theorem dL_law_317 : decode cL_law 317 = .ok (.aload_n 3, 1) := by decide +kernel
theorem dL_law_318 : decode cL_law 318 = .ok (.iconst 0, 1) := by decide +kernel
theorem dL_law_319 : decode cL_law 319 = .ok (.laload, 1) := by decide +kernel
theorem dL_law_320 : decode cL_law 320 = .ok (.iload 6, 2) := by decide +kernel
theorem dL_law_322 : decode cL_law 322 = .ok (.i2l, 1) := by decide +kernel
theorem dL_law_323 : decode cL_law 323 = .ok (.lcmp, 1) := by decide +kernel
theorem dL_law_324 : decode cL_law 324 = .ok (.ifCond .eq 5, 3) := by decide +kernel
theorem dL_law_327 : decode cL_law 327 = .ok (.iconst 0, 1) := by decide +kernel
theorem dL_law_328 : decode cL_law 328 = .ok (.ireturn, 1) := by decide +kernel
theorem dL_law_329 : decode cL_law 329 = .ok (.goto 703, 3) := by decide +kernel
theorem dL_law_332 : decode cL_law 332 = .ok (.aload_n 1, 1) := by decide +kernel
theorem dL_law_333 : decode cL_law 333 = .ok (.aload_n 0, 1) := by decide +kernel
theorem dL_law_334 : decode cL_law 334 = .ok (.iload 4, 2) := by decide +kernel
theorem dL_law_336 : decode cL_law 336 = .ok (.iconst 1, 1) := by decide +kernel
theorem dL_law_337 : decode cL_law 337 = .ok (.iadd, 1) := by decide +kernel
theorem dL_law_338 : decode cL_law 338 = .ok (.iaload, 1) := by decide +kernel
theorem dL_law_339 : decode cL_law 339 = .ok (.aload_n 0, 1) := by decide +kernel
theorem dL_law_340 : decode cL_law 340 = .ok (.iload 4, 2) := by decide +kernel
theorem dL_law_342 : decode cL_law 342 = .ok (.iconst 2, 1) := by decide +kernel
theorem dL_law_343 : decode cL_law 343 = .ok (.iadd, 1) := by decide +kernel
theorem dL_law_344 : decode cL_law 344 = .ok (.iaload, 1) := by decide +kernel
theorem dL_law_345 : decode cL_law 345 = .ok (.aload_n 3, 1) := by decide +kernel
theorem dL_law_346 : decode cL_law 346 = .ok (.invokestatic 77, 3) := by decide +kernel
theorem dL_law_349 : decode cL_law 349 = .ok (.istore 5, 2) := by decide +kernel
theorem dL_law_351 : decode cL_law 351 = .ok (.aload_n 2, 1) := by decide +kernel
theorem dL_law_352 : decode cL_law 352 = .ok (.aload_n 0, 1) := by decide +kernel
theorem dL_law_353 : decode cL_law 353 = .ok (.iload 4, 2) := by decide +kernel
theorem dL_law_355 : decode cL_law 355 = .ok (.iconst 1, 1) := by decide +kernel
theorem dL_law_356 : decode cL_law 356 = .ok (.iadd, 1) := by decide +kernel
theorem dL_law_357 : decode cL_law 357 = .ok (.iaload, 1) := by decide +kernel
theorem dL_law_358 : decode cL_law 358 = .ok (.aload_n 0, 1) := by decide +kernel
theorem dL_law_359 : decode cL_law 359 = .ok (.iload 4, 2) := by decide +kernel
theorem dL_law_361 : decode cL_law 361 = .ok (.iconst 2, 1) := by decide +kernel
theorem dL_law_362 : decode cL_law 362 = .ok (.iadd, 1) := by decide +kernel
theorem dL_law_363 : decode cL_law 363 = .ok (.iaload, 1) := by decide +kernel
theorem dL_law_364 : decode cL_law 364 = .ok (.invokevirtual 79, 3) := by decide +kernel
theorem dL_law_367 : decode cL_law 367 = .ok (.istore 6, 2) := by decide +kernel
theorem dL_law_369 : decode cL_law 369 = .ok (.aload_n 2, 1) := by decide +kernel
theorem dL_law_370 : decode cL_law 370 = .ok (.invokevirtual 65, 3) := by decide +kernel
theorem dL_law_373 : decode cL_law 373 = .ok (.iload 5, 2) := by decide +kernel
theorem dL_law_375 : decode cL_law 375 = .ok (.if_icmp .eq 5, 3) := by decide +kernel
theorem dL_law_378 : decode cL_law 378 = .ok (.iconst 0, 1) := by decide +kernel
theorem dL_law_379 : decode cL_law 379 = .ok (.ireturn, 1) := by decide +kernel
theorem dL_law_380 : decode cL_law 380 = .ok (.iload 5, 2) := by decide +kernel
theorem dL_law_382 : decode cL_law 382 = .ok (.ifCond .ne 15, 3) := by decide +kernel
theorem dL_law_385 : decode cL_law 385 = .ok (.aload_n 3, 1) := by decide +kernel
theorem dL_law_386 : decode cL_law 386 = .ok (.iconst 0, 1) := by decide +kernel
theorem dL_law_387 : decode cL_law 387 = .ok (.laload, 1) := by decide +kernel
theorem dL_law_388 : decode cL_law 388 = .ok (.iload 6, 2) := by decide +kernel
theorem dL_law_390 : decode cL_law 390 = .ok (.i2l, 1) := by decide +kernel
theorem dL_law_391 : decode cL_law 391 = .ok (.lcmp, 1) := by decide +kernel
theorem dL_law_392 : decode cL_law 392 = .ok (.ifCond .eq 5, 3) := by decide +kernel
theorem dL_law_395 : decode cL_law 395 = .ok (.iconst 0, 1) := by decide +kernel
theorem dL_law_396 : decode cL_law 396 = .ok (.ireturn, 1) := by decide +kernel
theorem dL_law_397 : decode cL_law 397 = .ok (.goto 635, 3) := by decide +kernel
theorem dL_law_400 : decode cL_law 400 = .ok (.aload_n 1, 1) := by decide +kernel
theorem dL_law_401 : decode cL_law 401 = .ok (.aload_n 0, 1) := by decide +kernel
theorem dL_law_402 : decode cL_law 402 = .ok (.iload 4, 2) := by decide +kernel
theorem dL_law_404 : decode cL_law 404 = .ok (.iconst 1, 1) := by decide +kernel
theorem dL_law_405 : decode cL_law 405 = .ok (.iadd, 1) := by decide +kernel
theorem dL_law_406 : decode cL_law 406 = .ok (.iaload, 1) := by decide +kernel
theorem dL_law_407 : decode cL_law 407 = .ok (.aload_n 0, 1) := by decide +kernel
theorem dL_law_408 : decode cL_law 408 = .ok (.iload 4, 2) := by decide +kernel
theorem dL_law_410 : decode cL_law 410 = .ok (.iconst 2, 1) := by decide +kernel
theorem dL_law_411 : decode cL_law 411 = .ok (.iadd, 1) := by decide +kernel
theorem dL_law_412 : decode cL_law 412 = .ok (.iaload, 1) := by decide +kernel
theorem dL_law_413 : decode cL_law 413 = .ok (.aload_n 3, 1) := by decide +kernel
theorem dL_law_414 : decode cL_law 414 = .ok (.invokestatic 80, 3) := by decide +kernel
theorem dL_law_417 : decode cL_law 417 = .ok (.istore 5, 2) := by decide +kernel
theorem dL_law_419 : decode cL_law 419 = .ok (.aload_n 2, 1) := by decide +kernel
theorem dL_law_420 : decode cL_law 420 = .ok (.aload_n 0, 1) := by decide +kernel
theorem dL_law_421 : decode cL_law 421 = .ok (.iload 4, 2) := by decide +kernel
theorem dL_law_423 : decode cL_law 423 = .ok (.iconst 1, 1) := by decide +kernel
theorem dL_law_424 : decode cL_law 424 = .ok (.iadd, 1) := by decide +kernel
theorem dL_law_425 : decode cL_law 425 = .ok (.iaload, 1) := by decide +kernel
theorem dL_law_426 : decode cL_law 426 = .ok (.aload_n 0, 1) := by decide +kernel
theorem dL_law_427 : decode cL_law 427 = .ok (.iload 4, 2) := by decide +kernel
theorem dL_law_429 : decode cL_law 429 = .ok (.iconst 2, 1) := by decide +kernel
theorem dL_law_430 : decode cL_law 430 = .ok (.iadd, 1) := by decide +kernel
theorem dL_law_431 : decode cL_law 431 = .ok (.iaload, 1) := by decide +kernel
theorem dL_law_432 : decode cL_law 432 = .ok (.invokevirtual 82, 3) := by decide +kernel
theorem dL_law_435 : decode cL_law 435 = .ok (.istore 6, 2) := by decide +kernel
theorem dL_law_437 : decode cL_law 437 = .ok (.aload_n 2, 1) := by decide +kernel
theorem dL_law_438 : decode cL_law 438 = .ok (.invokevirtual 65, 3) := by decide +kernel
theorem dL_law_441 : decode cL_law 441 = .ok (.iload 5, 2) := by decide +kernel
theorem dL_law_443 : decode cL_law 443 = .ok (.if_icmp .eq 5, 3) := by decide +kernel
theorem dL_law_446 : decode cL_law 446 = .ok (.iconst 0, 1) := by decide +kernel
theorem dL_law_447 : decode cL_law 447 = .ok (.ireturn, 1) := by decide +kernel
theorem dL_law_448 : decode cL_law 448 = .ok (.iload 5, 2) := by decide +kernel
theorem dL_law_450 : decode cL_law 450 = .ok (.ifCond .ne 15, 3) := by decide +kernel
theorem dL_law_453 : decode cL_law 453 = .ok (.aload_n 3, 1) := by decide +kernel
theorem dL_law_454 : decode cL_law 454 = .ok (.iconst 0, 1) := by decide +kernel
theorem dL_law_455 : decode cL_law 455 = .ok (.laload, 1) := by decide +kernel
theorem dL_law_456 : decode cL_law 456 = .ok (.iload 6, 2) := by decide +kernel
theorem dL_law_458 : decode cL_law 458 = .ok (.i2l, 1) := by decide +kernel
theorem dL_law_459 : decode cL_law 459 = .ok (.lcmp, 1) := by decide +kernel
theorem dL_law_460 : decode cL_law 460 = .ok (.ifCond .eq 5, 3) := by decide +kernel
theorem dL_law_463 : decode cL_law 463 = .ok (.iconst 0, 1) := by decide +kernel
theorem dL_law_464 : decode cL_law 464 = .ok (.ireturn, 1) := by decide +kernel
theorem dL_law_465 : decode cL_law 465 = .ok (.goto 567, 3) := by decide +kernel
theorem dL_law_468 : decode cL_law 468 = .ok (.aload_n 1, 1) := by decide +kernel
theorem dL_law_469 : decode cL_law 469 = .ok (.aload_n 0, 1) := by decide +kernel
theorem dL_law_470 : decode cL_law 470 = .ok (.iload 4, 2) := by decide +kernel
theorem dL_law_472 : decode cL_law 472 = .ok (.iconst 1, 1) := by decide +kernel
theorem dL_law_473 : decode cL_law 473 = .ok (.iadd, 1) := by decide +kernel
theorem dL_law_474 : decode cL_law 474 = .ok (.iaload, 1) := by decide +kernel
theorem dL_law_475 : decode cL_law 475 = .ok (.aload_n 3, 1) := by decide +kernel
theorem dL_law_476 : decode cL_law 476 = .ok (.invokestatic 83, 3) := by decide +kernel
theorem dL_law_479 : decode cL_law 479 = .ok (.istore 5, 2) := by decide +kernel
theorem dL_law_481 : decode cL_law 481 = .ok (.aload_n 2, 1) := by decide +kernel
theorem dL_law_482 : decode cL_law 482 = .ok (.aload_n 0, 1) := by decide +kernel
theorem dL_law_483 : decode cL_law 483 = .ok (.iload 4, 2) := by decide +kernel
theorem dL_law_485 : decode cL_law 485 = .ok (.iconst 1, 1) := by decide +kernel
theorem dL_law_486 : decode cL_law 486 = .ok (.iadd, 1) := by decide +kernel
theorem dL_law_487 : decode cL_law 487 = .ok (.iaload, 1) := by decide +kernel
theorem dL_law_488 : decode cL_law 488 = .ok (.invokevirtual 85, 3) := by decide +kernel
theorem dL_law_491 : decode cL_law 491 = .ok (.istore 6, 2) := by decide +kernel
theorem dL_law_493 : decode cL_law 493 = .ok (.aload_n 2, 1) := by decide +kernel
theorem dL_law_494 : decode cL_law 494 = .ok (.invokevirtual 65, 3) := by decide +kernel
theorem dL_law_497 : decode cL_law 497 = .ok (.iload 5, 2) := by decide +kernel
theorem dL_law_499 : decode cL_law 499 = .ok (.if_icmp .eq 5, 3) := by decide +kernel
theorem dL_law_502 : decode cL_law 502 = .ok (.iconst 0, 1) := by decide +kernel
theorem dL_law_503 : decode cL_law 503 = .ok (.ireturn, 1) := by decide +kernel
theorem dL_law_504 : decode cL_law 504 = .ok (.iload 5, 2) := by decide +kernel
theorem dL_law_506 : decode cL_law 506 = .ok (.ifCond .ne 15, 3) := by decide +kernel
theorem dL_law_509 : decode cL_law 509 = .ok (.aload_n 3, 1) := by decide +kernel
theorem dL_law_510 : decode cL_law 510 = .ok (.iconst 0, 1) := by decide +kernel
theorem dL_law_511 : decode cL_law 511 = .ok (.laload, 1) := by decide +kernel
theorem dL_law_512 : decode cL_law 512 = .ok (.iload 6, 2) := by decide +kernel
theorem dL_law_514 : decode cL_law 514 = .ok (.i2l, 1) := by decide +kernel
theorem dL_law_515 : decode cL_law 515 = .ok (.lcmp, 1) := by decide +kernel
theorem dL_law_516 : decode cL_law 516 = .ok (.ifCond .eq 5, 3) := by decide +kernel
theorem dL_law_519 : decode cL_law 519 = .ok (.iconst 0, 1) := by decide +kernel
theorem dL_law_520 : decode cL_law 520 = .ok (.ireturn, 1) := by decide +kernel
theorem dL_law_521 : decode cL_law 521 = .ok (.goto 511, 3) := by decide +kernel
theorem dL_law_524 : decode cL_law 524 = .ok (.aload_n 1, 1) := by decide +kernel
theorem dL_law_525 : decode cL_law 525 = .ok (.aload_n 0, 1) := by decide +kernel
theorem dL_law_526 : decode cL_law 526 = .ok (.iload 4, 2) := by decide +kernel
theorem dL_law_528 : decode cL_law 528 = .ok (.iconst 1, 1) := by decide +kernel
theorem dL_law_529 : decode cL_law 529 = .ok (.iadd, 1) := by decide +kernel
theorem dL_law_530 : decode cL_law 530 = .ok (.iaload, 1) := by decide +kernel
theorem dL_law_531 : decode cL_law 531 = .ok (.aload_n 3, 1) := by decide +kernel
theorem dL_law_532 : decode cL_law 532 = .ok (.invokestatic 86, 3) := by decide +kernel
theorem dL_law_535 : decode cL_law 535 = .ok (.istore 5, 2) := by decide +kernel
theorem dL_law_537 : decode cL_law 537 = .ok (.aload_n 2, 1) := by decide +kernel
theorem dL_law_538 : decode cL_law 538 = .ok (.aload_n 0, 1) := by decide +kernel
theorem dL_law_539 : decode cL_law 539 = .ok (.iload 4, 2) := by decide +kernel
theorem dL_law_541 : decode cL_law 541 = .ok (.iconst 1, 1) := by decide +kernel
theorem dL_law_542 : decode cL_law 542 = .ok (.iadd, 1) := by decide +kernel
theorem dL_law_543 : decode cL_law 543 = .ok (.iaload, 1) := by decide +kernel
theorem dL_law_544 : decode cL_law 544 = .ok (.invokevirtual 88, 3) := by decide +kernel
theorem dL_law_547 : decode cL_law 547 = .ok (.istore 6, 2) := by decide +kernel
theorem dL_law_549 : decode cL_law 549 = .ok (.aload_n 2, 1) := by decide +kernel
theorem dL_law_550 : decode cL_law 550 = .ok (.invokevirtual 65, 3) := by decide +kernel
theorem dL_law_553 : decode cL_law 553 = .ok (.iload 5, 2) := by decide +kernel
theorem dL_law_555 : decode cL_law 555 = .ok (.if_icmp .eq 5, 3) := by decide +kernel
theorem dL_law_558 : decode cL_law 558 = .ok (.iconst 0, 1) := by decide +kernel
theorem dL_law_559 : decode cL_law 559 = .ok (.ireturn, 1) := by decide +kernel
theorem dL_law_560 : decode cL_law 560 = .ok (.iload 5, 2) := by decide +kernel
theorem dL_law_562 : decode cL_law 562 = .ok (.ifCond .ne 15, 3) := by decide +kernel
theorem dL_law_565 : decode cL_law 565 = .ok (.aload_n 3, 1) := by decide +kernel
theorem dL_law_566 : decode cL_law 566 = .ok (.iconst 0, 1) := by decide +kernel
theorem dL_law_567 : decode cL_law 567 = .ok (.laload, 1) := by decide +kernel
theorem dL_law_568 : decode cL_law 568 = .ok (.iload 6, 2) := by decide +kernel
theorem dL_law_570 : decode cL_law 570 = .ok (.i2l, 1) := by decide +kernel
theorem dL_law_571 : decode cL_law 571 = .ok (.lcmp, 1) := by decide +kernel
theorem dL_law_572 : decode cL_law 572 = .ok (.ifCond .eq 5, 3) := by decide +kernel
theorem dL_law_575 : decode cL_law 575 = .ok (.iconst 0, 1) := by decide +kernel
theorem dL_law_576 : decode cL_law 576 = .ok (.ireturn, 1) := by decide +kernel
theorem dL_law_577 : decode cL_law 577 = .ok (.goto 455, 3) := by decide +kernel
theorem dL_law_580 : decode cL_law 580 = .ok (.aload_n 1, 1) := by decide +kernel
theorem dL_law_581 : decode cL_law 581 = .ok (.invokevirtual 89, 3) := by decide +kernel
theorem dL_law_584 : decode cL_law 584 = .ok (.aload_n 2, 1) := by decide +kernel
theorem dL_law_585 : decode cL_law 585 = .ok (.invokevirtual 92, 3) := by decide +kernel
theorem dL_law_588 : decode cL_law 588 = .ok (.if_icmp .eq 444, 3) := by decide +kernel
theorem dL_law_591 : decode cL_law 591 = .ok (.iconst 0, 1) := by decide +kernel
theorem dL_law_592 : decode cL_law 592 = .ok (.ireturn, 1) := by decide +kernel
theorem dL_law_593 : decode cL_law 593 = .ok (.aload_n 1, 1) := by decide +kernel
theorem dL_law_594 : decode cL_law 594 = .ok (.aload_n 0, 1) := by decide +kernel
theorem dL_law_595 : decode cL_law 595 = .ok (.iload 4, 2) := by decide +kernel
theorem dL_law_597 : decode cL_law 597 = .ok (.iconst 1, 1) := by decide +kernel
theorem dL_law_598 : decode cL_law 598 = .ok (.iadd, 1) := by decide +kernel
theorem dL_law_599 : decode cL_law 599 = .ok (.iaload, 1) := by decide +kernel
theorem dL_law_600 : decode cL_law 600 = .ok (.invokevirtual 93, 3) := by decide +kernel
theorem dL_law_603 : decode cL_law 603 = .ok (.aload_n 2, 1) := by decide +kernel
theorem dL_law_604 : decode cL_law 604 = .ok (.aload_n 0, 1) := by decide +kernel
theorem dL_law_605 : decode cL_law 605 = .ok (.iload 4, 2) := by decide +kernel
theorem dL_law_607 : decode cL_law 607 = .ok (.iconst 1, 1) := by decide +kernel
theorem dL_law_608 : decode cL_law 608 = .ok (.iadd, 1) := by decide +kernel
theorem dL_law_609 : decode cL_law 609 = .ok (.iaload, 1) := by decide +kernel
theorem dL_law_610 : decode cL_law 610 = .ok (.invokevirtual 96, 3) := by decide +kernel
theorem dL_law_613 : decode cL_law 613 = .ok (.if_icmp .eq 419, 3) := by decide +kernel
theorem dL_law_616 : decode cL_law 616 = .ok (.iconst 0, 1) := by decide +kernel
theorem dL_law_617 : decode cL_law 617 = .ok (.ireturn, 1) := by decide +kernel
theorem dL_law_618 : decode cL_law 618 = .ok (.aload_n 1, 1) := by decide +kernel
theorem dL_law_619 : decode cL_law 619 = .ok (.aload_n 0, 1) := by decide +kernel
theorem dL_law_620 : decode cL_law 620 = .ok (.iload 4, 2) := by decide +kernel
theorem dL_law_622 : decode cL_law 622 = .ok (.iconst 1, 1) := by decide +kernel
theorem dL_law_623 : decode cL_law 623 = .ok (.iadd, 1) := by decide +kernel
theorem dL_law_624 : decode cL_law 624 = .ok (.iaload, 1) := by decide +kernel
theorem dL_law_625 : decode cL_law 625 = .ok (.invokevirtual 97, 3) := by decide +kernel
theorem dL_law_628 : decode cL_law 628 = .ok (.aload_n 2, 1) := by decide +kernel
theorem dL_law_629 : decode cL_law 629 = .ok (.aload_n 0, 1) := by decide +kernel
theorem dL_law_630 : decode cL_law 630 = .ok (.iload 4, 2) := by decide +kernel
theorem dL_law_632 : decode cL_law 632 = .ok (.iconst 1, 1) := by decide +kernel
theorem dL_law_633 : decode cL_law 633 = .ok (.iadd, 1) := by decide +kernel
theorem dL_law_634 : decode cL_law 634 = .ok (.iaload, 1) := by decide +kernel
theorem dL_law_635 : decode cL_law 635 = .ok (.invokevirtual 100, 3) := by decide +kernel
theorem dL_law_638 : decode cL_law 638 = .ok (.if_icmp .eq 394, 3) := by decide +kernel
theorem dL_law_641 : decode cL_law 641 = .ok (.iconst 0, 1) := by decide +kernel
theorem dL_law_642 : decode cL_law 642 = .ok (.ireturn, 1) := by decide +kernel
theorem dL_law_643 : decode cL_law 643 = .ok (.aload_n 1, 1) := by decide +kernel
theorem dL_law_644 : decode cL_law 644 = .ok (.aload_n 0, 1) := by decide +kernel
theorem dL_law_645 : decode cL_law 645 = .ok (.iload 4, 2) := by decide +kernel
theorem dL_law_647 : decode cL_law 647 = .ok (.iconst 1, 1) := by decide +kernel
theorem dL_law_648 : decode cL_law 648 = .ok (.iadd, 1) := by decide +kernel
theorem dL_law_649 : decode cL_law 649 = .ok (.iaload, 1) := by decide +kernel
theorem dL_law_650 : decode cL_law 650 = .ok (.aload_n 0, 1) := by decide +kernel
theorem dL_law_651 : decode cL_law 651 = .ok (.iload 4, 2) := by decide +kernel
theorem dL_law_653 : decode cL_law 653 = .ok (.iconst 2, 1) := by decide +kernel
theorem dL_law_654 : decode cL_law 654 = .ok (.iadd, 1) := by decide +kernel
theorem dL_law_655 : decode cL_law 655 = .ok (.iaload, 1) := by decide +kernel
theorem dL_law_656 : decode cL_law 656 = .ok (.aload_n 3, 1) := by decide +kernel
theorem dL_law_657 : decode cL_law 657 = .ok (.invokestatic 101, 3) := by decide +kernel
theorem dL_law_660 : decode cL_law 660 = .ok (.istore 5, 2) := by decide +kernel
theorem dL_law_662 : decode cL_law 662 = .ok (.aload_n 2, 1) := by decide +kernel
theorem dL_law_663 : decode cL_law 663 = .ok (.aload_n 0, 1) := by decide +kernel
theorem dL_law_664 : decode cL_law 664 = .ok (.iload 4, 2) := by decide +kernel
theorem dL_law_666 : decode cL_law 666 = .ok (.iconst 1, 1) := by decide +kernel
theorem dL_law_667 : decode cL_law 667 = .ok (.iadd, 1) := by decide +kernel
theorem dL_law_668 : decode cL_law 668 = .ok (.iaload, 1) := by decide +kernel
theorem dL_law_669 : decode cL_law 669 = .ok (.aload_n 0, 1) := by decide +kernel
theorem dL_law_670 : decode cL_law 670 = .ok (.iload 4, 2) := by decide +kernel
theorem dL_law_672 : decode cL_law 672 = .ok (.iconst 2, 1) := by decide +kernel
theorem dL_law_673 : decode cL_law 673 = .ok (.iadd, 1) := by decide +kernel
theorem dL_law_674 : decode cL_law 674 = .ok (.iaload, 1) := by decide +kernel
theorem dL_law_675 : decode cL_law 675 = .ok (.invokevirtual 103, 3) := by decide +kernel
theorem dL_law_678 : decode cL_law 678 = .ok (.istore 6, 2) := by decide +kernel
theorem dL_law_680 : decode cL_law 680 = .ok (.aload_n 2, 1) := by decide +kernel
theorem dL_law_681 : decode cL_law 681 = .ok (.invokevirtual 65, 3) := by decide +kernel
theorem dL_law_684 : decode cL_law 684 = .ok (.iload 5, 2) := by decide +kernel
theorem dL_law_686 : decode cL_law 686 = .ok (.if_icmp .eq 5, 3) := by decide +kernel
theorem dL_law_689 : decode cL_law 689 = .ok (.iconst 0, 1) := by decide +kernel
theorem dL_law_690 : decode cL_law 690 = .ok (.ireturn, 1) := by decide +kernel
theorem dL_law_691 : decode cL_law 691 = .ok (.iload 5, 2) := by decide +kernel
theorem dL_law_693 : decode cL_law 693 = .ok (.ifCond .ne 15, 3) := by decide +kernel
theorem dL_law_696 : decode cL_law 696 = .ok (.aload_n 3, 1) := by decide +kernel
theorem dL_law_697 : decode cL_law 697 = .ok (.iconst 0, 1) := by decide +kernel
theorem dL_law_698 : decode cL_law 698 = .ok (.laload, 1) := by decide +kernel
theorem dL_law_699 : decode cL_law 699 = .ok (.iload 6, 2) := by decide +kernel
theorem dL_law_701 : decode cL_law 701 = .ok (.i2l, 1) := by decide +kernel
theorem dL_law_702 : decode cL_law 702 = .ok (.lcmp, 1) := by decide +kernel
theorem dL_law_703 : decode cL_law 703 = .ok (.ifCond .eq 5, 3) := by decide +kernel
theorem dL_law_706 : decode cL_law 706 = .ok (.iconst 0, 1) := by decide +kernel
theorem dL_law_707 : decode cL_law 707 = .ok (.ireturn, 1) := by decide +kernel
theorem dL_law_708 : decode cL_law 708 = .ok (.goto 324, 3) := by decide +kernel
theorem dL_law_711 : decode cL_law 711 = .ok (.aload_n 1, 1) := by decide +kernel
theorem dL_law_712 : decode cL_law 712 = .ok (.aload_n 0, 1) := by decide +kernel
theorem dL_law_713 : decode cL_law 713 = .ok (.iload 4, 2) := by decide +kernel
theorem dL_law_715 : decode cL_law 715 = .ok (.iconst 1, 1) := by decide +kernel
theorem dL_law_716 : decode cL_law 716 = .ok (.iadd, 1) := by decide +kernel
theorem dL_law_717 : decode cL_law 717 = .ok (.iaload, 1) := by decide +kernel
theorem dL_law_718 : decode cL_law 718 = .ok (.aload_n 0, 1) := by decide +kernel
theorem dL_law_719 : decode cL_law 719 = .ok (.iload 4, 2) := by decide +kernel
theorem dL_law_721 : decode cL_law 721 = .ok (.iconst 2, 1) := by decide +kernel
theorem dL_law_722 : decode cL_law 722 = .ok (.iadd, 1) := by decide +kernel
theorem dL_law_723 : decode cL_law 723 = .ok (.iaload, 1) := by decide +kernel
theorem dL_law_724 : decode cL_law 724 = .ok (.aload_n 0, 1) := by decide +kernel
theorem dL_law_725 : decode cL_law 725 = .ok (.iload 4, 2) := by decide +kernel
theorem dL_law_727 : decode cL_law 727 = .ok (.iconst 3, 1) := by decide +kernel
theorem dL_law_728 : decode cL_law 728 = .ok (.iadd, 1) := by decide +kernel
theorem dL_law_729 : decode cL_law 729 = .ok (.iaload, 1) := by decide +kernel
theorem dL_law_730 : decode cL_law 730 = .ok (.aload_n 3, 1) := by decide +kernel
theorem dL_law_731 : decode cL_law 731 = .ok (.invokestatic 104, 3) := by decide +kernel
theorem dL_law_734 : decode cL_law 734 = .ok (.istore 5, 2) := by decide +kernel
theorem dL_law_736 : decode cL_law 736 = .ok (.aload_n 2, 1) := by decide +kernel
theorem dL_law_737 : decode cL_law 737 = .ok (.aload_n 0, 1) := by decide +kernel
theorem dL_law_738 : decode cL_law 738 = .ok (.iload 4, 2) := by decide +kernel
theorem dL_law_740 : decode cL_law 740 = .ok (.iconst 1, 1) := by decide +kernel
theorem dL_law_741 : decode cL_law 741 = .ok (.iadd, 1) := by decide +kernel
theorem dL_law_742 : decode cL_law 742 = .ok (.iaload, 1) := by decide +kernel
theorem dL_law_743 : decode cL_law 743 = .ok (.aload_n 0, 1) := by decide +kernel
theorem dL_law_744 : decode cL_law 744 = .ok (.iload 4, 2) := by decide +kernel
theorem dL_law_746 : decode cL_law 746 = .ok (.iconst 2, 1) := by decide +kernel
theorem dL_law_747 : decode cL_law 747 = .ok (.iadd, 1) := by decide +kernel
theorem dL_law_748 : decode cL_law 748 = .ok (.iaload, 1) := by decide +kernel
theorem dL_law_749 : decode cL_law 749 = .ok (.aload_n 0, 1) := by decide +kernel
theorem dL_law_750 : decode cL_law 750 = .ok (.iload 4, 2) := by decide +kernel
theorem dL_law_752 : decode cL_law 752 = .ok (.iconst 3, 1) := by decide +kernel
theorem dL_law_753 : decode cL_law 753 = .ok (.iadd, 1) := by decide +kernel
theorem dL_law_754 : decode cL_law 754 = .ok (.iaload, 1) := by decide +kernel
theorem dL_law_755 : decode cL_law 755 = .ok (.invokevirtual 107, 3) := by decide +kernel
theorem dL_law_758 : decode cL_law 758 = .ok (.istore 6, 2) := by decide +kernel
theorem dL_law_760 : decode cL_law 760 = .ok (.aload_n 2, 1) := by decide +kernel
theorem dL_law_761 : decode cL_law 761 = .ok (.invokevirtual 65, 3) := by decide +kernel
theorem dL_law_764 : decode cL_law 764 = .ok (.iload 5, 2) := by decide +kernel
theorem dL_law_766 : decode cL_law 766 = .ok (.if_icmp .eq 5, 3) := by decide +kernel
theorem dL_law_769 : decode cL_law 769 = .ok (.iconst 0, 1) := by decide +kernel
theorem dL_law_770 : decode cL_law 770 = .ok (.ireturn, 1) := by decide +kernel
theorem dL_law_771 : decode cL_law 771 = .ok (.iload 5, 2) := by decide +kernel
theorem dL_law_773 : decode cL_law 773 = .ok (.ifCond .ne 15, 3) := by decide +kernel
theorem dL_law_776 : decode cL_law 776 = .ok (.aload_n 3, 1) := by decide +kernel
theorem dL_law_777 : decode cL_law 777 = .ok (.iconst 0, 1) := by decide +kernel
theorem dL_law_778 : decode cL_law 778 = .ok (.laload, 1) := by decide +kernel
theorem dL_law_779 : decode cL_law 779 = .ok (.iload 6, 2) := by decide +kernel
theorem dL_law_781 : decode cL_law 781 = .ok (.i2l, 1) := by decide +kernel
theorem dL_law_782 : decode cL_law 782 = .ok (.lcmp, 1) := by decide +kernel
theorem dL_law_783 : decode cL_law 783 = .ok (.ifCond .eq 5, 3) := by decide +kernel
theorem dL_law_786 : decode cL_law 786 = .ok (.iconst 0, 1) := by decide +kernel
theorem dL_law_787 : decode cL_law 787 = .ok (.ireturn, 1) := by decide +kernel
theorem dL_law_788 : decode cL_law 788 = .ok (.goto 244, 3) := by decide +kernel
theorem dL_law_791 : decode cL_law 791 = .ok (.aload_n 1, 1) := by decide +kernel
theorem dL_law_792 : decode cL_law 792 = .ok (.aload_n 0, 1) := by decide +kernel
theorem dL_law_793 : decode cL_law 793 = .ok (.iload 4, 2) := by decide +kernel
theorem dL_law_795 : decode cL_law 795 = .ok (.iconst 1, 1) := by decide +kernel
theorem dL_law_796 : decode cL_law 796 = .ok (.iadd, 1) := by decide +kernel
theorem dL_law_797 : decode cL_law 797 = .ok (.iaload, 1) := by decide +kernel
theorem dL_law_798 : decode cL_law 798 = .ok (.aload_n 0, 1) := by decide +kernel
theorem dL_law_799 : decode cL_law 799 = .ok (.iload 4, 2) := by decide +kernel
theorem dL_law_801 : decode cL_law 801 = .ok (.iconst 2, 1) := by decide +kernel
theorem dL_law_802 : decode cL_law 802 = .ok (.iadd, 1) := by decide +kernel
theorem dL_law_803 : decode cL_law 803 = .ok (.iaload, 1) := by decide +kernel
theorem dL_law_804 : decode cL_law 804 = .ok (.aload_n 3, 1) := by decide +kernel
theorem dL_law_805 : decode cL_law 805 = .ok (.invokestatic 108, 3) := by decide +kernel
theorem dL_law_808 : decode cL_law 808 = .ok (.istore 5, 2) := by decide +kernel
theorem dL_law_810 : decode cL_law 810 = .ok (.aload_n 2, 1) := by decide +kernel
theorem dL_law_811 : decode cL_law 811 = .ok (.aload_n 0, 1) := by decide +kernel
theorem dL_law_812 : decode cL_law 812 = .ok (.iload 4, 2) := by decide +kernel
theorem dL_law_814 : decode cL_law 814 = .ok (.iconst 1, 1) := by decide +kernel
theorem dL_law_815 : decode cL_law 815 = .ok (.iadd, 1) := by decide +kernel
theorem dL_law_816 : decode cL_law 816 = .ok (.iaload, 1) := by decide +kernel
theorem dL_law_817 : decode cL_law 817 = .ok (.aload_n 0, 1) := by decide +kernel
theorem dL_law_818 : decode cL_law 818 = .ok (.iload 4, 2) := by decide +kernel
theorem dL_law_820 : decode cL_law 820 = .ok (.iconst 2, 1) := by decide +kernel
theorem dL_law_821 : decode cL_law 821 = .ok (.iadd, 1) := by decide +kernel
theorem dL_law_822 : decode cL_law 822 = .ok (.iaload, 1) := by decide +kernel
theorem dL_law_823 : decode cL_law 823 = .ok (.invokevirtual 110, 3) := by decide +kernel
theorem dL_law_826 : decode cL_law 826 = .ok (.istore 6, 2) := by decide +kernel
theorem dL_law_828 : decode cL_law 828 = .ok (.aload_n 2, 1) := by decide +kernel
theorem dL_law_829 : decode cL_law 829 = .ok (.invokevirtual 65, 3) := by decide +kernel
theorem dL_law_832 : decode cL_law 832 = .ok (.iload 5, 2) := by decide +kernel
theorem dL_law_834 : decode cL_law 834 = .ok (.if_icmp .eq 5, 3) := by decide +kernel
theorem dL_law_837 : decode cL_law 837 = .ok (.iconst 0, 1) := by decide +kernel
theorem dL_law_838 : decode cL_law 838 = .ok (.ireturn, 1) := by decide +kernel
theorem dL_law_839 : decode cL_law 839 = .ok (.iload 5, 2) := by decide +kernel
theorem dL_law_841 : decode cL_law 841 = .ok (.ifCond .ne 15, 3) := by decide +kernel
theorem dL_law_844 : decode cL_law 844 = .ok (.aload_n 3, 1) := by decide +kernel
theorem dL_law_845 : decode cL_law 845 = .ok (.iconst 0, 1) := by decide +kernel
theorem dL_law_846 : decode cL_law 846 = .ok (.laload, 1) := by decide +kernel
theorem dL_law_847 : decode cL_law 847 = .ok (.iload 6, 2) := by decide +kernel
theorem dL_law_849 : decode cL_law 849 = .ok (.i2l, 1) := by decide +kernel
theorem dL_law_850 : decode cL_law 850 = .ok (.lcmp, 1) := by decide +kernel
theorem dL_law_851 : decode cL_law 851 = .ok (.ifCond .eq 5, 3) := by decide +kernel
theorem dL_law_854 : decode cL_law 854 = .ok (.iconst 0, 1) := by decide +kernel
theorem dL_law_855 : decode cL_law 855 = .ok (.ireturn, 1) := by decide +kernel
theorem dL_law_856 : decode cL_law 856 = .ok (.goto 176, 3) := by decide +kernel
theorem dL_law_859 : decode cL_law 859 = .ok (.aload_n 1, 1) := by decide +kernel
theorem dL_law_860 : decode cL_law 860 = .ok (.aload_n 0, 1) := by decide +kernel
theorem dL_law_861 : decode cL_law 861 = .ok (.iload 4, 2) := by decide +kernel
theorem dL_law_863 : decode cL_law 863 = .ok (.iconst 1, 1) := by decide +kernel
theorem dL_law_864 : decode cL_law 864 = .ok (.iadd, 1) := by decide +kernel
theorem dL_law_865 : decode cL_law 865 = .ok (.iaload, 1) := by decide +kernel
theorem dL_law_866 : decode cL_law 866 = .ok (.aload_n 0, 1) := by decide +kernel
theorem dL_law_867 : decode cL_law 867 = .ok (.iload 4, 2) := by decide +kernel
theorem dL_law_869 : decode cL_law 869 = .ok (.iconst 2, 1) := by decide +kernel
theorem dL_law_870 : decode cL_law 870 = .ok (.iadd, 1) := by decide +kernel
theorem dL_law_871 : decode cL_law 871 = .ok (.iaload, 1) := by decide +kernel
theorem dL_law_872 : decode cL_law 872 = .ok (.aload_n 0, 1) := by decide +kernel
theorem dL_law_873 : decode cL_law 873 = .ok (.iload 4, 2) := by decide +kernel
theorem dL_law_875 : decode cL_law 875 = .ok (.iconst 3, 1) := by decide +kernel
theorem dL_law_876 : decode cL_law 876 = .ok (.iadd, 1) := by decide +kernel
theorem dL_law_877 : decode cL_law 877 = .ok (.iaload, 1) := by decide +kernel
theorem dL_law_878 : decode cL_law 878 = .ok (.aload_n 3, 1) := by decide +kernel
theorem dL_law_879 : decode cL_law 879 = .ok (.invokestatic 111, 3) := by decide +kernel
theorem dL_law_882 : decode cL_law 882 = .ok (.istore 5, 2) := by decide +kernel
theorem dL_law_884 : decode cL_law 884 = .ok (.aload_n 2, 1) := by decide +kernel
theorem dL_law_885 : decode cL_law 885 = .ok (.aload_n 0, 1) := by decide +kernel
theorem dL_law_886 : decode cL_law 886 = .ok (.iload 4, 2) := by decide +kernel
theorem dL_law_888 : decode cL_law 888 = .ok (.iconst 1, 1) := by decide +kernel
theorem dL_law_889 : decode cL_law 889 = .ok (.iadd, 1) := by decide +kernel
theorem dL_law_890 : decode cL_law 890 = .ok (.iaload, 1) := by decide +kernel
theorem dL_law_891 : decode cL_law 891 = .ok (.aload_n 0, 1) := by decide +kernel
theorem dL_law_892 : decode cL_law 892 = .ok (.iload 4, 2) := by decide +kernel
theorem dL_law_894 : decode cL_law 894 = .ok (.iconst 2, 1) := by decide +kernel
theorem dL_law_895 : decode cL_law 895 = .ok (.iadd, 1) := by decide +kernel
theorem dL_law_896 : decode cL_law 896 = .ok (.iaload, 1) := by decide +kernel
theorem dL_law_897 : decode cL_law 897 = .ok (.aload_n 0, 1) := by decide +kernel
theorem dL_law_898 : decode cL_law 898 = .ok (.iload 4, 2) := by decide +kernel
theorem dL_law_900 : decode cL_law 900 = .ok (.iconst 3, 1) := by decide +kernel
theorem dL_law_901 : decode cL_law 901 = .ok (.iadd, 1) := by decide +kernel
theorem dL_law_902 : decode cL_law 902 = .ok (.iaload, 1) := by decide +kernel
theorem dL_law_903 : decode cL_law 903 = .ok (.invokevirtual 113, 3) := by decide +kernel
theorem dL_law_906 : decode cL_law 906 = .ok (.istore 6, 2) := by decide +kernel
theorem dL_law_908 : decode cL_law 908 = .ok (.aload_n 2, 1) := by decide +kernel
theorem dL_law_909 : decode cL_law 909 = .ok (.invokevirtual 65, 3) := by decide +kernel
theorem dL_law_912 : decode cL_law 912 = .ok (.iload 5, 2) := by decide +kernel
theorem dL_law_914 : decode cL_law 914 = .ok (.if_icmp .eq 5, 3) := by decide +kernel
theorem dL_law_917 : decode cL_law 917 = .ok (.iconst 0, 1) := by decide +kernel
theorem dL_law_918 : decode cL_law 918 = .ok (.ireturn, 1) := by decide +kernel
theorem dL_law_919 : decode cL_law 919 = .ok (.iload 5, 2) := by decide +kernel
theorem dL_law_921 : decode cL_law 921 = .ok (.ifCond .ne 15, 3) := by decide +kernel
theorem dL_law_924 : decode cL_law 924 = .ok (.aload_n 3, 1) := by decide +kernel
theorem dL_law_925 : decode cL_law 925 = .ok (.iconst 0, 1) := by decide +kernel
theorem dL_law_926 : decode cL_law 926 = .ok (.laload, 1) := by decide +kernel
theorem dL_law_927 : decode cL_law 927 = .ok (.iload 6, 2) := by decide +kernel
theorem dL_law_929 : decode cL_law 929 = .ok (.i2l, 1) := by decide +kernel
theorem dL_law_930 : decode cL_law 930 = .ok (.lcmp, 1) := by decide +kernel
theorem dL_law_931 : decode cL_law 931 = .ok (.ifCond .eq 5, 3) := by decide +kernel
theorem dL_law_934 : decode cL_law 934 = .ok (.iconst 0, 1) := by decide +kernel
theorem dL_law_935 : decode cL_law 935 = .ok (.ireturn, 1) := by decide +kernel
theorem dL_law_936 : decode cL_law 936 = .ok (.goto 96, 3) := by decide +kernel
theorem dL_law_939 : decode cL_law 939 = .ok (.aload_n 1, 1) := by decide +kernel
theorem dL_law_940 : decode cL_law 940 = .ok (.aload_n 0, 1) := by decide +kernel
theorem dL_law_941 : decode cL_law 941 = .ok (.iload 4, 2) := by decide +kernel
theorem dL_law_943 : decode cL_law 943 = .ok (.iconst 1, 1) := by decide +kernel
theorem dL_law_944 : decode cL_law 944 = .ok (.iadd, 1) := by decide +kernel
theorem dL_law_945 : decode cL_law 945 = .ok (.iaload, 1) := by decide +kernel
theorem dL_law_946 : decode cL_law 946 = .ok (.aload_n 0, 1) := by decide +kernel
theorem dL_law_947 : decode cL_law 947 = .ok (.iload 4, 2) := by decide +kernel
theorem dL_law_949 : decode cL_law 949 = .ok (.iconst 2, 1) := by decide +kernel
theorem dL_law_950 : decode cL_law 950 = .ok (.iadd, 1) := by decide +kernel
theorem dL_law_951 : decode cL_law 951 = .ok (.iaload, 1) := by decide +kernel
theorem dL_law_952 : decode cL_law 952 = .ok (.aload_n 3, 1) := by decide +kernel
theorem dL_law_953 : decode cL_law 953 = .ok (.invokestatic 114, 3) := by decide +kernel
theorem dL_law_956 : decode cL_law 956 = .ok (.istore 5, 2) := by decide +kernel
theorem dL_law_958 : decode cL_law 958 = .ok (.aload_n 2, 1) := by decide +kernel
theorem dL_law_959 : decode cL_law 959 = .ok (.aload_n 0, 1) := by decide +kernel
theorem dL_law_960 : decode cL_law 960 = .ok (.iload 4, 2) := by decide +kernel
theorem dL_law_962 : decode cL_law 962 = .ok (.iconst 1, 1) := by decide +kernel
theorem dL_law_963 : decode cL_law 963 = .ok (.iadd, 1) := by decide +kernel
theorem dL_law_964 : decode cL_law 964 = .ok (.iaload, 1) := by decide +kernel
theorem dL_law_965 : decode cL_law 965 = .ok (.aload_n 0, 1) := by decide +kernel
theorem dL_law_966 : decode cL_law 966 = .ok (.iload 4, 2) := by decide +kernel
theorem dL_law_968 : decode cL_law 968 = .ok (.iconst 2, 1) := by decide +kernel
theorem dL_law_969 : decode cL_law 969 = .ok (.iadd, 1) := by decide +kernel
theorem dL_law_970 : decode cL_law 970 = .ok (.iaload, 1) := by decide +kernel
theorem dL_law_971 : decode cL_law 971 = .ok (.invokevirtual 116, 3) := by decide +kernel
theorem dL_law_974 : decode cL_law 974 = .ok (.istore 6, 2) := by decide +kernel
theorem dL_law_976 : decode cL_law 976 = .ok (.aload_n 2, 1) := by decide +kernel
theorem dL_law_977 : decode cL_law 977 = .ok (.invokevirtual 65, 3) := by decide +kernel
theorem dL_law_980 : decode cL_law 980 = .ok (.iload 5, 2) := by decide +kernel
theorem dL_law_982 : decode cL_law 982 = .ok (.if_icmp .eq 5, 3) := by decide +kernel
theorem dL_law_985 : decode cL_law 985 = .ok (.iconst 0, 1) := by decide +kernel
theorem dL_law_986 : decode cL_law 986 = .ok (.ireturn, 1) := by decide +kernel
theorem dL_law_987 : decode cL_law 987 = .ok (.iload 5, 2) := by decide +kernel
theorem dL_law_989 : decode cL_law 989 = .ok (.ifCond .ne 15, 3) := by decide +kernel
theorem dL_law_992 : decode cL_law 992 = .ok (.aload_n 3, 1) := by decide +kernel
theorem dL_law_993 : decode cL_law 993 = .ok (.iconst 0, 1) := by decide +kernel
theorem dL_law_994 : decode cL_law 994 = .ok (.laload, 1) := by decide +kernel
theorem dL_law_995 : decode cL_law 995 = .ok (.iload 6, 2) := by decide +kernel
theorem dL_law_997 : decode cL_law 997 = .ok (.i2l, 1) := by decide +kernel
theorem dL_law_998 : decode cL_law 998 = .ok (.lcmp, 1) := by decide +kernel
theorem dL_law_999 : decode cL_law 999 = .ok (.ifCond .eq 5, 3) := by decide +kernel
theorem dL_law_1002 : decode cL_law 1002 = .ok (.iconst 0, 1) := by decide +kernel
theorem dL_law_1003 : decode cL_law 1003 = .ok (.ireturn, 1) := by decide +kernel
theorem dL_law_1004 : decode cL_law 1004 = .ok (.goto 28, 3) := by decide +kernel
theorem dL_law_1007 : decode cL_law 1007 = .ok (.aload_n 1, 1) := by decide +kernel
theorem dL_law_1008 : decode cL_law 1008 = .ok (.aload_n 0, 1) := by decide +kernel
theorem dL_law_1009 : decode cL_law 1009 = .ok (.iload 4, 2) := by decide +kernel
theorem dL_law_1011 : decode cL_law 1011 = .ok (.iconst 1, 1) := by decide +kernel
theorem dL_law_1012 : decode cL_law 1012 = .ok (.iadd, 1) := by decide +kernel
theorem dL_law_1013 : decode cL_law 1013 = .ok (.iaload, 1) := by decide +kernel
theorem dL_law_1014 : decode cL_law 1014 = .ok (.invokevirtual 117, 3) := by decide +kernel
theorem dL_law_1017 : decode cL_law 1017 = .ok (.aload_n 2, 1) := by decide +kernel
theorem dL_law_1018 : decode cL_law 1018 = .ok (.aload_n 0, 1) := by decide +kernel
theorem dL_law_1019 : decode cL_law 1019 = .ok (.iload 4, 2) := by decide +kernel
theorem dL_law_1021 : decode cL_law 1021 = .ok (.iconst 1, 1) := by decide +kernel
theorem dL_law_1022 : decode cL_law 1022 = .ok (.iadd, 1) := by decide +kernel
theorem dL_law_1023 : decode cL_law 1023 = .ok (.iaload, 1) := by decide +kernel
theorem dL_law_1024 : decode cL_law 1024 = .ok (.invokevirtual 120, 3) := by decide +kernel
theorem dL_law_1027 : decode cL_law 1027 = .ok (.if_icmp .eq 5, 3) := by decide +kernel
theorem dL_law_1030 : decode cL_law 1030 = .ok (.iconst 0, 1) := by decide +kernel
theorem dL_law_1031 : decode cL_law 1031 = .ok (.ireturn, 1) := by decide +kernel
theorem dL_law_1032 : decode cL_law 1032 = .ok (.iinc 4 5, 3) := by decide +kernel
theorem dL_law_1035 : decode cL_law 1035 = .ok (.goto (-1012), 3) := by decide +kernel
theorem dL_law_1038 : decode cL_law 1038 = .ok (.iconst 1, 1) := by decide +kernel
theorem dL_law_1039 : decode cL_law 1039 = .ok (.ireturn, 1) := by decide +kernel
end
section
def BW : List Cond := lw_tbl.filter goodWord
theorem bw_mem {w : Cond} (i : Nat) (h : lw_tbl[i]? = some w) (g : goodWord w = true) : w ∈ BW := List.mem_filter.mpr ⟨List.mem_of_getElem? h, g⟩
theorem bw_tbl {w : Cond} (h : w ∈ BW) : w ∈ lw_tbl := (List.mem_filter.mp h).1
theorem bw_good {w : Cond} (h : w ∈ BW) : goodWord w = true := (List.mem_filter.mp h).2
theorem bw_all {ws : List Cond} (ps : List Nat) (hp : ws = ps.filterMap (fun i => lw_tbl[i]?)) (h : ws.all goodWord = true) : ∀ w ∈ ws, w ∈ BW := by
  intro w hw
  refine List.mem_filter.mpr ⟨?_, List.all_eq_true.mp h w hw⟩
  rw [hp] at hw
  obtain ⟨i, -, hi⟩ := List.mem_filterMap.mp hw
  exact List.mem_of_getElem? hi
theorem kw_0 : (Cond.selects RX5 yX5_giveBack yX5_giveBack) ∈ BW := bw_mem 0 (by decide +kernel) (by decide +kernel)
theorem kw_1 : (Cond.selects RX5 yX5_setPages yX5_setPages) ∈ BW := bw_mem 1 (by decide +kernel) (by decide +kernel)
theorem kw_2 : (Cond.selects RX0 yX0_isFree yX0_isFree) ∈ BW := bw_mem 2 (by decide +kernel) (by decide +kernel)
theorem kw_3 : (Cond.selects RX0 yX0_setFree yX0_setFree) ∈ BW := bw_mem 3 (by decide +kernel) (by decide +kernel)
theorem kw_4 : (Cond.selects RX5 yX5_slabAt yX5_slabAt) ∈ BW := bw_mem 4 (by decide +kernel) (by decide +kernel)
theorem kw_5 : (Cond.selects RX3 yX3_wasTaken yX3_wasTaken) ∈ BW := bw_mem 5 (by decide +kernel) (by decide +kernel)
theorem kw_7 : (Cond.selects RX5 yX5_knownCache yX5_knownCache) ∈ BW := bw_mem 7 (by decide +kernel) (by decide +kernel)
theorem kw_8 : (Cond.selects RX1 yX1_changePlaces yX1_changePlaces) ∈ BW := bw_mem 8 (by decide +kernel) (by decide +kernel)
theorem kw_9 : (Cond.selects RX5 yX5_takeFromSlabs yX5_takeFromSlabs) ∈ BW := bw_mem 9 (by decide +kernel) (by decide +kernel)
theorem kw_10 : (Cond.selects RX5 yX5_makeSlab yX5_makeSlab) ∈ BW := bw_mem 10 (by decide +kernel) (by decide +kernel)
theorem kw_11 : (Cond.selects RX0 yX0_halve yX0_halve) ∈ BW := bw_mem 11 (by decide +kernel) (by decide +kernel)
theorem kw_12 : (Cond.selects RX3 yX3_makeRoomForOne yX3_makeRoomForOne) ∈ BW := bw_mem 12 (by decide +kernel) (by decide +kernel)
theorem kw_13 : (Cond.selects RX5 yX5_comeBack yX5_comeBack) ∈ BW := bw_mem 13 (by decide +kernel) (by decide +kernel)
theorem kw_14 : (Cond.selects RX5 yX5_unload yX5_unload) ∈ BW := bw_mem 14 (by decide +kernel) (by decide +kernel)
theorem kw_15 : (Cond.selects RX6 yX6_refused yX6_refused) ∈ BW := bw_mem 15 (by decide +kernel) (by decide +kernel)
theorem kw_16 : (Cond.selects RX6 yX6_isCache yX6_isCache) ∈ BW := bw_mem 16 (by decide +kernel) (by decide +kernel)
theorem kw_17 : (Cond.selects RX6 yX6_liveOf yX6_liveOf) ∈ BW := bw_mem 17 (by decide +kernel) (by decide +kernel)
theorem kw_18 : (Cond.selects RX6 yX6_emptyHeld yX6_emptyHeld) ∈ BW := bw_mem 18 (by decide +kernel) (by decide +kernel)
theorem kw_19 : (Cond.selects RX6 yX6_toSlab yX6_toSlab) ∈ BW := bw_mem 19 (by decide +kernel) (by decide +kernel)
theorem kw_20 : (Cond.selects RX6 yX6_change yX6_change) ∈ BW := bw_mem 20 (by decide +kernel) (by decide +kernel)
theorem kw_21 : (Cond.selects RX6 yX6_whichOf yX6_whichOf) ∈ BW := bw_mem 21 (by decide +kernel) (by decide +kernel)
theorem kw_22 : (Cond.selects RX6 yX6_leave yX6_leave) ∈ BW := bw_mem 22 (by decide +kernel) (by decide +kernel)
theorem kw_23 : (Cond.selects RX6 yX6_enter yX6_enter) ∈ BW := bw_mem 23 (by decide +kernel) (by decide +kernel)
theorem kw_24 : (Cond.selects RX6 yX6_emptyDepot yX6_emptyDepot) ∈ BW := bw_mem 24 (by decide +kernel) (by decide +kernel)
theorem kw_25 : (Cond.selects RX6 yX6_giveSlab yX6_giveSlab) ∈ BW := bw_mem 25 (by decide +kernel) (by decide +kernel)
theorem kw_26 : (Cond.selects RX6 yX6_unitOf yX6_unitOf) ∈ BW := bw_mem 26 (by decide +kernel) (by decide +kernel)
theorem kw_27 : (Cond.selects RX6 yX6_giveBlock yX6_giveBlock) ∈ BW := bw_mem 27 (by decide +kernel) (by decide +kernel)
theorem kw_28 : (Cond.selects RX6 yX6_swap yX6_swap) ∈ BW := bw_mem 28 (by decide +kernel) (by decide +kernel)
theorem kw_29 : (Cond.selects RX6 yX6_fromSlabs yX6_fromSlabs) ∈ BW := bw_mem 29 (by decide +kernel) (by decide +kernel)
theorem kw_30 : (Cond.selects RX6 yX6_makeSlab yX6_makeSlab) ∈ BW := bw_mem 30 (by decide +kernel) (by decide +kernel)
theorem kw_31 : (Cond.selects RX6 yX6_takeBlock yX6_takeBlock) ∈ BW := bw_mem 31 (by decide +kernel) (by decide +kernel)
theorem kw_32 : (Cond.selects RX6 yX6_reapAll yX6_reapAll) ∈ BW := bw_mem 32 (by decide +kernel) (by decide +kernel)
theorem kw_33 : (Cond.selects RX6 yX6_isLive yX6_isLive) ∈ BW := bw_mem 33 (by decide +kernel) (by decide +kernel)
theorem kw_34 : (Cond.selects RX6 yX6_cacheAt yX6_cacheAt) ∈ BW := bw_mem 34 (by decide +kernel) (by decide +kernel)
theorem kw_35 : (Cond.selects RX6 yX6_slabAt yX6_slabAt) ∈ BW := bw_mem 35 (by decide +kernel) (by decide +kernel)
theorem kw_36 : (Cond.initialized RL) ∈ BW := bw_mem 36 (by decide +kernel) (by decide +kernel)
theorem kw_37 : (Cond.initialized RX5) ∈ BW := bw_mem 37 (by decide +kernel) (by decide +kernel)
theorem kw_38 : (Cond.initialized RX0) ∈ BW := bw_mem 38 (by decide +kernel) (by decide +kernel)
theorem kw_39 : (Cond.initialized RJ7) ∈ BW := bw_mem 39 (by decide +kernel) (by decide +kernel)
theorem kw_40 : (Cond.initialized RX6) ∈ BW := bw_mem 40 (by decide +kernel) (by decide +kernel)
theorem kw_44 : (Cond.initialized "java/lang/IllegalArgumentException") ∈ BW := bw_mem 44 (by decide +kernel) (by decide +kernel)
theorem kw_45 : (Cond.initialized RX1) ∈ BW := bw_mem 45 (by decide +kernel) (by decide +kernel)
theorem kw_46 : (Cond.initialized RX4) ∈ BW := bw_mem 46 (by decide +kernel) (by decide +kernel)
theorem kw_47 : (Cond.initialized RX2) ∈ BW := bw_mem 47 (by decide +kernel) (by decide +kernel)
theorem kw_48 : (Cond.initialized "java/util/NoSuchElementException") ∈ BW := bw_mem 48 (by decide +kernel) (by decide +kernel)
theorem kw_49 : (Cond.initialized "java/lang/IllegalStateException") ∈ BW := bw_mem 49 (by decide +kernel) (by decide +kernel)
theorem kw_50 : (Cond.initialized "java/lang/Math") ∈ BW := bw_mem 50 (by decide +kernel) (by decide +kernel)
theorem kw_51 : (Cond.initialized RX3) ∈ BW := bw_mem 51 (by decide +kernel) (by decide +kernel)
theorem kw_52 : (Cond.initialized "java/lang/System") ∈ BW := bw_mem 52 (by decide +kernel) (by decide +kernel)
theorem kw_53 : (Cond.classLink RL 8 RX5) ∈ BW := bw_mem 53 (by decide +kernel) (by decide +kernel)
theorem kw_54 : (Cond.instantiable RX5 4) ∈ BW := bw_mem 54 (by decide +kernel) (by decide +kernel)
theorem kw_55 : (Cond.methodLink RL 55 yX5_init) ∈ BW := bw_mem 55 (by decide +kernel) (by decide +kernel)
theorem kw_56 : (Cond.instanceMethod yX5_init) ∈ BW := bw_mem 56 (by decide +kernel) (by decide +kernel)
theorem kw_57 : (Cond.code yX5_init cX5_init 1 none) ∈ BW := bw_mem 57 (by decide +kernel) (by decide +kernel)
theorem kw_58 : (Cond.methodLink RX5 3 objectInit) ∈ BW := bw_mem 58 (by decide +kernel) (by decide +kernel)
theorem kw_59 : (Cond.instanceMethod objectInit) ∈ BW := bw_mem 59 (by decide +kernel) (by decide +kernel)
theorem kw_60 : (Cond.code objectInit ⟨#[0xb1]⟩ 1 none) ∈ BW := bw_mem 60 (by decide +kernel) (by decide +kernel)
theorem kw_61 : (Cond.classLink RX5 9 RX0) ∈ BW := bw_mem 61 (by decide +kernel) (by decide +kernel)
theorem kw_62 : (Cond.instantiable RX0 2) ∈ BW := bw_mem 62 (by decide +kernel) (by decide +kernel)
theorem kw_63 : (Cond.methodLink RX5 11 yX0_init) ∈ BW := bw_mem 63 (by decide +kernel) (by decide +kernel)
theorem kw_64 : (Cond.instanceMethod yX0_init) ∈ BW := bw_mem 64 (by decide +kernel) (by decide +kernel)
theorem kw_65 : (Cond.code yX0_init cX0_init 2 none) ∈ BW := bw_mem 65 (by decide +kernel) (by decide +kernel)
theorem kw_66 : (Cond.methodLink RX0 3 objectInit) ∈ BW := bw_mem 66 (by decide +kernel) (by decide +kernel)
theorem kw_67 : (Cond.methodLink RX0 19 yJ7_fill_53178) ∈ BW := bw_mem 67 (by decide +kernel) (by decide +kernel)
theorem kw_68 : (Cond.static yJ7_fill_53178) ∈ BW := bw_mem 68 (by decide +kernel) (by decide +kernel)
theorem kw_69 : (Cond.code yJ7_fill_53178 cJ7_fill_53178 4 none) ∈ BW := bw_mem 69 (by decide +kernel) (by decide +kernel)
theorem kw_70 : (Cond.fieldLink RX0 9 "SlabHouse$Blocks" "freeOrder" "[I") ∈ BW := bw_mem 70 (by decide +kernel) (by decide +kernel)
theorem kw_71 : (Cond.fieldLink RX0 15 "SlabHouse$Blocks" "freePages" "I") ∈ BW := bw_mem 71 (by decide +kernel) (by decide +kernel)
theorem kw_72 : (Cond.fieldLink RX5 222 "SlabHouse$Blocks" "freePages" "I") ∈ BW := bw_mem 72 (by decide +kernel) (by decide +kernel)
theorem kw_78 : (Cond.arrayClass .int) ∈ BW := bw_mem 78 (by decide +kernel) (by decide +kernel)
theorem kw_79 : (Cond.classLink RX5 16 RX3) ∈ BW := bw_mem 79 (by decide +kernel) (by decide +kernel)
theorem kw_81 : (Cond.classLink RX5 22 RX1) ∈ BW := bw_mem 81 (by decide +kernel) (by decide +kernel)
theorem kw_83 : (Cond.fieldLink RX5 12 "SlabHouse" "blocks" "LSlabHouse$Blocks;") ∈ BW := bw_mem 83 (by decide +kernel) (by decide +kernel)
theorem kw_84 : (Cond.fieldLink RX5 18 "SlabHouse" "slabOfPage" "[LSlabHouse$Slab;") ∈ BW := bw_mem 84 (by decide +kernel) (by decide +kernel)
theorem kw_85 : (Cond.fieldLink RX5 24 "SlabHouse" "caches" "[LSlabHouse$Cache;") ∈ BW := bw_mem 85 (by decide +kernel) (by decide +kernel)
theorem kw_86 : (Cond.fieldLink RX5 45 "SlabHouse" "toldCaches" "I") ∈ BW := bw_mem 86 (by decide +kernel) (by decide +kernel)
theorem kw_96 : (Cond.methodLink RL 89 yX5_reap) ∈ BW := bw_mem 96 (by decide +kernel) (by decide +kernel)
theorem kw_97 : (Cond.instanceMethod yX5_reap) ∈ BW := bw_mem 97 (by decide +kernel) (by decide +kernel)
theorem kw_98 : (Cond.selects RX5 yX5_reap yX5_reap) ∈ BW := bw_mem 98 (by decide +kernel) (by decide +kernel)
theorem kw_99 : (Cond.code yX5_reap cX5_reap 5 (some .int)) ∈ BW := bw_mem 99 (by decide +kernel) (by decide +kernel)
theorem kw_100 : (Cond.methodLink RX5 68 yX5_giveBack) ∈ BW := bw_mem 100 (by decide +kernel) (by decide +kernel)
theorem kw_102 : (Cond.instanceMethod yX5_giveBack) ∈ BW := bw_mem 102 (by decide +kernel) (by decide +kernel)
theorem kw_103 : (Cond.code yX5_giveBack cX5_giveBack 2 (some .int)) ∈ BW := bw_mem 103 (by decide +kernel) (by decide +kernel)
theorem kw_104 : (Cond.methodLink RX5 263 yX1_unlist) ∈ BW := bw_mem 104 (by decide +kernel) (by decide +kernel)
theorem kw_105 : (Cond.instanceMethod yX1_unlist) ∈ BW := bw_mem 105 (by decide +kernel) (by decide +kernel)
theorem kw_106 : (Cond.selects RX1 yX1_unlist yX1_unlist) ∈ BW := bw_mem 106 (by decide +kernel) (by decide +kernel)
theorem kw_107 : (Cond.code yX1_unlist cX1_unlist 2 none) ∈ BW := bw_mem 107 (by decide +kernel) (by decide +kernel)
theorem kw_108 : (Cond.methodLink RX1 76 yX4_remove) ∈ BW := bw_mem 108 (by decide +kernel) (by decide +kernel)
theorem kw_109 : (Cond.instanceMethod yX4_remove) ∈ BW := bw_mem 109 (by decide +kernel) (by decide +kernel)
theorem kw_110 : (Cond.selects RX4 yX4_remove yX4_remove) ∈ BW := bw_mem 110 (by decide +kernel) (by decide +kernel)
theorem kw_111 : (Cond.code yX4_remove cX4_remove 2 none) ∈ BW := bw_mem 111 (by decide +kernel) (by decide +kernel)
theorem kw_112 : (Cond.methodLink RX5 253 yX5_setPages) ∈ BW := bw_mem 112 (by decide +kernel) (by decide +kernel)
theorem kw_114 : (Cond.instanceMethod yX5_setPages) ∈ BW := bw_mem 114 (by decide +kernel) (by decide +kernel)
theorem kw_115 : (Cond.code yX5_setPages cX5_setPages 5 none) ∈ BW := bw_mem 115 (by decide +kernel) (by decide +kernel)
theorem kw_116 : (Cond.methodLink RX5 271 Lib.Math.min.name) ∈ BW := bw_mem 116 (by decide +kernel) (by decide +kernel)
theorem kw_117 : (Cond.static Lib.Math.min.name) ∈ BW := bw_mem 117 (by decide +kernel) (by decide +kernel)
theorem kw_118 : (Cond.code Lib.Math.min.name Lib.Math.min.code 2 (some .int)) ∈ BW := bw_mem 118 (by decide +kernel) (by decide +kernel)
theorem kw_119 : (Cond.methodLink RX5 269 yX0_giveBack) ∈ BW := bw_mem 119 (by decide +kernel) (by decide +kernel)
theorem kw_120 : (Cond.instanceMethod yX0_giveBack) ∈ BW := bw_mem 120 (by decide +kernel) (by decide +kernel)
theorem kw_121 : (Cond.selects RX0 yX0_giveBack yX0_giveBack) ∈ BW := bw_mem 121 (by decide +kernel) (by decide +kernel)
theorem kw_122 : (Cond.code yX0_giveBack cX0_giveBack 5 none) ∈ BW := bw_mem 122 (by decide +kernel) (by decide +kernel)
theorem kw_123 : (Cond.methodLink RX0 37 yX0_isFree) ∈ BW := bw_mem 123 (by decide +kernel) (by decide +kernel)
theorem kw_125 : (Cond.instanceMethod yX0_isFree) ∈ BW := bw_mem 125 (by decide +kernel) (by decide +kernel)
theorem kw_126 : (Cond.code yX0_isFree cX0_isFree 3 (some .boolean)) ∈ BW := bw_mem 126 (by decide +kernel) (by decide +kernel)
theorem kw_127 : (Cond.methodLink RX0 33 yX0_setFree) ∈ BW := bw_mem 127 (by decide +kernel) (by decide +kernel)
theorem kw_129 : (Cond.instanceMethod yX0_setFree) ∈ BW := bw_mem 129 (by decide +kernel) (by decide +kernel)
theorem kw_130 : (Cond.code yX0_setFree cX0_setFree 3 none) ∈ BW := bw_mem 130 (by decide +kernel) (by decide +kernel)
theorem kw_131 : (Cond.methodLink RL 93 yX5_cacheOf) ∈ BW := bw_mem 131 (by decide +kernel) (by decide +kernel)
theorem kw_132 : (Cond.instanceMethod yX5_cacheOf) ∈ BW := bw_mem 132 (by decide +kernel) (by decide +kernel)
theorem kw_133 : (Cond.selects RX5 yX5_cacheOf yX5_cacheOf) ∈ BW := bw_mem 133 (by decide +kernel) (by decide +kernel)
theorem kw_134 : (Cond.code yX5_cacheOf cX5_cacheOf 3 (some .int)) ∈ BW := bw_mem 134 (by decide +kernel) (by decide +kernel)
theorem kw_135 : (Cond.methodLink RX5 87 yX5_slabAt) ∈ BW := bw_mem 135 (by decide +kernel) (by decide +kernel)
theorem kw_137 : (Cond.instanceMethod yX5_slabAt) ∈ BW := bw_mem 137 (by decide +kernel) (by decide +kernel)
theorem kw_138 : (Cond.code yX5_slabAt cX5_slabAt 2 (some (.object "SlabHouse$Slab"))) ∈ BW := bw_mem 138 (by decide +kernel) (by decide +kernel)
theorem kw_139 : (Cond.constant RX5 229 (262144)) ∈ BW := bw_mem 139 (by decide +kernel) (by decide +kernel)
theorem kw_140 : (Cond.methodLink RL 97 yX5_objectOf) ∈ BW := bw_mem 140 (by decide +kernel) (by decide +kernel)
theorem kw_141 : (Cond.instanceMethod yX5_objectOf) ∈ BW := bw_mem 141 (by decide +kernel) (by decide +kernel)
theorem kw_142 : (Cond.selects RX5 yX5_objectOf yX5_objectOf) ∈ BW := bw_mem 142 (by decide +kernel) (by decide +kernel)
theorem kw_143 : (Cond.code yX5_objectOf cX5_objectOf 5 (some .int)) ∈ BW := bw_mem 143 (by decide +kernel) (by decide +kernel)
theorem kw_144 : (Cond.methodLink RX5 94 yX3_numberOver) ∈ BW := bw_mem 144 (by decide +kernel) (by decide +kernel)
theorem kw_145 : (Cond.instanceMethod yX3_numberOver) ∈ BW := bw_mem 145 (by decide +kernel) (by decide +kernel)
theorem kw_146 : (Cond.selects RX3 yX3_numberOver yX3_numberOver) ∈ BW := bw_mem 146 (by decide +kernel) (by decide +kernel)
theorem kw_147 : (Cond.code yX3_numberOver cX3_numberOver 4 (some .int)) ∈ BW := bw_mem 147 (by decide +kernel) (by decide +kernel)
theorem kw_148 : (Cond.methodLink RX3 59 yX3_beginOf) ∈ BW := bw_mem 148 (by decide +kernel) (by decide +kernel)
theorem kw_149 : (Cond.instanceMethod yX3_beginOf) ∈ BW := bw_mem 149 (by decide +kernel) (by decide +kernel)
theorem kw_150 : (Cond.selects RX3 yX3_beginOf yX3_beginOf) ∈ BW := bw_mem 150 (by decide +kernel) (by decide +kernel)
theorem kw_151 : (Cond.code yX3_beginOf cX3_beginOf 2 (some .int)) ∈ BW := bw_mem 151 (by decide +kernel) (by decide +kernel)
theorem kw_152 : (Cond.methodLink RX3 49 yX3_firstByte) ∈ BW := bw_mem 152 (by decide +kernel) (by decide +kernel)
theorem kw_153 : (Cond.instanceMethod yX3_firstByte) ∈ BW := bw_mem 153 (by decide +kernel) (by decide +kernel)
theorem kw_154 : (Cond.selects RX3 yX3_firstByte yX3_firstByte) ∈ BW := bw_mem 154 (by decide +kernel) (by decide +kernel)
theorem kw_155 : (Cond.code yX3_firstByte cX3_firstByte 1 (some .int)) ∈ BW := bw_mem 155 (by decide +kernel) (by decide +kernel)
theorem kw_156 : (Cond.methodLink RX5 156 yX3_isLive) ∈ BW := bw_mem 156 (by decide +kernel) (by decide +kernel)
theorem kw_157 : (Cond.instanceMethod yX3_isLive) ∈ BW := bw_mem 157 (by decide +kernel) (by decide +kernel)
theorem kw_158 : (Cond.selects RX3 yX3_isLive yX3_isLive) ∈ BW := bw_mem 158 (by decide +kernel) (by decide +kernel)
theorem kw_159 : (Cond.code yX3_isLive cX3_isLive 2 (some .boolean)) ∈ BW := bw_mem 159 (by decide +kernel) (by decide +kernel)
theorem kw_160 : (Cond.methodLink RX3 63 yX3_wasTaken) ∈ BW := bw_mem 160 (by decide +kernel) (by decide +kernel)
theorem kw_162 : (Cond.instanceMethod yX3_wasTaken) ∈ BW := bw_mem 162 (by decide +kernel) (by decide +kernel)
theorem kw_163 : (Cond.instantiable RX3 11) ∈ BW := bw_mem 163 (by decide +kernel) (by decide +kernel)
theorem kw_164 : (Cond.code yX3_wasTaken cX3_wasTaken 2 (some .boolean)) ∈ BW := bw_mem 164 (by decide +kernel) (by decide +kernel)
theorem kw_165 : (Cond.methodLink RX5 159 yX3_beginOf) ∈ BW := bw_mem 165 (by decide +kernel) (by decide +kernel)
theorem kw_166 : (Cond.methodLink RL 117 yX5_pages) ∈ BW := bw_mem 166 (by decide +kernel) (by decide +kernel)
theorem kw_167 : (Cond.instanceMethod yX5_pages) ∈ BW := bw_mem 167 (by decide +kernel) (by decide +kernel)
theorem kw_168 : (Cond.selects RX5 yX5_pages yX5_pages) ∈ BW := bw_mem 168 (by decide +kernel) (by decide +kernel)
theorem kw_169 : (Cond.code yX5_pages cX5_pages 2 (some .int)) ∈ BW := bw_mem 169 (by decide +kernel) (by decide +kernel)
theorem kw_170 : (Cond.methodLink RL 59 yL_cache) ∈ BW := bw_mem 170 (by decide +kernel) (by decide +kernel)
theorem kw_171 : (Cond.static yL_cache) ∈ BW := bw_mem 171 (by decide +kernel) (by decide +kernel)
theorem kw_172 : (Cond.codeWith yL_cache cL_cache 7 (some .int) [(0, 14, 17, 13)]) ∈ BW := bw_mem 172 (by decide +kernel) (by decide +kernel)
theorem kw_173 : (Cond.classLink RL 13 "java/lang/IllegalArgumentException") ∈ BW := bw_mem 173 (by decide +kernel) (by decide +kernel)
theorem kw_174 : (Cond.methodLink RL 7 yX5_cache) ∈ BW := bw_mem 174 (by decide +kernel) (by decide +kernel)
theorem kw_175 : (Cond.instanceMethod yX5_cache) ∈ BW := bw_mem 175 (by decide +kernel) (by decide +kernel)
theorem kw_176 : (Cond.selects RX5 yX5_cache yX5_cache) ∈ BW := bw_mem 176 (by decide +kernel) (by decide +kernel)
theorem kw_177 : (Cond.code yX5_cache cX5_cache 6 (some .int)) ∈ BW := bw_mem 177 (by decide +kernel) (by decide +kernel)
theorem kw_178 : (Cond.classLink RX5 28 "java/lang/IllegalArgumentException") ∈ BW := bw_mem 178 (by decide +kernel) (by decide +kernel)
theorem kw_248 : (Cond.methodLink RX5 39 yX5_roundedUp) ∈ BW := bw_mem 248 (by decide +kernel) (by decide +kernel)
theorem kw_249 : (Cond.static yX5_roundedUp) ∈ BW := bw_mem 249 (by decide +kernel) (by decide +kernel)
theorem kw_250 : (Cond.code yX5_roundedUp cX5_roundedUp 2 (some .int)) ∈ BW := bw_mem 250 (by decide +kernel) (by decide +kernel)
theorem kw_252 : (Cond.instantiable RX1 17) ∈ BW := bw_mem 252 (by decide +kernel) (by decide +kernel)
theorem kw_253 : (Cond.methodLink RX5 49 yX1_init) ∈ BW := bw_mem 253 (by decide +kernel) (by decide +kernel)
theorem kw_254 : (Cond.instanceMethod yX1_init) ∈ BW := bw_mem 254 (by decide +kernel) (by decide +kernel)
theorem kw_255 : (Cond.code yX1_init cX1_init 9 none) ∈ BW := bw_mem 255 (by decide +kernel) (by decide +kernel)
theorem kw_256 : (Cond.methodLink RX1 3 objectInit) ∈ BW := bw_mem 256 (by decide +kernel) (by decide +kernel)
theorem kw_257 : (Cond.classLink RX1 9 RX4) ∈ BW := bw_mem 257 (by decide +kernel) (by decide +kernel)
theorem kw_259 : (Cond.classLink RX1 17 RX2) ∈ BW := bw_mem 259 (by decide +kernel) (by decide +kernel)
theorem kw_262 : (Cond.instantiable RX4 1) ∈ BW := bw_mem 262 (by decide +kernel) (by decide +kernel)
theorem kw_264 : (Cond.instanceMethod yX4_init) ∈ BW := bw_mem 264 (by decide +kernel) (by decide +kernel)
theorem kw_265 : (Cond.code yX4_init cX4_init 1 none) ∈ BW := bw_mem 265 (by decide +kernel) (by decide +kernel)
theorem kw_266 : (Cond.methodLink RX4 1 objectInit) ∈ BW := bw_mem 266 (by decide +kernel) (by decide +kernel)
theorem kw_267 : (Cond.fieldLink RX4 13 "SlabHouse$SlabList" "first" "LSlabHouse$Slab;") ∈ BW := bw_mem 267 (by decide +kernel) (by decide +kernel)
theorem kw_268 : (Cond.fieldLink RX5 147 "SlabHouse$SlabList" "first" "LSlabHouse$Slab;") ∈ BW := bw_mem 268 (by decide +kernel) (by decide +kernel)
theorem kw_272 : (Cond.instantiable RX2 2) ∈ BW := bw_mem 272 (by decide +kernel) (by decide +kernel)
theorem kw_274 : (Cond.instanceMethod yX2_init) ∈ BW := bw_mem 274 (by decide +kernel) (by decide +kernel)
theorem kw_275 : (Cond.code yX2_init cX2_init 1 none) ∈ BW := bw_mem 275 (by decide +kernel) (by decide +kernel)
theorem kw_276 : (Cond.methodLink RX2 3 objectInit) ∈ BW := bw_mem 276 (by decide +kernel) (by decide +kernel)
theorem kw_277 : (Cond.fieldLink RX2 9 "SlabHouse$Magazine" "addresses" "[I") ∈ BW := bw_mem 277 (by decide +kernel) (by decide +kernel)
theorem kw_278 : (Cond.fieldLink RX2 15 "SlabHouse$Magazine" "count" "I") ∈ BW := bw_mem 278 (by decide +kernel) (by decide +kernel)
theorem kw_279 : (Cond.fieldLink RX1 79 "SlabHouse$Magazine" "count" "I") ∈ BW := bw_mem 279 (by decide +kernel) (by decide +kernel)
theorem kw_280 : (Cond.fieldLink RX5 207 "SlabHouse$Magazine" "count" "I") ∈ BW := bw_mem 280 (by decide +kernel) (by decide +kernel)
theorem kw_286 : (Cond.fieldLink RX1 29 "SlabHouse$Cache" "number" "I") ∈ BW := bw_mem 286 (by decide +kernel) (by decide +kernel)
theorem kw_287 : (Cond.fieldLink RX5 72 "SlabHouse$Cache" "number" "I") ∈ BW := bw_mem 287 (by decide +kernel) (by decide +kernel)
theorem kw_288 : (Cond.fieldLink RX1 33 "SlabHouse$Cache" "size" "I") ∈ BW := bw_mem 288 (by decide +kernel) (by decide +kernel)
theorem kw_289 : (Cond.fieldLink RX5 162 "SlabHouse$Cache" "size" "I") ∈ BW := bw_mem 289 (by decide +kernel) (by decide +kernel)
theorem kw_290 : (Cond.fieldLink RX1 36 "SlabHouse$Cache" "align" "I") ∈ BW := bw_mem 290 (by decide +kernel) (by decide +kernel)
theorem kw_291 : (Cond.fieldLink RX3 53 "SlabHouse$Cache" "align" "I") ∈ BW := bw_mem 291 (by decide +kernel) (by decide +kernel)
theorem kw_292 : (Cond.fieldLink RX1 39 "SlabHouse$Cache" "order" "I") ∈ BW := bw_mem 292 (by decide +kernel) (by decide +kernel)
theorem kw_293 : (Cond.fieldLink RX5 241 "SlabHouse$Cache" "order" "I") ∈ BW := bw_mem 293 (by decide +kernel) (by decide +kernel)
theorem kw_294 : (Cond.fieldLink RX1 42 "SlabHouse$Cache" "tag" "I") ∈ BW := bw_mem 294 (by decide +kernel) (by decide +kernel)
theorem kw_295 : (Cond.fieldLink RX5 113 "SlabHouse$Cache" "tag" "I") ∈ BW := bw_mem 295 (by decide +kernel) (by decide +kernel)
theorem kw_296 : (Cond.fieldLink RX3 73 "SlabHouse$Cache" "tag" "I") ∈ BW := bw_mem 296 (by decide +kernel) (by decide +kernel)
theorem kw_297 : (Cond.fieldLink RX1 49 "SlabHouse$Cache" "stride" "I") ∈ BW := bw_mem 297 (by decide +kernel) (by decide +kernel)
theorem kw_298 : (Cond.fieldLink RX3 56 "SlabHouse$Cache" "stride" "I") ∈ BW := bw_mem 298 (by decide +kernel) (by decide +kernel)
theorem kw_299 : (Cond.fieldLink RX5 165 "SlabHouse$Cache" "stride" "I") ∈ BW := bw_mem 299 (by decide +kernel) (by decide +kernel)
theorem kw_300 : (Cond.fieldLink RX3 28 "SlabHouse$Cache" "objects" "I") ∈ BW := bw_mem 300 (by decide +kernel) (by decide +kernel)
theorem kw_301 : (Cond.fieldLink RX1 52 "SlabHouse$Cache" "objects" "I") ∈ BW := bw_mem 301 (by decide +kernel) (by decide +kernel)
theorem kw_302 : (Cond.fieldLink RX5 168 "SlabHouse$Cache" "objects" "I") ∈ BW := bw_mem 302 (by decide +kernel) (by decide +kernel)
theorem kw_303 : (Cond.fieldLink RX1 55 "SlabHouse$Cache" "colours" "I") ∈ BW := bw_mem 303 (by decide +kernel) (by decide +kernel)
theorem kw_304 : (Cond.fieldLink RX5 171 "SlabHouse$Cache" "colours" "I") ∈ BW := bw_mem 304 (by decide +kernel) (by decide +kernel)
theorem kw_305 : (Cond.fieldLink RX5 174 "SlabHouse$Cache" "nextColour" "I") ∈ BW := bw_mem 305 (by decide +kernel) (by decide +kernel)
theorem kw_306 : (Cond.fieldLink RX5 177 "SlabHouse$Cache" "slabs" "I") ∈ BW := bw_mem 306 (by decide +kernel) (by decide +kernel)
theorem kw_307 : (Cond.fieldLink RX5 56 "SlabHouse$Cache" "live" "I") ∈ BW := bw_mem 307 (by decide +kernel) (by decide +kernel)
theorem kw_308 : (Cond.fieldLink RX5 91 "SlabHouse$Cache" "misses" "I") ∈ BW := bw_mem 308 (by decide +kernel) (by decide +kernel)
theorem kw_309 : (Cond.fieldLink RX1 11 "SlabHouse$Cache" "lists" "[LSlabHouse$SlabList;") ∈ BW := bw_mem 309 (by decide +kernel) (by decide +kernel)
theorem kw_310 : (Cond.fieldLink RX5 143 "SlabHouse$Cache" "lists" "[LSlabHouse$SlabList;") ∈ BW := bw_mem 310 (by decide +kernel) (by decide +kernel)
theorem kw_311 : (Cond.fieldLink RX1 19 "SlabHouse$Cache" "loaded" "[LSlabHouse$Magazine;") ∈ BW := bw_mem 311 (by decide +kernel) (by decide +kernel)
theorem kw_312 : (Cond.fieldLink RX5 128 "SlabHouse$Cache" "loaded" "[LSlabHouse$Magazine;") ∈ BW := bw_mem 312 (by decide +kernel) (by decide +kernel)
theorem kw_313 : (Cond.fieldLink RX1 23 "SlabHouse$Cache" "previous" "[LSlabHouse$Magazine;") ∈ BW := bw_mem 313 (by decide +kernel) (by decide +kernel)
theorem kw_314 : (Cond.fieldLink RX5 136 "SlabHouse$Cache" "previous" "[LSlabHouse$Magazine;") ∈ BW := bw_mem 314 (by decide +kernel) (by decide +kernel)
theorem kw_315 : (Cond.fieldLink RX1 26 "SlabHouse$Cache" "depot" "[LSlabHouse$Magazine;") ∈ BW := bw_mem 315 (by decide +kernel) (by decide +kernel)
theorem kw_316 : (Cond.fieldLink RX1 97 "SlabHouse$Cache" "inDepot" "I") ∈ BW := bw_mem 316 (by decide +kernel) (by decide +kernel)
theorem kw_317 : (Cond.fieldLink RX5 212 "SlabHouse$Cache" "inDepot" "I") ∈ BW := bw_mem 317 (by decide +kernel) (by decide +kernel)
theorem kw_353 : (Cond.methodLink RL 69 yL_drop) ∈ BW := bw_mem 353 (by decide +kernel) (by decide +kernel)
theorem kw_354 : (Cond.static yL_drop) ∈ BW := bw_mem 354 (by decide +kernel) (by decide +kernel)
theorem kw_355 : (Cond.codeWith yL_drop cL_drop 4 (some .int) [(0, 9, 12, 19), (0, 9, 15, 21)]) ∈ BW := bw_mem 355 (by decide +kernel) (by decide +kernel)
theorem kw_356 : (Cond.classLink RL 19 "java/util/NoSuchElementException") ∈ BW := bw_mem 356 (by decide +kernel) (by decide +kernel)
theorem kw_357 : (Cond.classLink RL 21 "java/lang/IllegalStateException") ∈ BW := bw_mem 357 (by decide +kernel) (by decide +kernel)
theorem kw_358 : (Cond.methodLink RL 15 yX5_drop) ∈ BW := bw_mem 358 (by decide +kernel) (by decide +kernel)
theorem kw_359 : (Cond.instanceMethod yX5_drop) ∈ BW := bw_mem 359 (by decide +kernel) (by decide +kernel)
theorem kw_360 : (Cond.selects RX5 yX5_drop yX5_drop) ∈ BW := bw_mem 360 (by decide +kernel) (by decide +kernel)
theorem kw_361 : (Cond.code yX5_drop cX5_drop 6 (some .int)) ∈ BW := bw_mem 361 (by decide +kernel) (by decide +kernel)
theorem kw_362 : (Cond.methodLink RX5 52 yX5_knownCache) ∈ BW := bw_mem 362 (by decide +kernel) (by decide +kernel)
theorem kw_364 : (Cond.instanceMethod yX5_knownCache) ∈ BW := bw_mem 364 (by decide +kernel) (by decide +kernel)
theorem kw_365 : (Cond.code yX5_knownCache cX5_knownCache 2 (some (.object "SlabHouse$Cache"))) ∈ BW := bw_mem 365 (by decide +kernel) (by decide +kernel)
theorem kw_366 : (Cond.classLink RX5 105 "java/util/NoSuchElementException") ∈ BW := bw_mem 366 (by decide +kernel) (by decide +kernel)
theorem kw_382 : (Cond.classLink RX5 59 "java/lang/IllegalStateException") ∈ BW := bw_mem 382 (by decide +kernel) (by decide +kernel)
theorem kw_398 : (Cond.methodLink RL 73 yL_allocate) ∈ BW := bw_mem 398 (by decide +kernel) (by decide +kernel)
theorem kw_399 : (Cond.static yL_allocate) ∈ BW := bw_mem 399 (by decide +kernel) (by decide +kernel)
theorem kw_400 : (Cond.codeWith yL_allocate cL_allocate 5 (some .int) [(0, 10, 13, 19), (0, 10, 17, 13)]) ∈ BW := bw_mem 400 (by decide +kernel) (by decide +kernel)
theorem kw_401 : (Cond.methodLink RL 23 yX5_allocate) ∈ BW := bw_mem 401 (by decide +kernel) (by decide +kernel)
theorem kw_402 : (Cond.instanceMethod yX5_allocate) ∈ BW := bw_mem 402 (by decide +kernel) (by decide +kernel)
theorem kw_403 : (Cond.selects RX5 yX5_allocate yX5_allocate) ∈ BW := bw_mem 403 (by decide +kernel) (by decide +kernel)
theorem kw_404 : (Cond.code yX5_allocate cX5_allocate 6 (some .int)) ∈ BW := bw_mem 404 (by decide +kernel) (by decide +kernel)
theorem kw_405 : (Cond.methodLink RX5 75 yX5_requireProcessor) ∈ BW := bw_mem 405 (by decide +kernel) (by decide +kernel)
theorem kw_406 : (Cond.static yX5_requireProcessor) ∈ BW := bw_mem 406 (by decide +kernel) (by decide +kernel)
theorem kw_407 : (Cond.code yX5_requireProcessor cX5_requireProcessor 1 none) ∈ BW := bw_mem 407 (by decide +kernel) (by decide +kernel)
theorem kw_409 : (Cond.methodLink RX5 79 yX1_takeFromMagazines) ∈ BW := bw_mem 409 (by decide +kernel) (by decide +kernel)
theorem kw_410 : (Cond.instanceMethod yX1_takeFromMagazines) ∈ BW := bw_mem 410 (by decide +kernel) (by decide +kernel)
theorem kw_411 : (Cond.selects RX1 yX1_takeFromMagazines yX1_takeFromMagazines) ∈ BW := bw_mem 411 (by decide +kernel) (by decide +kernel)
theorem kw_412 : (Cond.code yX1_takeFromMagazines cX1_takeFromMagazines 3 (some .int)) ∈ BW := bw_mem 412 (by decide +kernel) (by decide +kernel)
theorem kw_413 : (Cond.methodLink RX1 82 yX1_changePlaces) ∈ BW := bw_mem 413 (by decide +kernel) (by decide +kernel)
theorem kw_415 : (Cond.instanceMethod yX1_changePlaces) ∈ BW := bw_mem 415 (by decide +kernel) (by decide +kernel)
theorem kw_416 : (Cond.code yX1_changePlaces cX1_changePlaces 3 none) ∈ BW := bw_mem 416 (by decide +kernel) (by decide +kernel)
theorem kw_417 : (Cond.methodLink RX1 86 yX1_takeFromDepot) ∈ BW := bw_mem 417 (by decide +kernel) (by decide +kernel)
theorem kw_418 : (Cond.instanceMethod yX1_takeFromDepot) ∈ BW := bw_mem 418 (by decide +kernel) (by decide +kernel)
theorem kw_419 : (Cond.selects RX1 yX1_takeFromDepot yX1_takeFromDepot) ∈ BW := bw_mem 419 (by decide +kernel) (by decide +kernel)
theorem kw_420 : (Cond.code yX1_takeFromDepot cX1_takeFromDepot 2 (some (.object "SlabHouse$Magazine"))) ∈ BW := bw_mem 420 (by decide +kernel) (by decide +kernel)
theorem kw_421 : (Cond.methodLink RX1 90 yX2_takeLast) ∈ BW := bw_mem 421 (by decide +kernel) (by decide +kernel)
theorem kw_422 : (Cond.instanceMethod yX2_takeLast) ∈ BW := bw_mem 422 (by decide +kernel) (by decide +kernel)
theorem kw_423 : (Cond.selects RX2 yX2_takeLast yX2_takeLast) ∈ BW := bw_mem 423 (by decide +kernel) (by decide +kernel)
theorem kw_424 : (Cond.code yX2_takeLast cX2_takeLast 1 (some .int)) ∈ BW := bw_mem 424 (by decide +kernel) (by decide +kernel)
theorem kw_425 : (Cond.methodLink RX5 83 yX5_takeFromSlabs) ∈ BW := bw_mem 425 (by decide +kernel) (by decide +kernel)
theorem kw_427 : (Cond.instanceMethod yX5_takeFromSlabs) ∈ BW := bw_mem 427 (by decide +kernel) (by decide +kernel)
theorem kw_428 : (Cond.code yX5_takeFromSlabs cX5_takeFromSlabs 4 (some .int)) ∈ BW := bw_mem 428 (by decide +kernel) (by decide +kernel)
theorem kw_429 : (Cond.methodLink RX5 230 yX5_makeSlab) ∈ BW := bw_mem 429 (by decide +kernel) (by decide +kernel)
theorem kw_431 : (Cond.instanceMethod yX5_makeSlab) ∈ BW := bw_mem 431 (by decide +kernel) (by decide +kernel)
theorem kw_432 : (Cond.code yX5_makeSlab cX5_makeSlab 4 (some (.object "SlabHouse$Slab"))) ∈ BW := bw_mem 432 (by decide +kernel) (by decide +kernel)
theorem kw_433 : (Cond.methodLink RX5 244 yX0_take) ∈ BW := bw_mem 433 (by decide +kernel) (by decide +kernel)
theorem kw_434 : (Cond.instanceMethod yX0_take) ∈ BW := bw_mem 434 (by decide +kernel) (by decide +kernel)
theorem kw_435 : (Cond.selects RX0 yX0_take yX0_take) ∈ BW := bw_mem 435 (by decide +kernel) (by decide +kernel)
theorem kw_436 : (Cond.code yX0_take cX0_take 4 (some .int)) ∈ BW := bw_mem 436 (by decide +kernel) (by decide +kernel)
theorem kw_437 : (Cond.methodLink RX0 25 yX0_freePage) ∈ BW := bw_mem 437 (by decide +kernel) (by decide +kernel)
theorem kw_438 : (Cond.instanceMethod yX0_freePage) ∈ BW := bw_mem 438 (by decide +kernel) (by decide +kernel)
theorem kw_439 : (Cond.selects RX0 yX0_freePage yX0_freePage) ∈ BW := bw_mem 439 (by decide +kernel) (by decide +kernel)
theorem kw_440 : (Cond.code yX0_freePage cX0_freePage 5 (some .int)) ∈ BW := bw_mem 440 (by decide +kernel) (by decide +kernel)
theorem kw_441 : (Cond.methodLink RX0 29 yX0_halve) ∈ BW := bw_mem 441 (by decide +kernel) (by decide +kernel)
theorem kw_443 : (Cond.instanceMethod yX0_halve) ∈ BW := bw_mem 443 (by decide +kernel) (by decide +kernel)
theorem kw_444 : (Cond.code yX0_halve cX0_halve 5 none) ∈ BW := bw_mem 444 (by decide +kernel) (by decide +kernel)
theorem kw_445 : (Cond.methodLink RX5 247 yX5_reap) ∈ BW := bw_mem 445 (by decide +kernel) (by decide +kernel)
theorem kw_446 : (Cond.methodLink RX5 250 yX3_init) ∈ BW := bw_mem 446 (by decide +kernel) (by decide +kernel)
theorem kw_447 : (Cond.instanceMethod yX3_init) ∈ BW := bw_mem 447 (by decide +kernel) (by decide +kernel)
theorem kw_448 : (Cond.code yX3_init cX3_init 5 none) ∈ BW := bw_mem 448 (by decide +kernel) (by decide +kernel)
theorem kw_449 : (Cond.methodLink RX3 3 objectInit) ∈ BW := bw_mem 449 (by decide +kernel) (by decide +kernel)
theorem kw_450 : (Cond.methodLink RX3 33 Lib.Math.min.name) ∈ BW := bw_mem 450 (by decide +kernel) (by decide +kernel)
theorem kw_451 : (Cond.methodLink RX3 39 Lib.Math.max.name) ∈ BW := bw_mem 451 (by decide +kernel) (by decide +kernel)
theorem kw_452 : (Cond.static Lib.Math.max.name) ∈ BW := bw_mem 452 (by decide +kernel) (by decide +kernel)
theorem kw_453 : (Cond.code Lib.Math.max.name Lib.Math.max.code 2 (some .int)) ∈ BW := bw_mem 453 (by decide +kernel) (by decide +kernel)
theorem kw_454 : (Cond.fieldLink RX3 18 "SlabHouse$Slab" "owner" "LSlabHouse$Cache;") ∈ BW := bw_mem 454 (by decide +kernel) (by decide +kernel)
theorem kw_455 : (Cond.fieldLink RX5 64 "SlabHouse$Slab" "owner" "LSlabHouse$Cache;") ∈ BW := bw_mem 455 (by decide +kernel) (by decide +kernel)
theorem kw_456 : (Cond.fieldLink RX3 22 "SlabHouse$Slab" "page" "I") ∈ BW := bw_mem 456 (by decide +kernel) (by decide +kernel)
theorem kw_457 : (Cond.fieldLink RX5 266 "SlabHouse$Slab" "page" "I") ∈ BW := bw_mem 457 (by decide +kernel) (by decide +kernel)
theorem kw_458 : (Cond.fieldLink RX3 25 "SlabHouse$Slab" "colour" "I") ∈ BW := bw_mem 458 (by decide +kernel) (by decide +kernel)
theorem kw_459 : (Cond.fieldLink RX5 196 "SlabHouse$Slab" "colour" "I") ∈ BW := bw_mem 459 (by decide +kernel) (by decide +kernel)
theorem kw_460 : (Cond.fieldLink RX3 79 "SlabHouse$Slab" "notFree" "I") ∈ BW := bw_mem 460 (by decide +kernel) (by decide +kernel)
theorem kw_461 : (Cond.fieldLink RX5 199 "SlabHouse$Slab" "notFree" "I") ∈ BW := bw_mem 461 (by decide +kernel) (by decide +kernel)
theorem kw_462 : (Cond.fieldLink RX3 9 "SlabHouse$Slab" "listed" "I") ∈ BW := bw_mem 462 (by decide +kernel) (by decide +kernel)
theorem kw_463 : (Cond.fieldLink RX1 66 "SlabHouse$Slab" "listed" "I") ∈ BW := bw_mem 463 (by decide +kernel) (by decide +kernel)
theorem kw_464 : (Cond.fieldLink RX4 7 "SlabHouse$Slab" "before" "LSlabHouse$Slab;") ∈ BW := bw_mem 464 (by decide +kernel) (by decide +kernel)
theorem kw_465 : (Cond.fieldLink RX4 18 "SlabHouse$Slab" "after" "LSlabHouse$Slab;") ∈ BW := bw_mem 465 (by decide +kernel) (by decide +kernel)
theorem kw_466 : (Cond.fieldLink RX5 153 "SlabHouse$Slab" "after" "LSlabHouse$Slab;") ∈ BW := bw_mem 466 (by decide +kernel) (by decide +kernel)
theorem kw_467 : (Cond.fieldLink RX3 82 "SlabHouse$Slab" "neverTaken" "I") ∈ BW := bw_mem 467 (by decide +kernel) (by decide +kernel)
theorem kw_468 : (Cond.fieldLink RX3 15 "SlabHouse$Slab" "cameBack" "I") ∈ BW := bw_mem 468 (by decide +kernel) (by decide +kernel)
theorem kw_469 : (Cond.fieldLink RX3 42 "SlabHouse$Slab" "links" "[I") ∈ BW := bw_mem 469 (by decide +kernel) (by decide +kernel)
theorem kw_470 : (Cond.fieldLink RX3 46 "SlabHouse$Slab" "marks" "[I") ∈ BW := bw_mem 470 (by decide +kernel) (by decide +kernel)
theorem kw_494 : (Cond.methodLink RX5 237 yX1_relist) ∈ BW := bw_mem 494 (by decide +kernel) (by decide +kernel)
theorem kw_495 : (Cond.instanceMethod yX1_relist) ∈ BW := bw_mem 495 (by decide +kernel) (by decide +kernel)
theorem kw_496 : (Cond.selects RX1 yX1_relist yX1_relist) ∈ BW := bw_mem 496 (by decide +kernel) (by decide +kernel)
theorem kw_497 : (Cond.code yX1_relist cX1_relist 3 none) ∈ BW := bw_mem 497 (by decide +kernel) (by decide +kernel)
theorem kw_498 : (Cond.methodLink RX1 60 yX3_kind) ∈ BW := bw_mem 498 (by decide +kernel) (by decide +kernel)
theorem kw_499 : (Cond.instanceMethod yX3_kind) ∈ BW := bw_mem 499 (by decide +kernel) (by decide +kernel)
theorem kw_500 : (Cond.selects RX3 yX3_kind yX3_kind) ∈ BW := bw_mem 500 (by decide +kernel) (by decide +kernel)
theorem kw_501 : (Cond.code yX3_kind cX3_kind 1 (some .int)) ∈ BW := bw_mem 501 (by decide +kernel) (by decide +kernel)
theorem kw_502 : (Cond.methodLink RX1 69 yX1_unlist) ∈ BW := bw_mem 502 (by decide +kernel) (by decide +kernel)
theorem kw_503 : (Cond.methodLink RX1 73 yX4_putFirst) ∈ BW := bw_mem 503 (by decide +kernel) (by decide +kernel)
theorem kw_504 : (Cond.instanceMethod yX4_putFirst) ∈ BW := bw_mem 504 (by decide +kernel) (by decide +kernel)
theorem kw_505 : (Cond.selects RX4 yX4_putFirst yX4_putFirst) ∈ BW := bw_mem 505 (by decide +kernel) (by decide +kernel)
theorem kw_506 : (Cond.code yX4_putFirst cX4_putFirst 2 none) ∈ BW := bw_mem 506 (by decide +kernel) (by decide +kernel)
theorem kw_507 : (Cond.methodLink RX5 234 yX3_takeFirst) ∈ BW := bw_mem 507 (by decide +kernel) (by decide +kernel)
theorem kw_508 : (Cond.instanceMethod yX3_takeFirst) ∈ BW := bw_mem 508 (by decide +kernel) (by decide +kernel)
theorem kw_509 : (Cond.selects RX3 yX3_takeFirst yX3_takeFirst) ∈ BW := bw_mem 509 (by decide +kernel) (by decide +kernel)
theorem kw_510 : (Cond.code yX3_takeFirst cX3_takeFirst 2 (some .int)) ∈ BW := bw_mem 510 (by decide +kernel) (by decide +kernel)
theorem kw_511 : (Cond.methodLink RX3 85 yX3_firstFree) ∈ BW := bw_mem 511 (by decide +kernel) (by decide +kernel)
theorem kw_512 : (Cond.instanceMethod yX3_firstFree) ∈ BW := bw_mem 512 (by decide +kernel) (by decide +kernel)
theorem kw_513 : (Cond.selects RX3 yX3_firstFree yX3_firstFree) ∈ BW := bw_mem 513 (by decide +kernel) (by decide +kernel)
theorem kw_514 : (Cond.code yX3_firstFree cX3_firstFree 1 (some .int)) ∈ BW := bw_mem 514 (by decide +kernel) (by decide +kernel)
theorem kw_515 : (Cond.methodLink RX3 88 yX3_makeRoomForOne) ∈ BW := bw_mem 515 (by decide +kernel) (by decide +kernel)
theorem kw_517 : (Cond.instanceMethod yX3_makeRoomForOne) ∈ BW := bw_mem 517 (by decide +kernel) (by decide +kernel)
theorem kw_518 : (Cond.code yX3_makeRoomForOne cX3_makeRoomForOne 2 none) ∈ BW := bw_mem 518 (by decide +kernel) (by decide +kernel)
theorem kw_519 : (Cond.methodLink RX3 91 yJ7_copyOf_59c91) ∈ BW := bw_mem 519 (by decide +kernel) (by decide +kernel)
theorem kw_520 : (Cond.static yJ7_copyOf_59c91) ∈ BW := bw_mem 520 (by decide +kernel) (by decide +kernel)
theorem kw_521 : (Cond.code yJ7_copyOf_59c91 cJ7_copyOf_59c91 3 (some (.array .int))) ∈ BW := bw_mem 521 (by decide +kernel) (by decide +kernel)
theorem kw_522 : (Cond.methodLink RJ7 316 ⟨"[I", "clone", "()Ljava/lang/Object;"⟩) ∈ BW := bw_mem 522 (by decide +kernel) (by decide +kernel)
theorem kw_523 : (Cond.sameMethod "[I" "java/lang/Object" "clone" "()Ljava/lang/Object;") ∈ BW := bw_mem 523 (by decide +kernel) (by decide +kernel)
theorem kw_524 : (Cond.native ⟨"java/lang/Object", "clone", "()Ljava/lang/Object;"⟩) ∈ BW := bw_mem 524 (by decide +kernel) (by decide +kernel)
theorem kw_525 : (Cond.instanceMethod ⟨"java/lang/Object", "clone", "()Ljava/lang/Object;"⟩) ∈ BW := bw_mem 525 (by decide +kernel) (by decide +kernel)
theorem kw_526 : (Cond.selects "[I" ⟨"[I", "clone", "()Ljava/lang/Object;"⟩ ⟨"java/lang/Object", "clone", "()Ljava/lang/Object;"⟩) ∈ BW := bw_mem 526 (by decide +kernel) (by decide +kernel)
theorem kw_528 : (Cond.classLink RJ7 317 "[I") ∈ BW := bw_mem 528 (by decide +kernel) (by decide +kernel)
theorem kw_529 : (Cond.methodLink RJ7 304 Lib.Math.min.name) ∈ BW := bw_mem 529 (by decide +kernel) (by decide +kernel)
theorem kw_530 : (Cond.methodLink RJ7 150 arraycopyName) ∈ BW := bw_mem 530 (by decide +kernel) (by decide +kernel)
theorem kw_531 : (Cond.static arraycopyName) ∈ BW := bw_mem 531 (by decide +kernel) (by decide +kernel)
theorem kw_532 : (Cond.native arraycopyName) ∈ BW := bw_mem 532 (by decide +kernel) (by decide +kernel)
theorem kw_533 : (Cond.methodLink RX5 97 yX3_become) ∈ BW := bw_mem 533 (by decide +kernel) (by decide +kernel)
theorem kw_534 : (Cond.instanceMethod yX3_become) ∈ BW := bw_mem 534 (by decide +kernel) (by decide +kernel)
theorem kw_535 : (Cond.selects RX3 yX3_become yX3_become) ∈ BW := bw_mem 535 (by decide +kernel) (by decide +kernel)
theorem kw_536 : (Cond.code yX3_become cX3_become 3 none) ∈ BW := bw_mem 536 (by decide +kernel) (by decide +kernel)
theorem kw_537 : (Cond.methodLink RL 77 yL_free) ∈ BW := bw_mem 537 (by decide +kernel) (by decide +kernel)
theorem kw_538 : (Cond.static yL_free) ∈ BW := bw_mem 538 (by decide +kernel) (by decide +kernel)
theorem kw_539 : (Cond.codeWith yL_free cL_free 5 (some .int) [(0, 10, 13, 19), (0, 10, 17, 13), (0, 10, 21, 21)]) ∈ BW := bw_mem 539 (by decide +kernel) (by decide +kernel)
theorem kw_540 : (Cond.methodLink RL 27 yX5_free) ∈ BW := bw_mem 540 (by decide +kernel) (by decide +kernel)
theorem kw_541 : (Cond.instanceMethod yX5_free) ∈ BW := bw_mem 541 (by decide +kernel) (by decide +kernel)
theorem kw_542 : (Cond.selects RX5 yX5_free yX5_free) ∈ BW := bw_mem 542 (by decide +kernel) (by decide +kernel)
theorem kw_543 : (Cond.code yX5_free cX5_free 6 (some .int)) ∈ BW := bw_mem 543 (by decide +kernel) (by decide +kernel)
theorem kw_544 : (Cond.methodLink RX5 101 yX3_liveBeginsAt) ∈ BW := bw_mem 544 (by decide +kernel) (by decide +kernel)
theorem kw_545 : (Cond.instanceMethod yX3_liveBeginsAt) ∈ BW := bw_mem 545 (by decide +kernel) (by decide +kernel)
theorem kw_546 : (Cond.selects RX3 yX3_liveBeginsAt yX3_liveBeginsAt) ∈ BW := bw_mem 546 (by decide +kernel) (by decide +kernel)
theorem kw_547 : (Cond.code yX3_liveBeginsAt cX3_liveBeginsAt 3 (some .boolean)) ∈ BW := bw_mem 547 (by decide +kernel) (by decide +kernel)
theorem kw_548 : (Cond.methodLink RX3 67 yX3_numberOver) ∈ BW := bw_mem 548 (by decide +kernel) (by decide +kernel)
theorem kw_549 : (Cond.methodLink RX3 70 yX3_isLive) ∈ BW := bw_mem 549 (by decide +kernel) (by decide +kernel)
theorem kw_551 : (Cond.methodLink RX5 110 yX3_markOf) ∈ BW := bw_mem 551 (by decide +kernel) (by decide +kernel)
theorem kw_552 : (Cond.instanceMethod yX3_markOf) ∈ BW := bw_mem 552 (by decide +kernel) (by decide +kernel)
theorem kw_553 : (Cond.selects RX3 yX3_markOf yX3_markOf) ∈ BW := bw_mem 553 (by decide +kernel) (by decide +kernel)
theorem kw_554 : (Cond.code yX3_markOf cX3_markOf 2 (some .int)) ∈ BW := bw_mem 554 (by decide +kernel) (by decide +kernel)
theorem kw_556 : (Cond.methodLink RX5 118 yX1_putIntoMagazines) ∈ BW := bw_mem 556 (by decide +kernel) (by decide +kernel)
theorem kw_557 : (Cond.instanceMethod yX1_putIntoMagazines) ∈ BW := bw_mem 557 (by decide +kernel) (by decide +kernel)
theorem kw_558 : (Cond.selects RX1 yX1_putIntoMagazines yX1_putIntoMagazines) ∈ BW := bw_mem 558 (by decide +kernel) (by decide +kernel)
theorem kw_559 : (Cond.code yX1_putIntoMagazines cX1_putIntoMagazines 3 (some .boolean)) ∈ BW := bw_mem 559 (by decide +kernel) (by decide +kernel)
theorem kw_560 : (Cond.methodLink RX1 93 yX2_isFull) ∈ BW := bw_mem 560 (by decide +kernel) (by decide +kernel)
theorem kw_561 : (Cond.instanceMethod yX2_isFull) ∈ BW := bw_mem 561 (by decide +kernel) (by decide +kernel)
theorem kw_562 : (Cond.selects RX2 yX2_isFull yX2_isFull) ∈ BW := bw_mem 562 (by decide +kernel) (by decide +kernel)
theorem kw_563 : (Cond.code yX2_isFull cX2_isFull 1 (some .boolean)) ∈ BW := bw_mem 563 (by decide +kernel) (by decide +kernel)
theorem kw_564 : (Cond.methodLink RX1 100 yX2_put) ∈ BW := bw_mem 564 (by decide +kernel) (by decide +kernel)
theorem kw_565 : (Cond.instanceMethod yX2_put) ∈ BW := bw_mem 565 (by decide +kernel) (by decide +kernel)
theorem kw_566 : (Cond.selects RX2 yX2_put yX2_put) ∈ BW := bw_mem 566 (by decide +kernel) (by decide +kernel)
theorem kw_567 : (Cond.code yX2_put cX2_put 2 (some .boolean)) ∈ BW := bw_mem 567 (by decide +kernel) (by decide +kernel)
theorem kw_568 : (Cond.methodLink RX2 19 yX2_isFull) ∈ BW := bw_mem 568 (by decide +kernel) (by decide +kernel)
theorem kw_569 : (Cond.methodLink RX5 122 yX5_comeBack) ∈ BW := bw_mem 569 (by decide +kernel) (by decide +kernel)
theorem kw_571 : (Cond.instanceMethod yX5_comeBack) ∈ BW := bw_mem 571 (by decide +kernel) (by decide +kernel)
theorem kw_572 : (Cond.code yX5_comeBack cX5_comeBack 3 none) ∈ BW := bw_mem 572 (by decide +kernel) (by decide +kernel)
theorem kw_573 : (Cond.methodLink RX5 260 yX3_putFirst) ∈ BW := bw_mem 573 (by decide +kernel) (by decide +kernel)
theorem kw_574 : (Cond.instanceMethod yX3_putFirst) ∈ BW := bw_mem 574 (by decide +kernel) (by decide +kernel)
theorem kw_575 : (Cond.selects RX3 yX3_putFirst yX3_putFirst) ∈ BW := bw_mem 575 (by decide +kernel) (by decide +kernel)
theorem kw_576 : (Cond.code yX3_putFirst cX3_putFirst 2 none) ∈ BW := bw_mem 576 (by decide +kernel) (by decide +kernel)
theorem kw_577 : (Cond.methodLink RL 80 yL_mark) ∈ BW := bw_mem 577 (by decide +kernel) (by decide +kernel)
theorem kw_578 : (Cond.static yL_mark) ∈ BW := bw_mem 578 (by decide +kernel) (by decide +kernel)
theorem kw_579 : (Cond.codeWith yL_mark cL_mark 5 (some .int) [(0, 10, 13, 19)]) ∈ BW := bw_mem 579 (by decide +kernel) (by decide +kernel)
theorem kw_580 : (Cond.methodLink RL 30 yX5_mark) ∈ BW := bw_mem 580 (by decide +kernel) (by decide +kernel)
theorem kw_581 : (Cond.instanceMethod yX5_mark) ∈ BW := bw_mem 581 (by decide +kernel) (by decide +kernel)
theorem kw_582 : (Cond.selects RX5 yX5_mark yX5_mark) ∈ BW := bw_mem 582 (by decide +kernel) (by decide +kernel)
theorem kw_583 : (Cond.code yX5_mark cX5_mark 4 (some .int)) ∈ BW := bw_mem 583 (by decide +kernel) (by decide +kernel)
theorem kw_584 : (Cond.methodLink RX5 125 yX3_changeMark) ∈ BW := bw_mem 584 (by decide +kernel) (by decide +kernel)
theorem kw_585 : (Cond.instanceMethod yX3_changeMark) ∈ BW := bw_mem 585 (by decide +kernel) (by decide +kernel)
theorem kw_586 : (Cond.selects RX3 yX3_changeMark yX3_changeMark) ∈ BW := bw_mem 586 (by decide +kernel) (by decide +kernel)
theorem kw_587 : (Cond.code yX3_changeMark cX3_changeMark 4 (some .int)) ∈ BW := bw_mem 587 (by decide +kernel) (by decide +kernel)
theorem kw_588 : (Cond.methodLink RX3 76 yX3_markOf) ∈ BW := bw_mem 588 (by decide +kernel) (by decide +kernel)
theorem kw_589 : (Cond.methodLink RL 83 yL_flush) ∈ BW := bw_mem 589 (by decide +kernel) (by decide +kernel)
theorem kw_590 : (Cond.static yL_flush) ∈ BW := bw_mem 590 (by decide +kernel) (by decide +kernel)
theorem kw_591 : (Cond.codeWith yL_flush cL_flush 4 (some .int) [(0, 9, 12, 13)]) ∈ BW := bw_mem 591 (by decide +kernel) (by decide +kernel)
theorem kw_592 : (Cond.methodLink RL 33 yX5_flush) ∈ BW := bw_mem 592 (by decide +kernel) (by decide +kernel)
theorem kw_593 : (Cond.instanceMethod yX5_flush) ∈ BW := bw_mem 593 (by decide +kernel) (by decide +kernel)
theorem kw_594 : (Cond.selects RX5 yX5_flush yX5_flush) ∈ BW := bw_mem 594 (by decide +kernel) (by decide +kernel)
theorem kw_595 : (Cond.code yX5_flush cX5_flush 5 (some .int)) ∈ BW := bw_mem 595 (by decide +kernel) (by decide +kernel)
theorem kw_596 : (Cond.methodLink RX5 132 yX5_unload) ∈ BW := bw_mem 596 (by decide +kernel) (by decide +kernel)
theorem kw_598 : (Cond.instanceMethod yX5_unload) ∈ BW := bw_mem 598 (by decide +kernel) (by decide +kernel)
theorem kw_599 : (Cond.code yX5_unload cX5_unload 4 (some .int)) ∈ BW := bw_mem 599 (by decide +kernel) (by decide +kernel)
theorem kw_600 : (Cond.methodLink RX5 257 yX2_takeLast) ∈ BW := bw_mem 600 (by decide +kernel) (by decide +kernel)
theorem kw_601 : (Cond.methodLink RL 86 yL_empty) ∈ BW := bw_mem 601 (by decide +kernel) (by decide +kernel)
theorem kw_602 : (Cond.static yL_empty) ∈ BW := bw_mem 602 (by decide +kernel) (by decide +kernel)
theorem kw_603 : (Cond.codeWith yL_empty cL_empty 4 (some .int) [(0, 9, 12, 19)]) ∈ BW := bw_mem 603 (by decide +kernel) (by decide +kernel)
theorem kw_604 : (Cond.methodLink RL 36 yX5_empty) ∈ BW := bw_mem 604 (by decide +kernel) (by decide +kernel)
theorem kw_605 : (Cond.instanceMethod yX5_empty) ∈ BW := bw_mem 605 (by decide +kernel) (by decide +kernel)
theorem kw_606 : (Cond.selects RX5 yX5_empty yX5_empty) ∈ BW := bw_mem 606 (by decide +kernel) (by decide +kernel)
theorem kw_607 : (Cond.code yX5_empty cX5_empty 6 (some .int)) ∈ BW := bw_mem 607 (by decide +kernel) (by decide +kernel)
theorem kw_608 : (Cond.methodLink RX5 139 yX1_takeFromDepot) ∈ BW := bw_mem 608 (by decide +kernel) (by decide +kernel)
theorem kw_609 : (Cond.methodLink RL 101 yL_about) ∈ BW := bw_mem 609 (by decide +kernel) (by decide +kernel)
theorem kw_610 : (Cond.static yL_about) ∈ BW := bw_mem 610 (by decide +kernel) (by decide +kernel)
theorem kw_611 : (Cond.codeWith yL_about cL_about 5 (some .int) [(0, 10, 13, 19), (0, 10, 17, 13)]) ∈ BW := bw_mem 611 (by decide +kernel) (by decide +kernel)
theorem kw_612 : (Cond.methodLink RL 39 yX5_about) ∈ BW := bw_mem 612 (by decide +kernel) (by decide +kernel)
theorem kw_613 : (Cond.instanceMethod yX5_about) ∈ BW := bw_mem 613 (by decide +kernel) (by decide +kernel)
theorem kw_614 : (Cond.selects RX5 yX5_about yX5_about) ∈ BW := bw_mem 614 (by decide +kernel) (by decide +kernel)
theorem kw_615 : (Cond.code yX5_about cX5_about 4 (some .int)) ∈ BW := bw_mem 615 (by decide +kernel) (by decide +kernel)
theorem kw_616 : (Cond.methodLink RX5 180 yX1_inMagazines) ∈ BW := bw_mem 616 (by decide +kernel) (by decide +kernel)
theorem kw_617 : (Cond.instanceMethod yX1_inMagazines) ∈ BW := bw_mem 617 (by decide +kernel) (by decide +kernel)
theorem kw_618 : (Cond.selects RX1 yX1_inMagazines yX1_inMagazines) ∈ BW := bw_mem 618 (by decide +kernel) (by decide +kernel)
theorem kw_619 : (Cond.code yX1_inMagazines cX1_inMagazines 3 (some .int)) ∈ BW := bw_mem 619 (by decide +kernel) (by decide +kernel)
theorem kw_621 : (Cond.methodLink RL 104 yL_list) ∈ BW := bw_mem 621 (by decide +kernel) (by decide +kernel)
theorem kw_622 : (Cond.static yL_list) ∈ BW := bw_mem 622 (by decide +kernel) (by decide +kernel)
theorem kw_623 : (Cond.codeWith yL_list cL_list 6 (some .int) [(0, 12, 15, 19), (0, 12, 19, 13)]) ∈ BW := bw_mem 623 (by decide +kernel) (by decide +kernel)
theorem kw_624 : (Cond.methodLink RL 42 yX5_list) ∈ BW := bw_mem 624 (by decide +kernel) (by decide +kernel)
theorem kw_625 : (Cond.instanceMethod yX5_list) ∈ BW := bw_mem 625 (by decide +kernel) (by decide +kernel)
theorem kw_626 : (Cond.selects RX5 yX5_list yX5_list) ∈ BW := bw_mem 626 (by decide +kernel) (by decide +kernel)
theorem kw_627 : (Cond.code yX5_list cX5_list 6 (some .int)) ∈ BW := bw_mem 627 (by decide +kernel) (by decide +kernel)
theorem kw_629 : (Cond.methodLink RX5 188 yX4_slabAtPlace) ∈ BW := bw_mem 629 (by decide +kernel) (by decide +kernel)
theorem kw_630 : (Cond.instanceMethod yX4_slabAtPlace) ∈ BW := bw_mem 630 (by decide +kernel) (by decide +kernel)
theorem kw_631 : (Cond.selects RX4 yX4_slabAtPlace yX4_slabAtPlace) ∈ BW := bw_mem 631 (by decide +kernel) (by decide +kernel)
theorem kw_632 : (Cond.code yX4_slabAtPlace cX4_slabAtPlace 4 (some (.object "SlabHouse$Slab"))) ∈ BW := bw_mem 632 (by decide +kernel) (by decide +kernel)
theorem kw_633 : (Cond.methodLink RX5 191 yX3_firstByte) ∈ BW := bw_mem 633 (by decide +kernel) (by decide +kernel)
theorem kw_634 : (Cond.methodLink RL 108 yL_slab) ∈ BW := bw_mem 634 (by decide +kernel) (by decide +kernel)
theorem kw_635 : (Cond.static yL_slab) ∈ BW := bw_mem 635 (by decide +kernel) (by decide +kernel)
theorem kw_636 : (Cond.codeWith yL_slab cL_slab 5 (some .int) [(0, 10, 13, 19), (0, 10, 17, 13)]) ∈ BW := bw_mem 636 (by decide +kernel) (by decide +kernel)
theorem kw_637 : (Cond.methodLink RL 46 yX5_slab) ∈ BW := bw_mem 637 (by decide +kernel) (by decide +kernel)
theorem kw_638 : (Cond.instanceMethod yX5_slab) ∈ BW := bw_mem 638 (by decide +kernel) (by decide +kernel)
theorem kw_639 : (Cond.selects RX5 yX5_slab yX5_slab) ∈ BW := bw_mem 639 (by decide +kernel) (by decide +kernel)
theorem kw_640 : (Cond.code yX5_slab cX5_slab 4 (some .int)) ∈ BW := bw_mem 640 (by decide +kernel) (by decide +kernel)
theorem kw_642 : (Cond.methodLink RX5 202 yX3_firstFree) ∈ BW := bw_mem 642 (by decide +kernel) (by decide +kernel)
theorem kw_644 : (Cond.methodLink RL 111 yL_magazine) ∈ BW := bw_mem 644 (by decide +kernel) (by decide +kernel)
theorem kw_645 : (Cond.static yL_magazine) ∈ BW := bw_mem 645 (by decide +kernel) (by decide +kernel)
theorem kw_646 : (Cond.codeWith yL_magazine cL_magazine 6 (some .int) [(0, 12, 15, 19), (0, 12, 19, 13)]) ∈ BW := bw_mem 646 (by decide +kernel) (by decide +kernel)
theorem kw_647 : (Cond.methodLink RL 49 yX5_magazine) ∈ BW := bw_mem 647 (by decide +kernel) (by decide +kernel)
theorem kw_648 : (Cond.instanceMethod yX5_magazine) ∈ BW := bw_mem 648 (by decide +kernel) (by decide +kernel)
theorem kw_649 : (Cond.selects RX5 yX5_magazine yX5_magazine) ∈ BW := bw_mem 649 (by decide +kernel) (by decide +kernel)
theorem kw_650 : (Cond.code yX5_magazine cX5_magazine 5 (some .int)) ∈ BW := bw_mem 650 (by decide +kernel) (by decide +kernel)
theorem kw_652 : (Cond.methodLink RL 114 yL_block) ∈ BW := bw_mem 652 (by decide +kernel) (by decide +kernel)
theorem kw_653 : (Cond.static yL_block) ∈ BW := bw_mem 653 (by decide +kernel) (by decide +kernel)
theorem kw_654 : (Cond.codeWith yL_block cL_block 5 (some .int) [(0, 10, 13, 13)]) ∈ BW := bw_mem 654 (by decide +kernel) (by decide +kernel)
theorem kw_655 : (Cond.methodLink RL 52 yX5_block) ∈ BW := bw_mem 655 (by decide +kernel) (by decide +kernel)
theorem kw_656 : (Cond.instanceMethod yX5_block) ∈ BW := bw_mem 656 (by decide +kernel) (by decide +kernel)
theorem kw_657 : (Cond.selects RX5 yX5_block yX5_block) ∈ BW := bw_mem 657 (by decide +kernel) (by decide +kernel)
theorem kw_658 : (Cond.code yX5_block cX5_block 3 (some .int)) ∈ BW := bw_mem 658 (by decide +kernel) (by decide +kernel)
theorem kw_660 : (Cond.methodLink RX5 219 yX0_freePage) ∈ BW := bw_mem 660 (by decide +kernel) (by decide +kernel)
theorem kw_661 : (Cond.classLink RL 56 RX6) ∈ BW := bw_mem 661 (by decide +kernel) (by decide +kernel)
theorem kw_662 : (Cond.instantiable RX6 27) ∈ BW := bw_mem 662 (by decide +kernel) (by decide +kernel)
theorem kw_663 : (Cond.methodLink RL 58 yX6_init) ∈ BW := bw_mem 663 (by decide +kernel) (by decide +kernel)
theorem kw_664 : (Cond.instanceMethod yX6_init) ∈ BW := bw_mem 664 (by decide +kernel) (by decide +kernel)
theorem kw_665 : (Cond.code yX6_init cX6_init 2 none) ∈ BW := bw_mem 665 (by decide +kernel) (by decide +kernel)
theorem kw_666 : (Cond.methodLink RX6 1 objectInit) ∈ BW := bw_mem 666 (by decide +kernel) (by decide +kernel)
theorem kw_667 : (Cond.constant RX6 59 (32768)) ∈ BW := bw_mem 667 (by decide +kernel) (by decide +kernel)
theorem kw_668 : (Cond.fieldLink RX6 87 "SlabHouseModel" "fault" "I") ∈ BW := bw_mem 668 (by decide +kernel) (by decide +kernel)
theorem kw_669 : (Cond.fieldLink RX6 7 "SlabHouseModel" "freeOrder" "[I") ∈ BW := bw_mem 669 (by decide +kernel) (by decide +kernel)
theorem kw_670 : (Cond.fieldLink RX6 13 "SlabHouseModel" "slabPage" "[I") ∈ BW := bw_mem 670 (by decide +kernel) (by decide +kernel)
theorem kw_671 : (Cond.fieldLink RX6 91 "SlabHouseModel" "told" "I") ∈ BW := bw_mem 671 (by decide +kernel) (by decide +kernel)
theorem kw_672 : (Cond.fieldLink RX6 16 "SlabHouseModel" "isGone" "[Z") ∈ BW := bw_mem 672 (by decide +kernel) (by decide +kernel)
theorem kw_673 : (Cond.fieldLink RX6 20 "SlabHouseModel" "sizes" "[I") ∈ BW := bw_mem 673 (by decide +kernel) (by decide +kernel)
theorem kw_674 : (Cond.fieldLink RX6 23 "SlabHouseModel" "aligns" "[I") ∈ BW := bw_mem 674 (by decide +kernel) (by decide +kernel)
theorem kw_675 : (Cond.fieldLink RX6 26 "SlabHouseModel" "orders" "[I") ∈ BW := bw_mem 675 (by decide +kernel) (by decide +kernel)
theorem kw_676 : (Cond.fieldLink RX6 29 "SlabHouseModel" "tags" "[I") ∈ BW := bw_mem 676 (by decide +kernel) (by decide +kernel)
theorem kw_677 : (Cond.fieldLink RX6 32 "SlabHouseModel" "strides" "[I") ∈ BW := bw_mem 677 (by decide +kernel) (by decide +kernel)
theorem kw_678 : (Cond.fieldLink RX6 35 "SlabHouseModel" "fits" "[I") ∈ BW := bw_mem 678 (by decide +kernel) (by decide +kernel)
theorem kw_679 : (Cond.fieldLink RX6 38 "SlabHouseModel" "colours" "[I") ∈ BW := bw_mem 679 (by decide +kernel) (by decide +kernel)
theorem kw_680 : (Cond.fieldLink RX6 41 "SlabHouseModel" "nextColour" "[I") ∈ BW := bw_mem 680 (by decide +kernel) (by decide +kernel)
theorem kw_681 : (Cond.fieldLink RX6 44 "SlabHouseModel" "misses" "[I") ∈ BW := bw_mem 681 (by decide +kernel) (by decide +kernel)
theorem kw_682 : (Cond.fieldLink RX6 47 "SlabHouseModel" "owner" "[I") ∈ BW := bw_mem 682 (by decide +kernel) (by decide +kernel)
theorem kw_683 : (Cond.fieldLink RX6 50 "SlabHouseModel" "colour" "[I") ∈ BW := bw_mem 683 (by decide +kernel) (by decide +kernel)
theorem kw_684 : (Cond.fieldLink RX6 53 "SlabHouseModel" "used" "[I") ∈ BW := bw_mem 684 (by decide +kernel) (by decide +kernel)
theorem kw_685 : (Cond.fieldLink RX6 56 "SlabHouseModel" "head" "[I") ∈ BW := bw_mem 685 (by decide +kernel) (by decide +kernel)
theorem kw_686 : (Cond.fieldLink RX6 60 "SlabHouseModel" "state" "[I") ∈ BW := bw_mem 686 (by decide +kernel) (by decide +kernel)
theorem kw_687 : (Cond.fieldLink RX6 63 "SlabHouseModel" "next" "[I") ∈ BW := bw_mem 687 (by decide +kernel) (by decide +kernel)
theorem kw_688 : (Cond.fieldLink RX6 66 "SlabHouseModel" "marks" "[I") ∈ BW := bw_mem 688 (by decide +kernel) (by decide +kernel)
theorem kw_689 : (Cond.fieldLink RX6 69 "SlabHouseModel" "listSize" "[I") ∈ BW := bw_mem 689 (by decide +kernel) (by decide +kernel)
theorem kw_690 : (Cond.fieldLink RX6 72 "SlabHouseModel" "lists" "[I") ∈ BW := bw_mem 690 (by decide +kernel) (by decide +kernel)
theorem kw_691 : (Cond.fieldLink RX6 75 "SlabHouseModel" "heldSize" "[I") ∈ BW := bw_mem 691 (by decide +kernel) (by decide +kernel)
theorem kw_692 : (Cond.fieldLink RX6 78 "SlabHouseModel" "held" "[I") ∈ BW := bw_mem 692 (by decide +kernel) (by decide +kernel)
theorem kw_693 : (Cond.fieldLink RX6 81 "SlabHouseModel" "depotSize" "[I") ∈ BW := bw_mem 693 (by decide +kernel) (by decide +kernel)
theorem kw_694 : (Cond.fieldLink RX6 84 "SlabHouseModel" "depot" "[I") ∈ BW := bw_mem 694 (by decide +kernel) (by decide +kernel)
theorem kw_750 : (Cond.arrayClass .boolean) ∈ BW := bw_mem 750 (by decide +kernel) (by decide +kernel)
theorem kw_751 : (Cond.methodLink RL 65 yX6_thrown) ∈ BW := bw_mem 751 (by decide +kernel) (by decide +kernel)
theorem kw_752 : (Cond.instanceMethod yX6_thrown) ∈ BW := bw_mem 752 (by decide +kernel) (by decide +kernel)
theorem kw_753 : (Cond.selects RX6 yX6_thrown yX6_thrown) ∈ BW := bw_mem 753 (by decide +kernel) (by decide +kernel)
theorem kw_754 : (Cond.code yX6_thrown cX6_thrown 1 (some .int)) ∈ BW := bw_mem 754 (by decide +kernel) (by decide +kernel)
theorem kw_755 : (Cond.methodLink RL 64 yX6_cache) ∈ BW := bw_mem 755 (by decide +kernel) (by decide +kernel)
theorem kw_756 : (Cond.instanceMethod yX6_cache) ∈ BW := bw_mem 756 (by decide +kernel) (by decide +kernel)
theorem kw_757 : (Cond.selects RX6 yX6_cache yX6_cache) ∈ BW := bw_mem 757 (by decide +kernel) (by decide +kernel)
theorem kw_758 : (Cond.code yX6_cache cX6_cache 8 (some .int)) ∈ BW := bw_mem 758 (by decide +kernel) (by decide +kernel)
theorem kw_759 : (Cond.methodLink RX6 94 yX6_isIn) ∈ BW := bw_mem 759 (by decide +kernel) (by decide +kernel)
theorem kw_760 : (Cond.static yX6_isIn) ∈ BW := bw_mem 760 (by decide +kernel) (by decide +kernel)
theorem kw_761 : (Cond.code yX6_isIn cX6_isIn 3 (some .boolean)) ∈ BW := bw_mem 761 (by decide +kernel) (by decide +kernel)
theorem kw_762 : (Cond.methodLink RX6 134 yX6_refused) ∈ BW := bw_mem 762 (by decide +kernel) (by decide +kernel)
theorem kw_764 : (Cond.instanceMethod yX6_refused) ∈ BW := bw_mem 764 (by decide +kernel) (by decide +kernel)
theorem kw_765 : (Cond.code yX6_refused cX6_refused 2 (some .boolean)) ∈ BW := bw_mem 765 (by decide +kernel) (by decide +kernel)
theorem kw_766 : (Cond.methodLink RL 72 yX6_drop) ∈ BW := bw_mem 766 (by decide +kernel) (by decide +kernel)
theorem kw_767 : (Cond.instanceMethod yX6_drop) ∈ BW := bw_mem 767 (by decide +kernel) (by decide +kernel)
theorem kw_768 : (Cond.selects RX6 yX6_drop yX6_drop) ∈ BW := bw_mem 768 (by decide +kernel) (by decide +kernel)
theorem kw_769 : (Cond.code yX6_drop cX6_drop 4 (some .int)) ∈ BW := bw_mem 769 (by decide +kernel) (by decide +kernel)
theorem kw_770 : (Cond.methodLink RX6 141 yX6_isCache) ∈ BW := bw_mem 770 (by decide +kernel) (by decide +kernel)
theorem kw_772 : (Cond.instanceMethod yX6_isCache) ∈ BW := bw_mem 772 (by decide +kernel) (by decide +kernel)
theorem kw_773 : (Cond.code yX6_isCache cX6_isCache 2 (some .boolean)) ∈ BW := bw_mem 773 (by decide +kernel) (by decide +kernel)
theorem kw_774 : (Cond.methodLink RX6 144 yX6_liveOf) ∈ BW := bw_mem 774 (by decide +kernel) (by decide +kernel)
theorem kw_776 : (Cond.instanceMethod yX6_liveOf) ∈ BW := bw_mem 776 (by decide +kernel) (by decide +kernel)
theorem kw_777 : (Cond.code yX6_liveOf cX6_liveOf 4 (some .int)) ∈ BW := bw_mem 777 (by decide +kernel) (by decide +kernel)
theorem kw_778 : (Cond.methodLink RX6 147 yX6_emptyHeld) ∈ BW := bw_mem 778 (by decide +kernel) (by decide +kernel)
theorem kw_780 : (Cond.instanceMethod yX6_emptyHeld) ∈ BW := bw_mem 780 (by decide +kernel) (by decide +kernel)
theorem kw_781 : (Cond.code yX6_emptyHeld cX6_emptyHeld 4 (some .int)) ∈ BW := bw_mem 781 (by decide +kernel) (by decide +kernel)
theorem kw_782 : (Cond.methodLink RX6 137 yX6_toSlab) ∈ BW := bw_mem 782 (by decide +kernel) (by decide +kernel)
theorem kw_784 : (Cond.instanceMethod yX6_toSlab) ∈ BW := bw_mem 784 (by decide +kernel) (by decide +kernel)
theorem kw_785 : (Cond.code yX6_toSlab cX6_toSlab 3 none) ∈ BW := bw_mem 785 (by decide +kernel) (by decide +kernel)
theorem kw_786 : (Cond.methodLink RX6 131 yX6_change) ∈ BW := bw_mem 786 (by decide +kernel) (by decide +kernel)
theorem kw_788 : (Cond.instanceMethod yX6_change) ∈ BW := bw_mem 788 (by decide +kernel) (by decide +kernel)
theorem kw_789 : (Cond.code yX6_change cX6_change 5 none) ∈ BW := bw_mem 789 (by decide +kernel) (by decide +kernel)
theorem kw_790 : (Cond.methodLink RX6 98 yX6_whichOf) ∈ BW := bw_mem 790 (by decide +kernel) (by decide +kernel)
theorem kw_792 : (Cond.instanceMethod yX6_whichOf) ∈ BW := bw_mem 792 (by decide +kernel) (by decide +kernel)
theorem kw_793 : (Cond.code yX6_whichOf cX6_whichOf 2 (some .int)) ∈ BW := bw_mem 793 (by decide +kernel) (by decide +kernel)
theorem kw_794 : (Cond.methodLink RX6 102 yX6_leave) ∈ BW := bw_mem 794 (by decide +kernel) (by decide +kernel)
theorem kw_796 : (Cond.instanceMethod yX6_leave) ∈ BW := bw_mem 796 (by decide +kernel) (by decide +kernel)
theorem kw_797 : (Cond.code yX6_leave cX6_leave 7 none) ∈ BW := bw_mem 797 (by decide +kernel) (by decide +kernel)
theorem kw_798 : (Cond.methodLink RX6 106 yX6_enter) ∈ BW := bw_mem 798 (by decide +kernel) (by decide +kernel)
theorem kw_800 : (Cond.instanceMethod yX6_enter) ∈ BW := bw_mem 800 (by decide +kernel) (by decide +kernel)
theorem kw_801 : (Cond.code yX6_enter cX6_enter 6 none) ∈ BW := bw_mem 801 (by decide +kernel) (by decide +kernel)
theorem kw_802 : (Cond.methodLink RX6 150 yX6_emptyDepot) ∈ BW := bw_mem 802 (by decide +kernel) (by decide +kernel)
theorem kw_804 : (Cond.instanceMethod yX6_emptyDepot) ∈ BW := bw_mem 804 (by decide +kernel) (by decide +kernel)
theorem kw_805 : (Cond.code yX6_emptyDepot cX6_emptyDepot 4 (some .int)) ∈ BW := bw_mem 805 (by decide +kernel) (by decide +kernel)
theorem kw_806 : (Cond.methodLink RX6 124 yX6_giveSlab) ∈ BW := bw_mem 806 (by decide +kernel) (by decide +kernel)
theorem kw_808 : (Cond.instanceMethod yX6_giveSlab) ∈ BW := bw_mem 808 (by decide +kernel) (by decide +kernel)
theorem kw_809 : (Cond.code yX6_giveSlab cX6_giveSlab 4 (some .int)) ∈ BW := bw_mem 809 (by decide +kernel) (by decide +kernel)
theorem kw_810 : (Cond.methodLink RX6 116 yX6_unitOf) ∈ BW := bw_mem 810 (by decide +kernel) (by decide +kernel)
theorem kw_812 : (Cond.instanceMethod yX6_unitOf) ∈ BW := bw_mem 812 (by decide +kernel) (by decide +kernel)
theorem kw_813 : (Cond.code yX6_unitOf cX6_unitOf 4 (some .int)) ∈ BW := bw_mem 813 (by decide +kernel) (by decide +kernel)
theorem kw_814 : (Cond.methodLink RX6 120 yX6_giveBlock) ∈ BW := bw_mem 814 (by decide +kernel) (by decide +kernel)
theorem kw_816 : (Cond.instanceMethod yX6_giveBlock) ∈ BW := bw_mem 816 (by decide +kernel) (by decide +kernel)
theorem kw_817 : (Cond.code yX6_giveBlock cX6_giveBlock 5 none) ∈ BW := bw_mem 817 (by decide +kernel) (by decide +kernel)
theorem kw_818 : (Cond.methodLink RL 76 yX6_allocate) ∈ BW := bw_mem 818 (by decide +kernel) (by decide +kernel)
theorem kw_819 : (Cond.instanceMethod yX6_allocate) ∈ BW := bw_mem 819 (by decide +kernel) (by decide +kernel)
theorem kw_820 : (Cond.selects RX6 yX6_allocate yX6_allocate) ∈ BW := bw_mem 820 (by decide +kernel) (by decide +kernel)
theorem kw_821 : (Cond.code yX6_allocate cX6_allocate 5 (some .int)) ∈ BW := bw_mem 821 (by decide +kernel) (by decide +kernel)
theorem kw_822 : (Cond.methodLink RX6 153 yX6_swap) ∈ BW := bw_mem 822 (by decide +kernel) (by decide +kernel)
theorem kw_824 : (Cond.instanceMethod yX6_swap) ∈ BW := bw_mem 824 (by decide +kernel) (by decide +kernel)
theorem kw_825 : (Cond.code yX6_swap cX6_swap 4 none) ∈ BW := bw_mem 825 (by decide +kernel) (by decide +kernel)
theorem kw_826 : (Cond.methodLink RX6 156 yX6_fromSlabs) ∈ BW := bw_mem 826 (by decide +kernel) (by decide +kernel)
theorem kw_828 : (Cond.instanceMethod yX6_fromSlabs) ∈ BW := bw_mem 828 (by decide +kernel) (by decide +kernel)
theorem kw_829 : (Cond.code yX6_fromSlabs cX6_fromSlabs 5 (some .int)) ∈ BW := bw_mem 829 (by decide +kernel) (by decide +kernel)
theorem kw_830 : (Cond.methodLink RX6 127 yX6_makeSlab) ∈ BW := bw_mem 830 (by decide +kernel) (by decide +kernel)
theorem kw_832 : (Cond.instanceMethod yX6_makeSlab) ∈ BW := bw_mem 832 (by decide +kernel) (by decide +kernel)
theorem kw_833 : (Cond.code yX6_makeSlab cX6_makeSlab 5 (some .boolean)) ∈ BW := bw_mem 833 (by decide +kernel) (by decide +kernel)
theorem kw_834 : (Cond.methodLink RX6 109 yX6_takeBlock) ∈ BW := bw_mem 834 (by decide +kernel) (by decide +kernel)
theorem kw_836 : (Cond.instanceMethod yX6_takeBlock) ∈ BW := bw_mem 836 (by decide +kernel) (by decide +kernel)
theorem kw_837 : (Cond.code yX6_takeBlock cX6_takeBlock 5 (some .int)) ∈ BW := bw_mem 837 (by decide +kernel) (by decide +kernel)
theorem kw_838 : (Cond.methodLink RX6 112 yX6_reapAll) ∈ BW := bw_mem 838 (by decide +kernel) (by decide +kernel)
theorem kw_840 : (Cond.instanceMethod yX6_reapAll) ∈ BW := bw_mem 840 (by decide +kernel) (by decide +kernel)
theorem kw_841 : (Cond.code yX6_reapAll cX6_reapAll 3 (some .int)) ∈ BW := bw_mem 841 (by decide +kernel) (by decide +kernel)
theorem kw_842 : (Cond.methodLink RL 79 yX6_free) ∈ BW := bw_mem 842 (by decide +kernel) (by decide +kernel)
theorem kw_843 : (Cond.instanceMethod yX6_free) ∈ BW := bw_mem 843 (by decide +kernel) (by decide +kernel)
theorem kw_844 : (Cond.selects RX6 yX6_free yX6_free) ∈ BW := bw_mem 844 (by decide +kernel) (by decide +kernel)
theorem kw_845 : (Cond.code yX6_free cX6_free 8 (some .int)) ∈ BW := bw_mem 845 (by decide +kernel) (by decide +kernel)
theorem kw_846 : (Cond.methodLink RX6 160 yX6_isLive) ∈ BW := bw_mem 846 (by decide +kernel) (by decide +kernel)
theorem kw_848 : (Cond.instanceMethod yX6_isLive) ∈ BW := bw_mem 848 (by decide +kernel) (by decide +kernel)
theorem kw_849 : (Cond.code yX6_isLive cX6_isLive 2 (some .boolean)) ∈ BW := bw_mem 849 (by decide +kernel) (by decide +kernel)
theorem kw_850 : (Cond.constant RX6 159 (262143)) ∈ BW := bw_mem 850 (by decide +kernel) (by decide +kernel)
theorem kw_851 : (Cond.methodLink RX6 163 yX6_cacheAt) ∈ BW := bw_mem 851 (by decide +kernel) (by decide +kernel)
theorem kw_853 : (Cond.instanceMethod yX6_cacheAt) ∈ BW := bw_mem 853 (by decide +kernel) (by decide +kernel)
theorem kw_854 : (Cond.code yX6_cacheAt cX6_cacheAt 2 (some .int)) ∈ BW := bw_mem 854 (by decide +kernel) (by decide +kernel)
theorem kw_855 : (Cond.methodLink RL 82 yX6_mark) ∈ BW := bw_mem 855 (by decide +kernel) (by decide +kernel)
theorem kw_856 : (Cond.instanceMethod yX6_mark) ∈ BW := bw_mem 856 (by decide +kernel) (by decide +kernel)
theorem kw_857 : (Cond.selects RX6 yX6_mark yX6_mark) ∈ BW := bw_mem 857 (by decide +kernel) (by decide +kernel)
theorem kw_858 : (Cond.code yX6_mark cX6_mark 4 (some .int)) ∈ BW := bw_mem 858 (by decide +kernel) (by decide +kernel)
theorem kw_859 : (Cond.methodLink RL 85 yX6_flush) ∈ BW := bw_mem 859 (by decide +kernel) (by decide +kernel)
theorem kw_860 : (Cond.instanceMethod yX6_flush) ∈ BW := bw_mem 860 (by decide +kernel) (by decide +kernel)
theorem kw_861 : (Cond.selects RX6 yX6_flush yX6_flush) ∈ BW := bw_mem 861 (by decide +kernel) (by decide +kernel)
theorem kw_862 : (Cond.code yX6_flush cX6_flush 5 (some .int)) ∈ BW := bw_mem 862 (by decide +kernel) (by decide +kernel)
theorem kw_863 : (Cond.methodLink RL 88 yX6_empty) ∈ BW := bw_mem 863 (by decide +kernel) (by decide +kernel)
theorem kw_864 : (Cond.instanceMethod yX6_empty) ∈ BW := bw_mem 864 (by decide +kernel) (by decide +kernel)
theorem kw_865 : (Cond.selects RX6 yX6_empty yX6_empty) ∈ BW := bw_mem 865 (by decide +kernel) (by decide +kernel)
theorem kw_866 : (Cond.code yX6_empty cX6_empty 2 (some .int)) ∈ BW := bw_mem 866 (by decide +kernel) (by decide +kernel)
theorem kw_867 : (Cond.methodLink RL 92 yX6_reap) ∈ BW := bw_mem 867 (by decide +kernel) (by decide +kernel)
theorem kw_868 : (Cond.instanceMethod yX6_reap) ∈ BW := bw_mem 868 (by decide +kernel) (by decide +kernel)
theorem kw_869 : (Cond.selects RX6 yX6_reap yX6_reap) ∈ BW := bw_mem 869 (by decide +kernel) (by decide +kernel)
theorem kw_870 : (Cond.code yX6_reap cX6_reap 1 (some .int)) ∈ BW := bw_mem 870 (by decide +kernel) (by decide +kernel)
theorem kw_871 : (Cond.methodLink RL 96 yX6_cacheOf) ∈ BW := bw_mem 871 (by decide +kernel) (by decide +kernel)
theorem kw_872 : (Cond.instanceMethod yX6_cacheOf) ∈ BW := bw_mem 872 (by decide +kernel) (by decide +kernel)
theorem kw_873 : (Cond.selects RX6 yX6_cacheOf yX6_cacheOf) ∈ BW := bw_mem 873 (by decide +kernel) (by decide +kernel)
theorem kw_874 : (Cond.code yX6_cacheOf cX6_cacheOf 3 (some .int)) ∈ BW := bw_mem 874 (by decide +kernel) (by decide +kernel)
theorem kw_875 : (Cond.methodLink RX6 166 yX6_slabAt) ∈ BW := bw_mem 875 (by decide +kernel) (by decide +kernel)
theorem kw_877 : (Cond.instanceMethod yX6_slabAt) ∈ BW := bw_mem 877 (by decide +kernel) (by decide +kernel)
theorem kw_878 : (Cond.code yX6_slabAt cX6_slabAt 2 (some .int)) ∈ BW := bw_mem 878 (by decide +kernel) (by decide +kernel)
theorem kw_879 : (Cond.methodLink RL 100 yX6_objectOf) ∈ BW := bw_mem 879 (by decide +kernel) (by decide +kernel)
theorem kw_880 : (Cond.instanceMethod yX6_objectOf) ∈ BW := bw_mem 880 (by decide +kernel) (by decide +kernel)
theorem kw_881 : (Cond.selects RX6 yX6_objectOf yX6_objectOf) ∈ BW := bw_mem 881 (by decide +kernel) (by decide +kernel)
theorem kw_882 : (Cond.code yX6_objectOf cX6_objectOf 6 (some .int)) ∈ BW := bw_mem 882 (by decide +kernel) (by decide +kernel)
theorem kw_883 : (Cond.methodLink RL 103 yX6_about) ∈ BW := bw_mem 883 (by decide +kernel) (by decide +kernel)
theorem kw_884 : (Cond.instanceMethod yX6_about) ∈ BW := bw_mem 884 (by decide +kernel) (by decide +kernel)
theorem kw_885 : (Cond.selects RX6 yX6_about yX6_about) ∈ BW := bw_mem 885 (by decide +kernel) (by decide +kernel)
theorem kw_886 : (Cond.code yX6_about cX6_about 6 (some .int)) ∈ BW := bw_mem 886 (by decide +kernel) (by decide +kernel)
theorem kw_887 : (Cond.methodLink RL 107 yX6_list) ∈ BW := bw_mem 887 (by decide +kernel) (by decide +kernel)
theorem kw_888 : (Cond.instanceMethod yX6_list) ∈ BW := bw_mem 888 (by decide +kernel) (by decide +kernel)
theorem kw_889 : (Cond.selects RX6 yX6_list yX6_list) ∈ BW := bw_mem 889 (by decide +kernel) (by decide +kernel)
theorem kw_890 : (Cond.code yX6_list cX6_list 5 (some .int)) ∈ BW := bw_mem 890 (by decide +kernel) (by decide +kernel)
theorem kw_891 : (Cond.methodLink RL 110 yX6_slab) ∈ BW := bw_mem 891 (by decide +kernel) (by decide +kernel)
theorem kw_892 : (Cond.instanceMethod yX6_slab) ∈ BW := bw_mem 892 (by decide +kernel) (by decide +kernel)
theorem kw_893 : (Cond.selects RX6 yX6_slab yX6_slab) ∈ BW := bw_mem 893 (by decide +kernel) (by decide +kernel)
theorem kw_894 : (Cond.code yX6_slab cX6_slab 5 (some .int)) ∈ BW := bw_mem 894 (by decide +kernel) (by decide +kernel)
theorem kw_895 : (Cond.methodLink RL 113 yX6_magazine) ∈ BW := bw_mem 895 (by decide +kernel) (by decide +kernel)
theorem kw_896 : (Cond.instanceMethod yX6_magazine) ∈ BW := bw_mem 896 (by decide +kernel) (by decide +kernel)
theorem kw_897 : (Cond.selects RX6 yX6_magazine yX6_magazine) ∈ BW := bw_mem 897 (by decide +kernel) (by decide +kernel)
theorem kw_898 : (Cond.code yX6_magazine cX6_magazine 4 (some .int)) ∈ BW := bw_mem 898 (by decide +kernel) (by decide +kernel)
theorem kw_899 : (Cond.methodLink RL 116 yX6_block) ∈ BW := bw_mem 899 (by decide +kernel) (by decide +kernel)
theorem kw_900 : (Cond.instanceMethod yX6_block) ∈ BW := bw_mem 900 (by decide +kernel) (by decide +kernel)
theorem kw_901 : (Cond.selects RX6 yX6_block yX6_block) ∈ BW := bw_mem 901 (by decide +kernel) (by decide +kernel)
theorem kw_902 : (Cond.code yX6_block cX6_block 5 (some .int)) ∈ BW := bw_mem 902 (by decide +kernel) (by decide +kernel)
theorem kw_903 : (Cond.methodLink RL 120 yX6_pages) ∈ BW := bw_mem 903 (by decide +kernel) (by decide +kernel)
theorem kw_904 : (Cond.instanceMethod yX6_pages) ∈ BW := bw_mem 904 (by decide +kernel) (by decide +kernel)
theorem kw_905 : (Cond.selects RX6 yX6_pages yX6_pages) ∈ BW := bw_mem 905 (by decide +kernel) (by decide +kernel)
theorem kw_906 : (Cond.code yX6_pages cX6_pages 4 (some .int)) ∈ BW := bw_mem 906 (by decide +kernel) (by decide +kernel)
theorem kw_907 : (Cond.arrayClass .long) ∈ BW := bw_mem 907 (by decide +kernel) (by decide +kernel)
theorem kl_0 : ∀ w ∈ u_ws RX0 TX0 2, w ∈ BW := bw_all [73, 75] (by decide +kernel) (by decide +kernel)
theorem kl_1 : ∀ w ∈ u_ws RX1 TX1 17, w ∈ BW := bw_all [318, 320, 322, 324, 326, 328, 330, 332, 334, 336, 338, 340, 342, 344, 346, 348, 350] (by decide +kernel) (by decide +kernel)
theorem kl_2 : ∀ w ∈ u_ws RX2 TX2 2, w ∈ BW := bw_all [281, 283] (by decide +kernel) (by decide +kernel)
theorem kl_3 : ∀ w ∈ u_ws RX3 TX3 11, w ∈ BW := bw_all [471, 473, 475, 477, 479, 481, 483, 485, 487, 489, 491] (by decide +kernel) (by decide +kernel)
theorem kl_4 : ∀ w ∈ u_ws RX4 TX4 1, w ∈ BW := bw_all [269] (by decide +kernel) (by decide +kernel)
theorem kl_5 : ∀ w ∈ u_ws RX5 TX5 4, w ∈ BW := bw_all [87, 89, 91, 93] (by decide +kernel) (by decide +kernel)
theorem kl_6 : ∀ w ∈ u_ws RX6 TX6 27, w ∈ BW := bw_all [695, 697, 699, 701, 703, 705, 707, 709, 711, 713, 715, 717, 719, 721, 723, 725, 727, 729, 731, 733, 735, 737, 739, 741, 743, 745, 747] (by decide +kernel) (by decide +kernel)
end
section
/-! The machine's heap as a pure value, over whole numbers: kinds 1..7 the classes of vwCl, 8 int[], 9 boolean[], 10 long[], 11..14 arrays of Cache, Magazine, Slab, SlabList. A reference is its address, null is -1. -/
abbrev inr (z : Int) : Prop := -2147483648 ≤ z ∧ z ≤ 2147483647
def wr (z : Int) : Int := (Int32.ofInt z).toInt
theorem inr_ti (x : Int32) : inr x.toInt := ⟨Int32.le_toInt x, by have := Int32.toInt_lt x; omega⟩
theorem inr_wr (z : Int) : inr (wr z) := inr_ti _
theorem ofI_wr (z : Int) : Int32.ofInt (wr z) = Int32.ofInt z := Int32.ofInt_toInt _
theorem ti_of {z : Int} (h : inr z) : (Int32.ofInt z).toInt = z := Int32.toInt_ofInt_of_le (by have := h.1; omega) (by have := h.2; omega)
theorem wr_eq {z : Int} (h : inr z) : wr z = z := ti_of h
theorem ofI_inj {x y : Int} (hx : inr x) (hy : inr y) : Int32.ofInt x = Int32.ofInt y ↔ x = y := by
  rw [← Int32.toInt_inj, ti_of hx, ti_of hy]
theorem ofI_lt {x y : Int} (hx : inr x) (hy : inr y) : Int32.ofInt x < Int32.ofInt y ↔ x < y := by
  rw [Int32.lt_iff_toInt_lt, ti_of hx, ti_of hy]
theorem ofI_le {x y : Int} (hx : inr x) (hy : inr y) : Int32.ofInt x ≤ Int32.ofInt y ↔ x ≤ y := by
  rw [Int32.le_iff_toInt_le, ti_of hx, ti_of hy]
theorem ofI_cl {x : Int} (hx : inr x) : (Int32.ofInt x).toNatClampNeg = x.toNat := by
  show (Int32.ofInt x).toInt.toNat = x.toNat
  rw [ti_of hx]
theorem i_0 : inr 0 := by decide
def ian (x y : Int) : Int := (Int32.ofInt x &&& Int32.ofInt y).toInt
def ixr (x y : Int) : Int := (Int32.ofInt x ^^^ Int32.ofInt y).toInt
def ish (x y : Int) : Int := (Int32.ofInt x <<< (Int32.ofInt y &&& 31)).toInt
theorem inr_an (x y : Int) : inr (ian x y) := inr_ti _
theorem inr_xr (x y : Int) : inr (ixr x y) := inr_ti _
theorem inr_sh (x y : Int) : inr (ish x y) := inr_ti _
def idv (x y : Int) : Option Int := if y = 0 then none else some (wr (x.tdiv y))
def irm (x y : Int) : Option Int := if y = 0 then none else some (x.tmod y)
theorem inr_dv {x y z : Int} (h : idv x y = some z) : inr z := by
  unfold idv at h
  split at h
  · cases h
  · cases h; exact inr_wr _
theorem inr_rm {x y z : Int} (hx : inr x) (h : irm x y = some z) : inr z := by
  unfold irm at h
  split at h
  · cases h
  · cases h
    have h1 := Int.natAbs_tmod x y
    have h2 : x.natAbs % y.natAbs ≤ x.natAbs := Nat.mod_le _ _
    have h4 : 0 ≤ x → 0 ≤ x.tmod y := fun h => Int.tmod_nonneg y h
    have h3 := hx.1; have h5 := hx.2
    by_cases h6 : 0 ≤ x
    · have := h4 h6
      constructor <;> omega
    · have h7 : 0 ≤ (-x).tmod y := Int.tmod_nonneg y (by omega)
      rw [Int.neg_tmod] at h7
      constructor <;> omega
/-- a step of the pure run -/
theorem bd {α β : Type} {x : Option α} {f : α → Option β} {r : β} (h : Option.bind x f = some r) : ∃ v, x = some v ∧ f v = some r := Option.bind_eq_some_iff.mp h
theorem it_pos {c : Prop} [Decidable c] {β : Type} {a b : Option β} {r : β} (hc : c) (h : (if c then a else b) = some r) : a = some r := by rw [if_pos hc] at h; exact h
theorem it_neg {c : Prop} [Decidable c] {β : Type} {a b : Option β} {r : β} (hc : ¬ c) (h : (if c then a else b) = some r) : b = some r := by rw [if_neg hc] at h; exact h
/-! the heap -/
abbrev Hp : Type := (Nat → Nat) × (Nat → Nat) × (Nat → Nat → Int) × Nat
def hK (h : Hp) : Nat → Nat := h.1
def hL (h : Hp) : Nat → Nat := h.2.1
def hF (h : Hp) : Nat → Nat → Int := h.2.2.1
def hN (h : Hp) : Nat := h.2.2.2
def tyTab : List (List Bool) := [[true, false], [false, false, false, false, false, false, false, false, false, false, false, false, true, true, true, true, false], [true, false], [true, false, false, false, false, true, true, false, false, true, true], [true], [true, true, true, false], [false, true, true, false, true, true, true, true, true, true, true, true, true, true, true, true, true, true, true, true, true, true, true, true, true, true, true]]
def rfT (ci k : Nat) : Bool := (tyTab.getD ci []).getD k false
def rO (z : Int) : Option Nat := if z < 0 then none else some z.toNat
abbrev vr (z : Int) : Value := va_rf (rO z)
abbrev vi (z : Int) : Value := .int (Int32.ofInt z)
abbrev vl (z : Int) : Value := .long (Int64.ofInt z)
def vv (b : Bool) (z : Int) : Value := match b with
  | true => vr z
  | false => vi z
def encE (G : Nat → ClassId) (h : Hp) (a : Nat) : va_E :=
  if hK h a ≤ 7 then .inr (hK h a - 1, (tyTab.getD (hK h a - 1) []).mapIdx (fun k b => vv b (hF h a k)))
  else if hK h a ≤ 9 then .inl (G (hK h a), hL h a, .inl (fun j => Int32.ofInt (hF h a j)))
  else if hK h a = 10 then .inl (G (hK h a), hL h a, .inr (.inl (fun j => Int64.ofInt (hF h a j))))
  else .inl (G (hK h a), hL h a, .inr (.inr (.inr (.inr (fun j => rO (hF h a j))))))
/-- which places hold ints -/
def isI (kd k : Nat) : Bool := if kd ≤ 7 then !(rfT (kd - 1) k) else decide (kd ≤ 10)
def hOk (h : Hp) : Prop := ∀ a k, hK h a ≠ 0 → isI (hK h a) k = true → inr (hF h a k)
def SM (D : va_G) (G : Nat → ClassId) (base : Nat) (h : Hp) (H : Heap) : Prop :=
  H.size = hN h ∧ hOk h ∧ ∀ a, hK h a ≠ 0 → base ≤ a ∧ hK h a ≤ 14 ∧ va_at D vwCl (a, encE G h a) H
abbrev tysG (G : Nat → ClassId) : List (ClassId × FieldType) := [(G 8, .int), (G 9, .boolean), (G 10, .long), (G 11, .object "SlabHouse$Cache"), (G 12, .object "SlabHouse$Magazine"), (G 13, .object "SlabHouse$Slab"), (G 14, .object "SlabHouse$SlabList")]
/-! reading and writing -/
def ckd (h : Hp) (ci : Nat) (a : Int) : Option Unit := if 0 ≤ a ∧ hK h a.toNat = ci + 1 then some () else none
def gtf (h : Hp) (ci k : Nat) (a : Int) : Option Int := if 0 ≤ a ∧ hK h a.toNat = ci + 1 then some (hF h a.toNat k) else none
def hset (h : Hp) (a k : Nat) (v : Int) : Hp := (h.1, h.2.1, fun b j => if b = a ∧ j = k then v else h.2.2.1 b j, h.2.2.2)
def ptf (h : Hp) (ci k : Nat) (a v : Int) : Option Hp := if 0 ≤ a ∧ hK h a.toNat = ci + 1 then some (hset h a.toNat k v) else none
def ald (h : Hp) (kd : Nat) (a i : Int) : Option Int := if 0 ≤ a ∧ hK h a.toNat = kd ∧ 0 ≤ i ∧ i < (hL h a.toNat : Int) then some (hF h a.toNat i.toNat) else none
def ast (h : Hp) (kd : Nat) (a i v : Int) : Option Hp := if 0 ≤ a ∧ hK h a.toNat = kd ∧ 0 ≤ i ∧ i < (hL h a.toNat : Int) then some (hset h a.toNat i.toNat v) else none
/-- a reference goes into an array of references: null, or an object of its kind -/
def asr (h : Hp) (kd : Nat) (a i v : Int) : Option Hp := if v < 0 ∨ hK h v.toNat = kd - 9 then ast h kd a i v else none
def aln (h : Hp) (kd : Nat) (a : Int) : Option Int := if 0 ≤ a ∧ hK h a.toNat = kd ∧ (hL h a.toNat : Int) ≤ 2147483647 then some (hL h a.toNat : Int) else none
def hnew (h : Hp) (kd n : Nat) (f : Nat → Int) : Hp := (fun b => if b = hN h then kd else h.1 b, fun b => if b = hN h then n else h.2.1 b, fun b j => if b = hN h then f j else h.2.2.1 b j, hN h + 1)
def nwo (h : Hp) (ci : Nat) : Option Hp := some (hnew h (ci + 1) 0 (fun k => if rfT ci k then -1 else 0))
def nwa (h : Hp) (kd bound : Nat) (n : Int) : Option Hp := if 0 ≤ n ∧ n ≤ (bound : Int) then some (hnew h kd n.toNat (fun _ => if kd ≤ 10 then 0 else -1)) else none
def hsN (h : Hp) (n : Nat) : Hp := (h.1, h.2.1, h.2.2.1, n)
theorem rO_pos {a : Int} (h : 0 ≤ a) : rO a = some a.toNat := if_neg (by omega)
theorem vr_pos {a : Int} (h : 0 ≤ a) : vr a = .ref a.toNat := by show va_rf (rO a) = _; rw [rO_pos h]; rfl
theorem vr_neg {a : Int} (h : a < 0) : vr a = .null := by show va_rf (rO a) = _; rw [rO, if_pos h]; rfl
theorem ckd_s {h : Hp} {ci : Nat} {a : Int} {u : Unit} (e : ckd h ci a = some u) : 0 ≤ a ∧ hK h a.toNat = ci + 1 := by
  unfold ckd at e; split at e
  · assumption
  · cases e
theorem gtf_s {h : Hp} {ci k : Nat} {a v : Int} (e : gtf h ci k a = some v) : 0 ≤ a ∧ hK h a.toNat = ci + 1 ∧ v = hF h a.toNat k := by
  unfold gtf at e; split at e
  · rename_i g; cases e; exact ⟨g.1, g.2, rfl⟩
  · cases e
theorem ptf_s {h h' : Hp} {ci k : Nat} {a v : Int} (e : ptf h ci k a v = some h') : 0 ≤ a ∧ hK h a.toNat = ci + 1 ∧ h' = hset h a.toNat k v := by
  unfold ptf at e; split at e
  · rename_i g; cases e; exact ⟨g.1, g.2, rfl⟩
  · cases e
theorem ald_s {h : Hp} {kd : Nat} {a i v : Int} (e : ald h kd a i = some v) : 0 ≤ a ∧ hK h a.toNat = kd ∧ 0 ≤ i ∧ i < (hL h a.toNat : Int) ∧ v = hF h a.toNat i.toNat := by
  unfold ald at e; split at e
  · rename_i g; cases e; exact ⟨g.1, g.2.1, g.2.2.1, g.2.2.2, rfl⟩
  · cases e
theorem ast_s {h h' : Hp} {kd : Nat} {a i v : Int} (e : ast h kd a i v = some h') : 0 ≤ a ∧ hK h a.toNat = kd ∧ 0 ≤ i ∧ i < (hL h a.toNat : Int) ∧ h' = hset h a.toNat i.toNat v := by
  unfold ast at e; split at e
  · rename_i g; cases e; exact ⟨g.1, g.2.1, g.2.2.1, g.2.2.2, rfl⟩
  · cases e
theorem aln_s {h : Hp} {kd : Nat} {a v : Int} (e : aln h kd a = some v) : 0 ≤ a ∧ hK h a.toNat = kd ∧ v = (hL h a.toNat : Int) ∧ v ≤ 2147483647 := by
  unfold aln at e; split at e
  · rename_i g; cases e; exact ⟨g.1, g.2.1, rfl, g.2.2⟩
  · cases e
theorem aln_i {h : Hp} {kd : Nat} {a v : Int} (e : aln h kd a = some v) : inr v := by
  obtain ⟨-, -, h1, h2⟩ := aln_s e
  constructor <;> omega
theorem nwa_s {h h' : Hp} {kd bound : Nat} {n : Int} (e : nwa h kd bound n = some h') : 0 ≤ n ∧ n ≤ (bound : Int) ∧ h' = hnew h kd n.toNat (fun _ => if kd ≤ 10 then 0 else -1) := by
  unfold nwa at e; split at e
  · rename_i g; cases e; exact ⟨g.1, g.2, rfl⟩
  · cases e
section
variable {D : va_G} {G : Nat → ClassId} {base : Nat} {h h' : Hp} {H : Heap}
theorem gtf_i {ci k : Nat} {a v : Int} (hM : SM D G base h H) (e : gtf h ci k a = some v) (hc : ci ≤ 6) (hr : rfT ci k = false) : inr v := by
  obtain ⟨-, h2, h3⟩ := gtf_s e
  rw [h3]
  refine hM.2.1 _ _ (by omega) ?_
  rw [h2, isI, if_pos (by omega), show ci + 1 - 1 = ci from rfl, hr]; rfl
theorem ald_i {kd : Nat} {a i v : Int} (hM : SM D G base h H) (e : ald h kd a i = some v) (h8 : 8 ≤ kd) (h10 : kd ≤ 10) : inr v := by
  obtain ⟨-, h2, -, -, h3⟩ := ald_s e
  rw [h3]
  refine hM.2.1 _ _ (by omega) ?_
  rw [h2, isI, if_neg (by omega)]; exact decide_eq_true h10
theorem SM.obj {ci : Nat} {a : Nat} (hM : SM D G base h H) (hk : hK h a = ci + 1) (hc : ci ≤ 6) : va_P D vwCl [(a, .inr (ci, (tyTab.getD ci []).mapIdx (fun k b => vv b (hF h a k))))] H := by
  intro j q hj
  have hz : j < 1 := (List.getElem?_eq_some_iff.mp hj).1
  rw [show j = 0 by omega] at hj
  cases hj
  have h1 := (hM.2.2 a (by omega)).2.2
  unfold encE at h1
  rw [if_pos (by omega), hk] at h1
  exact h1
theorem SM.arI {kd : Nat} {a : Nat} (hM : SM D G base h H) (hk : hK h a = kd) (h8 : 8 ≤ kd) (h9 : kd ≤ 9) : va_P D vwCl [(a, .inl (G kd, hL h a, .inl (fun j => Int32.ofInt (hF h a j))))] H := by
  intro j q hj
  have hz : j < 1 := (List.getElem?_eq_some_iff.mp hj).1
  rw [show j = 0 by omega] at hj
  cases hj
  have h1 := (hM.2.2 a (by omega)).2.2
  unfold encE at h1
  rw [if_neg (by omega), if_pos (by omega), hk] at h1
  exact h1
theorem SM.arL {a : Nat} (hM : SM D G base h H) (hk : hK h a = 10) : va_P D vwCl [(a, .inl (G 10, hL h a, .inr (.inl (fun j => Int64.ofInt (hF h a j)))))] H := by
  intro j q hj
  have hz : j < 1 := (List.getElem?_eq_some_iff.mp hj).1
  rw [show j = 0 by omega] at hj
  cases hj
  have h1 := (hM.2.2 a (by omega)).2.2
  unfold encE at h1
  rw [if_neg (by omega), if_neg (by omega), if_pos hk, hk] at h1
  exact h1
theorem SM.arR {kd : Nat} {a : Nat} (hM : SM D G base h H) (hk : hK h a = kd) (h11 : 11 ≤ kd) : va_P D vwCl [(a, .inl (G kd, hL h a, .inr (.inr (.inr (.inr (fun j => rO (hF h a j)))))))] H := by
  intro j q hj
  have hz : j < 1 := (List.getElem?_eq_some_iff.mp hj).1
  rw [show j = 0 by omega] at hj
  cases hj
  have h1 := (hM.2.2 a (by omega)).2.2
  unfold encE at h1
  rw [if_neg (by omega), if_neg (by omega), if_neg (by omega), hk] at h1
  exact h1
/-- a store in the cell a alone -/
theorem SM.set {a k : Nat} {v : Int} {H1 : Heap} (hM : SM D G base h H) (ha : hK h a ≠ 0) (z : H1.size = H.size) (oq : ∀ q : Nat, q ≠ a → H1[q]? = H[q]?) (hv : isI (hK h a) k = true → inr v) (hw : va_at D vwCl (a, encE G (hset h a k v) a) H1) : SM D G base (hset h a k v) H1 := by
  refine ⟨by rw [z]; exact hM.1, fun b j hb hi => ?_, fun b hb => ?_⟩
  · show inr (if b = a ∧ j = k then v else hF h b j)
    split
    · rename_i g; obtain ⟨rfl, rfl⟩ := g; exact hv hi
    · exact hM.2.1 b j hb hi
  · refine ⟨(hM.2.2 b hb).1, (hM.2.2 b hb).2.1, ?_⟩
    by_cases hba : b = a
    · subst hba; exact hw
    · have e1 : encE G (hset h a k v) b = encE G h b := by
        have : ∀ j, hF (hset h a k v) b j = hF h b j := fun j => if_neg (fun g => hba g.1)
        unfold encE
        simp only [this]
        rfl
      rw [e1]
      exact (hM.2.2 b hb).2.2.kept (oq b hba)
/-- a new cell -/
theorem SM.new {kd n : Nat} {f : Nat → Int} {H1 : Heap} (hM : SM D G base h H) (hb : base ≤ H.size) (z : H1.size = H.size + 1) (oq : ∀ q : Nat, q < H.size → H1[q]? = H[q]?) (hkd : kd ≤ 14) (hf : ∀ k, isI kd k = true → inr (f k)) (hw : va_at D vwCl (hN h, encE G (hnew h kd n f) (hN h)) H1) : SM D G base (hnew h kd n f) H1 := by
  refine ⟨by rw [z, hM.1]; rfl, fun b j hb1 hi => ?_, fun b hb1 => ?_⟩
  · show inr (if b = hN h then f j else hF h b j)
    by_cases hbn : b = hN h
    · rw [if_pos hbn]
      refine hf j ?_
      have : hK (hnew h kd n f) b = kd := if_pos hbn
      rw [this] at hi; exact hi
    · rw [if_neg hbn]
      have : hK (hnew h kd n f) b = hK h b := if_neg hbn
      rw [this] at hi hb1
      exact hM.2.1 b j hb1 hi
  · by_cases hbn : b = hN h
    · subst hbn
      exact ⟨by rw [← hM.1]; exact hb, by show (if hN h = hN h then kd else _) ≤ 14; rw [if_pos rfl]; exact hkd, hw⟩
    · have hkk : hK (hnew h kd n f) b = hK h b := if_neg hbn
      rw [hkk] at hb1
      refine ⟨(hM.2.2 b hb1).1, by rw [hkk]; exact (hM.2.2 b hb1).2.1, ?_⟩
      have e1 : encE G (hnew h kd n f) b = encE G h b := by
        have h1 : ∀ j, hF (hnew h kd n f) b j = hF h b j := fun j => if_neg hbn
        have h2 : hL (hnew h kd n f) b = hL h b := if_neg hbn
        unfold encE
        simp only [h1, h2, hkk]
      rw [e1]
      have h3 := (hM.2.2 b hb1).2.2
      exact h3.kept (oq b h3.lt)
end
end
section
section
variable {p : Program} {l : Launch} {e : Env} {R : Room} {s : State} {m : MethodId} {args : Array Value} {below : List Frame} {meth : Method} {c : Code} {H : Heap} {locs : List Loc} {cells slots : Nat} {Q : State → Prop}
variable {cc : ByteArray} {pc : Nat} {ls : Array Slot} {rest : List Value} {D : va_G} {G : Nat → ClassId} {base : Nat} {h h' : Hp} {H0 : Heap}
theorem s_iadd (hx : p.tables.exec = Jvm.exec) (hb : c.code = cc) {x y : Int} (hdg : decode cc pc = .ok (.iadd, 1)) (k : W p l e R s m args below meth c H locs cells slots Q (F0 m (pc + 1) ls (vi (wr (x + y)) :: rest))) : W p l e R s m args below meth c H locs cells slots Q (F0 m pc ls (vi y :: vi x :: rest)) := by
  refine lv_iadd hx hb hdg ?_
  have e1 : Int32.ofInt x + Int32.ofInt y = Int32.ofInt (wr (x + y)) := by rw [ofI_wr, Int32.ofInt_add]
  rw [e1]; exact k
theorem s_isub (hx : p.tables.exec = Jvm.exec) (hb : c.code = cc) {x y : Int} (hdg : decode cc pc = .ok (.isub, 1)) (k : W p l e R s m args below meth c H locs cells slots Q (F0 m (pc + 1) ls (vi (wr (x - y)) :: rest))) : W p l e R s m args below meth c H locs cells slots Q (F0 m pc ls (vi y :: vi x :: rest)) := by
  refine lv_isub hx hb hdg ?_
  have e1 : Int32.ofInt x - Int32.ofInt y = Int32.ofInt (wr (x - y)) := by rw [ofI_wr, Int32.ofInt_sub]
  rw [e1]; exact k
theorem s_imul (hx : p.tables.exec = Jvm.exec) (hb : c.code = cc) {x y : Int} (hdg : decode cc pc = .ok (.imul, 1)) (k : W p l e R s m args below meth c H locs cells slots Q (F0 m (pc + 1) ls (vi (wr (x * y)) :: rest))) : W p l e R s m args below meth c H locs cells slots Q (F0 m pc ls (vi y :: vi x :: rest)) := by
  refine lv_imul hx hb hdg ?_
  have e1 : Int32.ofInt x * Int32.ofInt y = Int32.ofInt (wr (x * y)) := by rw [ofI_wr, Int32.ofInt_mul]
  rw [e1]; exact k
theorem s_ineg (hx : p.tables.exec = Jvm.exec) (hb : c.code = cc) {x : Int} (hdg : decode cc pc = .ok (.ineg, 1)) (k : W p l e R s m args below meth c H locs cells slots Q (F0 m (pc + 1) ls (vi (wr (-x)) :: rest))) : W p l e R s m args below meth c H locs cells slots Q (F0 m pc ls (vi x :: rest)) := by
  refine lv_ineg hx hb hdg ?_
  have e1 : -Int32.ofInt x = Int32.ofInt (wr (-x)) := by rw [ofI_wr, Int32.ofInt_neg]
  rw [e1]; exact k
theorem s_ishl (hx : p.tables.exec = Jvm.exec) (hb : c.code = cc) {x y : Int} (hdg : decode cc pc = .ok (.ishl, 1)) (k : W p l e R s m args below meth c H locs cells slots Q (F0 m (pc + 1) ls (vi (ish x y) :: rest))) : W p l e R s m args below meth c H locs cells slots Q (F0 m pc ls (vi y :: vi x :: rest)) := by
  refine lv_ishl hx hb hdg ?_
  have e1 : Int32.ofInt x <<< (Int32.ofInt y &&& 31) = Int32.ofInt (ish x y) := (Int32.ofInt_toInt _).symm
  rw [e1]; exact k
theorem s_iand (hx : p.tables.exec = Jvm.exec) (hb : c.code = cc) {x y : Int} (hdg : decode cc pc = .ok (.iand, 1)) (k : W p l e R s m args below meth c H locs cells slots Q (F0 m (pc + 1) ls (vi (ian x y) :: rest))) : W p l e R s m args below meth c H locs cells slots Q (F0 m pc ls (vi y :: vi x :: rest)) := by
  refine lv_iand hx hb hdg ?_
  have e1 : Int32.ofInt x &&& Int32.ofInt y = Int32.ofInt (ian x y) := (Int32.ofInt_toInt _).symm
  rw [e1]; exact k
theorem s_ixor (hx : p.tables.exec = Jvm.exec) (hb : c.code = cc) {x y : Int} (hdg : decode cc pc = .ok (.ixor, 1)) (k : W p l e R s m args below meth c H locs cells slots Q (F0 m (pc + 1) ls (vi (ixr x y) :: rest))) : W p l e R s m args below meth c H locs cells slots Q (F0 m pc ls (vi y :: vi x :: rest)) := by
  refine lv_ixor hx hb hdg ?_
  have e1 : Int32.ofInt x ^^^ Int32.ofInt y = Int32.ofInt (ixr x y) := (Int32.ofInt_toInt _).symm
  rw [e1]; exact k
theorem s_idiv (hx : p.tables.exec = Jvm.exec) (hb : c.code = cc) {x y z : Int} (ix : inr x) (iy : inr y) (g : idv x y = some z) (hdg : decode cc pc = .ok (.idiv, 1)) (k : W p l e R s m args below meth c H locs cells slots Q (F0 m (pc + 1) ls (vi z :: rest))) : W p l e R s m args below meth c H locs cells slots Q (F0 m pc ls (vi y :: vi x :: rest)) := by
  unfold idv at g
  split at g
  · cases g
  · rename_i hy
    cases g
    refine lv_idiv hx hb hdg (fun q => hy ((ofI_inj iy i_0).mp q)) ?_
    have e1 : Int32.ofInt x / Int32.ofInt y = Int32.ofInt (wr (x.tdiv y)) := by
      rw [ofI_wr]
      exact (Int32.ofInt_tdiv (show Int32.minValue.toInt ≤ x from ix.1) (show x ≤ Int32.maxValue.toInt from ix.2) (show Int32.minValue.toInt ≤ y from iy.1) (show y ≤ Int32.maxValue.toInt from iy.2)).symm
    rw [e1]; exact k
theorem s_irem (hx : p.tables.exec = Jvm.exec) (hb : c.code = cc) {x y z : Int} (ix : inr x) (iy : inr y) (g : irm x y = some z) (hdg : decode cc pc = .ok (.irem, 1)) (k : W p l e R s m args below meth c H locs cells slots Q (F0 m (pc + 1) ls (vi z :: rest))) : W p l e R s m args below meth c H locs cells slots Q (F0 m pc ls (vi y :: vi x :: rest)) := by
  unfold irm at g
  split at g
  · cases g
  · rename_i hy
    cases g
    refine lv_irem hx hb hdg (fun q => hy ((ofI_inj iy i_0).mp q)) ?_
    have e1 : Int32.ofInt x - Int32.ofInt x / Int32.ofInt y * Int32.ofInt y = Int32.ofInt (x.tmod y) := by
      rw [Int.tmod_def, Int32.ofInt_sub, Int32.ofInt_mul, Int32.ofInt_tdiv (show Int32.minValue.toInt ≤ x from ix.1) (show x ≤ Int32.maxValue.toInt from ix.2) (show Int32.minValue.toInt ≤ y from iy.1) (show y ≤ Int32.maxValue.toInt from iy.2), Int32.mul_comm (Int32.ofInt y)]
    rw [e1]; exact k
/-! branches -/
theorem s_icmp_eq (hx : p.tables.exec = Jvm.exec) (hb : c.code = cc) {x y : Int} {off : Int} {tgt : Nat} (hdg : decode cc pc = .ok (.if_icmp .eq off, 3)) (ht : (pc : Int) + off = (tgt : Int)) (ix : inr x) (iy : inr y) (kt : x = y → W p l e R s m args below meth c H locs cells slots Q (F0 m tgt ls rest)) (kf : ¬ x = y → W p l e R s m args below meth c H locs cells slots Q (F0 m (pc + 3) ls rest)) : W p l e R s m args below meth c H locs cells slots Q (F0 m pc ls (vi y :: vi x :: rest)) :=
  lv_icmp_eq hx hb hdg ht (fun q => kt ((ofI_inj ix iy).mp q)) (fun q => kf (fun z => q ((ofI_inj ix iy).mpr z)))
theorem s_icmp_ne (hx : p.tables.exec = Jvm.exec) (hb : c.code = cc) {x y : Int} {off : Int} {tgt : Nat} (hdg : decode cc pc = .ok (.if_icmp .ne off, 3)) (ht : (pc : Int) + off = (tgt : Int)) (ix : inr x) (iy : inr y) (kt : x ≠ y → W p l e R s m args below meth c H locs cells slots Q (F0 m tgt ls rest)) (kf : ¬ x ≠ y → W p l e R s m args below meth c H locs cells slots Q (F0 m (pc + 3) ls rest)) : W p l e R s m args below meth c H locs cells slots Q (F0 m pc ls (vi y :: vi x :: rest)) := by
  refine lv_icmp_ne hx hb hdg ht (fun q => ?_) (fun q => ?_)
  · exact kt (fun z => absurd ((ofI_inj ix iy).mpr z) q)
  · exact kf (fun z => z (by first | exact (ofI_inj ix iy).mp q | exact (ofI_inj ix iy).mp (Classical.byContradiction q)))
theorem s_icmp_lt (hx : p.tables.exec = Jvm.exec) (hb : c.code = cc) {x y : Int} {off : Int} {tgt : Nat} (hdg : decode cc pc = .ok (.if_icmp .lt off, 3)) (ht : (pc : Int) + off = (tgt : Int)) (ix : inr x) (iy : inr y) (kt : x < y → W p l e R s m args below meth c H locs cells slots Q (F0 m tgt ls rest)) (kf : ¬ x < y → W p l e R s m args below meth c H locs cells slots Q (F0 m (pc + 3) ls rest)) : W p l e R s m args below meth c H locs cells slots Q (F0 m pc ls (vi y :: vi x :: rest)) :=
  lv_icmp_lt hx hb hdg ht (fun q => kt ((ofI_lt ix iy).mp q)) (fun q => kf (fun z => q ((ofI_lt ix iy).mpr z)))
theorem s_icmp_ge (hx : p.tables.exec = Jvm.exec) (hb : c.code = cc) {x y : Int} {off : Int} {tgt : Nat} (hdg : decode cc pc = .ok (.if_icmp .ge off, 3)) (ht : (pc : Int) + off = (tgt : Int)) (ix : inr x) (iy : inr y) (kt : y ≤ x → W p l e R s m args below meth c H locs cells slots Q (F0 m tgt ls rest)) (kf : ¬ y ≤ x → W p l e R s m args below meth c H locs cells slots Q (F0 m (pc + 3) ls rest)) : W p l e R s m args below meth c H locs cells slots Q (F0 m pc ls (vi y :: vi x :: rest)) :=
  lv_icmp_ge hx hb hdg ht (fun q => kt ((ofI_le iy ix).mp q)) (fun q => kf (fun z => q ((ofI_le iy ix).mpr z)))
theorem s_icmp_gt (hx : p.tables.exec = Jvm.exec) (hb : c.code = cc) {x y : Int} {off : Int} {tgt : Nat} (hdg : decode cc pc = .ok (.if_icmp .gt off, 3)) (ht : (pc : Int) + off = (tgt : Int)) (ix : inr x) (iy : inr y) (kt : y < x → W p l e R s m args below meth c H locs cells slots Q (F0 m tgt ls rest)) (kf : ¬ y < x → W p l e R s m args below meth c H locs cells slots Q (F0 m (pc + 3) ls rest)) : W p l e R s m args below meth c H locs cells slots Q (F0 m pc ls (vi y :: vi x :: rest)) :=
  lv_icmp_gt hx hb hdg ht (fun q => kt ((ofI_lt iy ix).mp q)) (fun q => kf (fun z => q ((ofI_lt iy ix).mpr z)))
theorem s_icmp_le (hx : p.tables.exec = Jvm.exec) (hb : c.code = cc) {x y : Int} {off : Int} {tgt : Nat} (hdg : decode cc pc = .ok (.if_icmp .le off, 3)) (ht : (pc : Int) + off = (tgt : Int)) (ix : inr x) (iy : inr y) (kt : x ≤ y → W p l e R s m args below meth c H locs cells slots Q (F0 m tgt ls rest)) (kf : ¬ x ≤ y → W p l e R s m args below meth c H locs cells slots Q (F0 m (pc + 3) ls rest)) : W p l e R s m args below meth c H locs cells slots Q (F0 m pc ls (vi y :: vi x :: rest)) :=
  lv_icmp_le hx hb hdg ht (fun q => kt ((ofI_le ix iy).mp q)) (fun q => kf (fun z => q ((ofI_le ix iy).mpr z)))
theorem s_if_eq (hx : p.tables.exec = Jvm.exec) (hb : c.code = cc) {x : Int} {off : Int} {tgt : Nat} (hdg : decode cc pc = .ok (.ifCond .eq off, 3)) (ht : (pc : Int) + off = (tgt : Int)) (ix : inr x) (kt : x = 0 → W p l e R s m args below meth c H locs cells slots Q (F0 m tgt ls rest)) (kf : ¬ x = 0 → W p l e R s m args below meth c H locs cells slots Q (F0 m (pc + 3) ls rest)) : W p l e R s m args below meth c H locs cells slots Q (F0 m pc ls (vi x :: rest)) :=
  lv_if_eq hx hb hdg ht (fun q => kt ((ofI_inj ix i_0).mp q)) (fun q => kf (fun z => q ((ofI_inj ix i_0).mpr z)))
theorem s_if_ne (hx : p.tables.exec = Jvm.exec) (hb : c.code = cc) {x : Int} {off : Int} {tgt : Nat} (hdg : decode cc pc = .ok (.ifCond .ne off, 3)) (ht : (pc : Int) + off = (tgt : Int)) (ix : inr x) (kt : x ≠ 0 → W p l e R s m args below meth c H locs cells slots Q (F0 m tgt ls rest)) (kf : ¬ x ≠ 0 → W p l e R s m args below meth c H locs cells slots Q (F0 m (pc + 3) ls rest)) : W p l e R s m args below meth c H locs cells slots Q (F0 m pc ls (vi x :: rest)) := by
  refine lv_if_ne hx hb hdg ht (fun q => ?_) (fun q => ?_)
  · exact kt (fun z => absurd ((ofI_inj ix i_0).mpr z) q)
  · exact kf (fun z => z (by first | exact (ofI_inj ix i_0).mp q | exact (ofI_inj ix i_0).mp (Classical.byContradiction q)))
theorem s_if_lt (hx : p.tables.exec = Jvm.exec) (hb : c.code = cc) {x : Int} {off : Int} {tgt : Nat} (hdg : decode cc pc = .ok (.ifCond .lt off, 3)) (ht : (pc : Int) + off = (tgt : Int)) (ix : inr x) (kt : x < 0 → W p l e R s m args below meth c H locs cells slots Q (F0 m tgt ls rest)) (kf : ¬ x < 0 → W p l e R s m args below meth c H locs cells slots Q (F0 m (pc + 3) ls rest)) : W p l e R s m args below meth c H locs cells slots Q (F0 m pc ls (vi x :: rest)) :=
  lv_if_lt hx hb hdg ht (fun q => kt ((ofI_lt ix i_0).mp q)) (fun q => kf (fun z => q ((ofI_lt ix i_0).mpr z)))
theorem s_if_ge (hx : p.tables.exec = Jvm.exec) (hb : c.code = cc) {x : Int} {off : Int} {tgt : Nat} (hdg : decode cc pc = .ok (.ifCond .ge off, 3)) (ht : (pc : Int) + off = (tgt : Int)) (ix : inr x) (kt : 0 ≤ x → W p l e R s m args below meth c H locs cells slots Q (F0 m tgt ls rest)) (kf : ¬ 0 ≤ x → W p l e R s m args below meth c H locs cells slots Q (F0 m (pc + 3) ls rest)) : W p l e R s m args below meth c H locs cells slots Q (F0 m pc ls (vi x :: rest)) :=
  lv_if_ge hx hb hdg ht (fun q => kt ((ofI_le i_0 ix).mp q)) (fun q => kf (fun z => q ((ofI_le i_0 ix).mpr z)))
theorem s_if_gt (hx : p.tables.exec = Jvm.exec) (hb : c.code = cc) {x : Int} {off : Int} {tgt : Nat} (hdg : decode cc pc = .ok (.ifCond .gt off, 3)) (ht : (pc : Int) + off = (tgt : Int)) (ix : inr x) (kt : 0 < x → W p l e R s m args below meth c H locs cells slots Q (F0 m tgt ls rest)) (kf : ¬ 0 < x → W p l e R s m args below meth c H locs cells slots Q (F0 m (pc + 3) ls rest)) : W p l e R s m args below meth c H locs cells slots Q (F0 m pc ls (vi x :: rest)) :=
  lv_if_gt hx hb hdg ht (fun q => kt ((ofI_lt i_0 ix).mp q)) (fun q => kf (fun z => q ((ofI_lt i_0 ix).mpr z)))
theorem s_if_le (hx : p.tables.exec = Jvm.exec) (hb : c.code = cc) {x : Int} {off : Int} {tgt : Nat} (hdg : decode cc pc = .ok (.ifCond .le off, 3)) (ht : (pc : Int) + off = (tgt : Int)) (ix : inr x) (kt : x ≤ 0 → W p l e R s m args below meth c H locs cells slots Q (F0 m tgt ls rest)) (kf : ¬ x ≤ 0 → W p l e R s m args below meth c H locs cells slots Q (F0 m (pc + 3) ls rest)) : W p l e R s m args below meth c H locs cells slots Q (F0 m pc ls (vi x :: rest)) :=
  lv_if_le hx hb hdg ht (fun q => kt ((ofI_le ix i_0).mp q)) (fun q => kf (fun z => q ((ofI_le ix i_0).mpr z)))
theorem s_ifnull (hx : p.tables.exec = Jvm.exec) (hb : c.code = cc) {x : Int} {off : Int} {tgt : Nat} (hdg : decode cc pc = .ok (.ifnull off, 3)) (ht : (pc : Int) + off = (tgt : Int)) (kt : x < 0 → W p l e R s m args below meth c H locs cells slots Q (F0 m tgt ls rest)) (kf : ¬ x < 0 → W p l e R s m args below meth c H locs cells slots Q (F0 m (pc + 3) ls rest)) : W p l e R s m args below meth c H locs cells slots Q (F0 m pc ls (vr x :: rest)) := by
  by_cases h0 : x < 0
  · rw [vr_neg h0]; exact lv_ifnullN hx hb hdg ht (kt h0)
  · rw [vr_pos (by omega)]; exact lv_ifnull hx hb hdg (kf h0)
theorem s_ifnonnull (hx : p.tables.exec = Jvm.exec) (hb : c.code = cc) {x : Int} {off : Int} {tgt : Nat} (hdg : decode cc pc = .ok (.ifnonnull off, 3)) (ht : (pc : Int) + off = (tgt : Int)) (kt : 0 ≤ x → W p l e R s m args below meth c H locs cells slots Q (F0 m tgt ls rest)) (kf : ¬ 0 ≤ x → W p l e R s m args below meth c H locs cells slots Q (F0 m (pc + 3) ls rest)) : W p l e R s m args below meth c H locs cells slots Q (F0 m pc ls (vr x :: rest)) := by
  by_cases h0 : 0 ≤ x
  · rw [vr_pos h0]; exact lv_ifnonnull hx hb hdg ht (kt h0)
  · rw [vr_neg (by omega)]; exact lv_ifnonnullN hx hb hdg (kf h0)
/-! references in locals -/
theorem s_aload_n (hx : p.tables.exec = Jvm.exec) (hb : c.code = cc) {k : Fin 4} {i : Nat} {x : Int} (hdg : decode cc pc = .ok (.aload_n k, 1)) (hi : (k : Nat) = i) (hl : ls[i]? = some (.val (vr x))) (kk : W p l e R s m args below meth c H locs cells slots Q (F0 m (pc + 1) ls (vr x :: rest))) : W p l e R s m args below meth c H locs cells slots Q (F0 m pc ls rest) := by
  by_cases h0 : x < 0
  · rw [vr_neg h0] at hl kk; exact lv_aload_nN hx hb hdg hi hl kk
  · rw [vr_pos (by omega)] at hl kk; exact lv_aload_n hx hb hdg hi hl kk
theorem s_aload (hx : p.tables.exec = Jvm.exec) (hb : c.code = cc) {i : Nat} {x : Int} (hdg : decode cc pc = .ok (.aload i, 2)) (hl : ls[i]? = some (.val (vr x))) (kk : W p l e R s m args below meth c H locs cells slots Q (F0 m (pc + 2) ls (vr x :: rest))) : W p l e R s m args below meth c H locs cells slots Q (F0 m pc ls rest) := by
  by_cases h0 : x < 0
  · rw [vr_neg h0] at hl kk; exact lv_aloadN hx hb hdg hl kk
  · rw [vr_pos (by omega)] at hl kk; exact lv_aload hx hb hdg hl kk
theorem s_astore_n (hx : p.tables.exec = Jvm.exec) (hb : c.code = cc) {k : Fin 4} {i nL : Nat} {x : Int} {lv lv' : List (Nat × Value)} (hdg : decode cc pc = .ok (.astore_n k, 1)) (hi : (k : Nat) = i) (hh : lv_has ls nL lv) (hn : i < nL) (hl : (i, vr x) :: lv.filter (fun q => !(q.1 == i) && !(q.1 + 1 == i && q.2.category == 2)) = lv') (kk : ∀ ls' : Array Slot, lv_has ls' nL lv' → W p l e R s m args below meth c H locs cells slots Q (F0 m (pc + 1) ls' rest)) : W p l e R s m args below meth c H locs cells slots Q (F0 m pc ls (vr x :: rest)) := by
  by_cases h0 : x < 0
  · rw [vr_neg h0] at hl ⊢; exact lv_astore_nN hx hb hdg hi hh hn hl kk
  · rw [vr_pos (by omega)] at hl ⊢; exact lv_astore_n hx hb hdg hi hh hn hl kk
theorem s_astore (hx : p.tables.exec = Jvm.exec) (hb : c.code = cc) {i nL : Nat} {x : Int} {lv lv' : List (Nat × Value)} (hdg : decode cc pc = .ok (.astore i, 2)) (hh : lv_has ls nL lv) (hn : i < nL) (hl : (i, vr x) :: lv.filter (fun q => !(q.1 == i) && !(q.1 + 1 == i && q.2.category == 2)) = lv') (kk : ∀ ls' : Array Slot, lv_has ls' nL lv' → W p l e R s m args below meth c H locs cells slots Q (F0 m (pc + 2) ls' rest)) : W p l e R s m args below meth c H locs cells slots Q (F0 m pc ls (vr x :: rest)) := by
  by_cases h0 : x < 0
  · rw [vr_neg h0] at hl ⊢; exact lv_astoreN hx hb hdg hh hn hl kk
  · rw [vr_pos (by omega)] at hl ⊢; exact lv_astore hx hb hdg hh hn hl kk
theorem vr_cat (x : Int) : (vr x).category = 1 := by
  by_cases h0 : x < 0
  · rw [vr_neg h0]; rfl
  · rw [vr_pos (by omega)]; rfl
theorem s_null (hx : p.tables.exec = Jvm.exec) (hb : c.code = cc) (hdg : decode cc pc = .ok (.aconst_null, 1)) (kk : W p l e R s m args below meth c H locs cells slots Q (F0 m (pc + 1) ls (vr (-1) :: rest))) : W p l e R s m args below meth c H locs cells slots Q (F0 m pc ls rest) := lv_null hx hb hdg (by rw [vr_neg (by decide)] at kk; exact kk)
theorem s_iinc (hx : p.tables.exec = Jvm.exec) (hb : c.code = cc) {i nL k : Nat} {n x : Int} {lv lv' : List (Nat × Value)} (hdg : decode cc pc = .ok (.iinc i n, 3)) (hh : lv_has ls nL lv) (hk : lv[k]? = some (i, vi x)) (hn : i < nL) (hl : (i, vi (wr (x + n))) :: lv.filter (fun q => !(q.1 == i) && !(q.1 + 1 == i && q.2.category == 2)) = lv') (kk : ∀ ls' : Array Slot, lv_has ls' nL lv' → W p l e R s m args below meth c H locs cells slots Q (F0 m (pc + 3) ls' rest)) : W p l e R s m args below meth c H locs cells slots Q (F0 m pc ls rest) :=
  lv_iinc hx hb hdg hh hk (by rw [ofI_wr, Int32.ofInt_add]) hn hl kk
/-! fields -/
theorem ix_1 {α : Type} (a : α) : [a][0]? = some a := rfl
theorem fs_at {ci k : Nat} {f : Nat → Int} {b : Bool} (hk : k < (tyTab.getD ci []).length) (hr : rfT ci k = b) : ((tyTab.getD ci []).mapIdx (fun j b => vv b (f j)))[k]? = some (vv b (f k)) := by
  rw [List.getElem?_mapIdx]
  have h1 : (tyTab.getD ci [])[k]? = some b := by
    unfold rfT at hr
    rw [List.getD_eq_getElem?_getD, List.getElem?_eq_getElem hk] at hr
    rw [List.getElem?_eq_getElem hk]
    exact congrArg some hr
  rw [h1]; rfl
theorem fs_set {ci k : Nat} {f : Nat → Int} {b : Bool} {v : Int} (hr : rfT ci k = b) (hk : k < (tyTab.getD ci []).length) : ((tyTab.getD ci []).mapIdx (fun j b => vv b (f j))).set k (vv b v) = (tyTab.getD ci []).mapIdx (fun j b => vv b (if j = k then v else f j)) := by
  apply List.ext_getElem?
  intro i
  by_cases hi : i = k
  · subst hi
    rw [List.getElem?_set_self (by rw [List.length_mapIdx]; exact hk), fs_at hk hr, if_pos rfl]
  · rw [List.getElem?_set_ne (fun q => hi q.symm), List.getElem?_mapIdx, List.getElem?_mapIdx]
    simp only [if_neg hi]
theorem s_getfi (hx : p.tables.exec = Jvm.exec) (hb : c.code = cc) {own C : String} {T : u_T} {N ci index : Nat} (hts : ∀ w ∈ BW, w.before args s = true) (hin : ∀ w ∈ u_ws C T N, w ∈ BW) (hown : s.vm.findClass own = some m.cls) (hV : va_K D vwCl (tysG G) s) (hM : SM D G base h H) (hc : vwCl[ci]? = some (C, T, N)) (hci : ci ≤ 6) (hNl : (tyTab.getD ci []).length = N) {k : Nat} (hk : k < N) (hr : rfT ci k = false) (hlink : (Cond.fieldLink own index (T k).1 (T k).2.1 (T k).2.2.1).before args s = true) {a v : Int} (g : gtf h ci k a = some v) (hdg : decode cc pc = .ok (.getfield index, 3)) (kk : W p l e R s m args below meth c H locs cells slots Q (F0 m (pc + 3) ls (vi v :: rest))) : W p l e R s m args below meth c H locs cells slots Q (F0 m pc ls (vr a :: rest)) := by
  obtain ⟨h1, h2, h3⟩ := gtf_s g
  rw [vr_pos h1]
  refine va_get (v := vi v) hx hb hts hin hown hV (hM.obj h2 hci) 0 (ix_1 _) hc k hk hlink (fun _ q => q) ?_ hdg kk
  rw [fs_at (by rw [hNl]; exact hk) hr, h3]; rfl
theorem s_getfr (hx : p.tables.exec = Jvm.exec) (hb : c.code = cc) {own C : String} {T : u_T} {N ci index : Nat} (hts : ∀ w ∈ BW, w.before args s = true) (hin : ∀ w ∈ u_ws C T N, w ∈ BW) (hown : s.vm.findClass own = some m.cls) (hV : va_K D vwCl (tysG G) s) (hM : SM D G base h H) (hc : vwCl[ci]? = some (C, T, N)) (hci : ci ≤ 6) (hNl : (tyTab.getD ci []).length = N) {k : Nat} (hk : k < N) (hr : rfT ci k = true) (hlink : (Cond.fieldLink own index (T k).1 (T k).2.1 (T k).2.2.1).before args s = true) {a v : Int} (g : gtf h ci k a = some v) (hdg : decode cc pc = .ok (.getfield index, 3)) (kk : W p l e R s m args below meth c H locs cells slots Q (F0 m (pc + 3) ls (vr v :: rest))) : W p l e R s m args below meth c H locs cells slots Q (F0 m pc ls (vr a :: rest)) := by
  obtain ⟨h1, h2, h3⟩ := gtf_s g
  rw [vr_pos h1]
  refine va_get (v := vr v) hx hb hts hin hown hV (hM.obj h2 hci) 0 (ix_1 _) hc k hk hlink (fun _ q => q) ?_ hdg kk
  rw [fs_at (by rw [hNl]; exact hk) hr, h3]; rfl
/-- what a store into a field leaves -/
theorem set_at {ci k a N : Nat} {v : Int} {b : Bool} {C : String} {T : u_T} {H1 : Heap} {cell : Cell} (hk0 : hK h a = ci + 1) (hci : ci ≤ 6) (hNl : (tyTab.getD ci []).length = N) (hk : k < N) (hr : rfT ci k = b) (hc : vwCl[ci]? = some (C, T, N)) (hap : ∀ x y, x < N → y < N → x ≠ y → (D.2 ci) x ≠ (D.2 ci) y) (q2 : cell.cls = D.1 ci) (q3 : cell.vm = .none) (q4 : ∀ k, k < N → cell.slots[(D.2 ci) k]? = some (vp_V ((tyTab.getD ci []).mapIdx (fun j b => vv b (hF h a j))) k)) (e1 : H1[a]? = some (cell.setSlot (D.2 ci k) (vv b v))) : va_at D vwCl (a, encE G (hset h a k v) a) H1 := by
  have e0 : encE G (hset h a k v) a = .inr (ci, ((tyTab.getD ci []).mapIdx (fun j b => vv b (hF h a j))).set k (vv b v)) := by
    have hk1 : hK (hset h a k v) a = ci + 1 := hk0
    unfold encE
    rw [if_pos (by omega), hk1, fs_set hr (by rw [hNl]; exact hk)]
    have : ∀ j, hF (hset h a k v) a j = if j = k then v else hF h a j := fun j => by
      show (if a = a ∧ j = k then v else hF h a j) = _
      simp
    simp only [this]; rfl
  rw [e0]
  exact ⟨_, hc, t_OB.to (V := updV (vp_V ((tyTab.getD ci []).mapIdx (fun j b => vv b (hF h a j)))) k (vv b v)) ⟨_, e1, q2, q3, t_set q4 hap hk (vv b v)⟩ (fun j _ => vp_updV_set (by rw [List.length_mapIdx, hNl]; exact hk) (vv b v) j)⟩
theorem s_put (hx : p.tables.exec = Jvm.exec) (hb : c.code = cc) {own C : String} {T : u_T} {N ci index : Nat} (hts : ∀ w ∈ BW, w.before args s = true) (hin : ∀ w ∈ u_ws C T N, w ∈ BW) (ty0 : Nat → FieldType) (hty : ∀ k, k < N → parseFieldDescriptor (T k).2.2.1 = some (ty0 k)) (hnm : ∀ a, a < N → ∀ b, b < N → a ≠ b → (T a).2.1 ≠ (T b).2.1) (hown : s.vm.findClass own = some m.cls) (hV : va_K D vwCl (tysG G) s) (hM : SM D G base h H) (hS : va_S (fun q => base ≤ q) H0 H locs) (hc : vwCl[ci]? = some (C, T, N)) (hci : ci ≤ 6) (hNl : (tyTab.getD ci []).length = N) {k : Nat} (hk : k < N) {b : Bool} (hr : rfT ci k = b) (hlink : (Cond.fieldLink own index (T k).1 (T k).2.1 (T k).2.2.1).before args s = true) (hfin : (T k).2.2.2 = false) {a v : Int} (hn : narrow (ty0 k) (vv b v) = vv b v) (hfit : fits (ty0 k) (vv b v) = true) (hv : b = false → inr v) (g : ptf h ci k a v = some h') (hdg : decode cc pc = .ok (.putfield index, 3)) (kk : ∀ (H1 : Heap) (locs1 : List Loc), SM D G base h' H1 → va_S (fun q => base ≤ q) H0 H1 locs1 → W p l e R s m args below meth c H1 locs1 cells slots Q (F0 m (pc + 3) ls rest)) : W p l e R s m args below meth c H locs cells slots Q (F0 m pc ls (vv b v :: vr a :: rest)) := by
  obtain ⟨h1, h2, h3⟩ := ptf_s g
  rw [vr_pos h1]
  have hap := va_apart (own := own) hts hin ty0 hty hnm hV hc
  obtain ⟨r, h4, cell, q1, q2, q3, q4⟩ := hM.obj h2 hci 0 _ (ix_1 _)
  have hr2 : r = (C, T, N) := Option.some.inj (h4.symm.trans hc)
  subst hr2
  obtain ⟨hS1, hfc, kC, hkC, hkind⟩ := hV.1 ci _ hc
  obtain ⟨cf, kf, fi, f, hi, hsl⟩ := hS1 k hk
  have hlay := hts _ (hin _ (u_in_lay hk))
  unfold u_lay at hlay
  rw [if_neg (by rw [hfin]; decide)] at hlay
  have hst := (u_facts hfc hkC (u_lays hts hin hk) hi).1
  have h6 := u_store hfc hkC hkind hlay hi (hty k hk) hn hfit
  refine W.putK hx hb (f := f) ⟨hown, hlink, ⟨_, _, _, hi⟩, hst⟩ (by rw [q2]; exact h6) q1 q3 (by rw [hsl]; exact k2_hasslot (q4 k hk)) rfl rfl hdg fun H' e1 e2 e3 => ?_
  rw [hsl] at e1 ⊢
  refine kk H' _ ?_ (hS.put e2 e3 (hM.2.2 _ (by rw [h2]; omega)).1)
  rw [h3]
  refine hM.set (by rw [h2]; omega) e2 e3 (fun q => hv ?_) (set_at h2 hci hNl hk hr hc hap q2 q3 q4 e1)
  rw [h2, isI, if_pos (by omega), show ci + 1 - 1 = ci from rfl, hr] at q
  cases b
  · rfl
  · cases q
theorem s_putF (hx : p.tables.exec = Jvm.exec) (hb : c.code = cc) {own C : String} {T : u_T} {N ci index : Nat} (hts : ∀ w ∈ BW, w.before args s = true) (hin : ∀ w ∈ u_ws C T N, w ∈ BW) (ty0 : Nat → FieldType) (hty : ∀ k, k < N → parseFieldDescriptor (T k).2.2.1 = some (ty0 k)) (hnm : ∀ a, a < N → ∀ b, b < N → a ≠ b → (T a).2.1 ≠ (T b).2.1) (hown : s.vm.findClass own = some m.cls) (hV : va_K D vwCl (tysG G) s) (hM : SM D G base h H) (hS : va_S (fun q => base ≤ q) H0 H locs) (hc : vwCl[ci]? = some (C, T, N)) (hci : ci ≤ 6) (hNl : (tyTab.getD ci []).length = N) {k : Nat} (hk : k < N) {b : Bool} (hr : rfT ci k = b) (hlink : (Cond.fieldLink own index (T k).1 (T k).2.1 (T k).2.2.1).before args s = true) (hfin : (T k).2.2.2 = true) (hin2 : meth.name = "<init>") (hdecl : (T k).1 = own) {a v : Int} (hn : narrow (ty0 k) (vv b v) = vv b v) (hfit : fits (ty0 k) (vv b v) = true) (hv : b = false → inr v) (g : ptf h ci k a v = some h') (hdg : decode cc pc = .ok (.putfield index, 3)) (kk : ∀ (H1 : Heap) (locs1 : List Loc), SM D G base h' H1 → va_S (fun q => base ≤ q) H0 H1 locs1 → W p l e R s m args below meth c H1 locs1 cells slots Q (F0 m (pc + 3) ls rest)) : W p l e R s m args below meth c H locs cells slots Q (F0 m pc ls (vv b v :: vr a :: rest)) := by
  obtain ⟨h1, h2, h3⟩ := ptf_s g
  rw [vr_pos h1]
  have hap := va_apart (own := own) hts hin ty0 hty hnm hV hc
  obtain ⟨r, h4, cell, q1, q2, q3, q4⟩ := hM.obj h2 hci 0 _ (ix_1 _)
  have hr2 : r = (C, T, N) := Option.some.inj (h4.symm.trans hc)
  subst hr2
  obtain ⟨hS1, hfc, kC, hkC, hkind⟩ := hV.1 ci _ hc
  obtain ⟨cf, kf, fi, f, hi, hsl⟩ := hS1 k hk
  have hlay := hts _ (hin _ (u_in_lay hk))
  unfold u_lay at hlay
  rw [if_pos hfin] at hlay
  have hst := (u_facts hfc hkC (u_lays hts hin hk) hi).1
  have hcf : m.cls = cf := by
    obtain ⟨_, _, c', _, _, _, -, -, hf', -, -, -, hown2, -⟩ := Cond.laysFinal_spec hlay
    have e1 : c' = cf := by have := hi.symm.trans hf'; simp at this; exact this.1.symm
    rw [hdecl] at hown2
    rw [← e1]; exact Option.some.inj (hown.symm.trans hown2)
  have h6 := u_fits hfc hkC hkind (Or.inr hlay) hi (hty k hk) hn hfit
  refine W.putFinK hx hb hown hlink hi hst hcf hin2 (by rw [q2]; exact h6) q1 q3 (by rw [hsl]; exact k2_hasslot (q4 k hk)) rfl rfl hdg fun H' e1 e2 e3 => ?_
  rw [hsl] at e1 ⊢
  refine kk H' _ ?_ (hS.put e2 e3 (hM.2.2 _ (by rw [h2]; omega)).1)
  rw [h3]
  refine hM.set (by rw [h2]; omega) e2 e3 (fun q => hv ?_) (set_at h2 hci hNl hk hr hc hap q2 q3 q4 e1)
  rw [h2, isI, if_pos (by omega), show ci + 1 - 1 = ci from rfl, hr] at q
  cases b
  · rfl
  · cases q
end
end
section
section
variable {p : Program} {l : Launch} {e : Env} {R : Room} {s : State} {m : MethodId} {args : Array Value} {below : List Frame} {meth : Method} {c : Code} {H : Heap} {locs : List Loc} {cells slots : Nat} {Q : State → Prop}
variable {cc : ByteArray} {pc : Nat} {ls : Array Slot} {rest : List Value} {D : va_G} {G : Nat → ClassId} {base : Nat} {h h' : Hp} {H0 : Heap}
theorem in_of {i : Int} {n : Nat} (hi : inr i) (h0 : 0 ≤ i) (h1 : i < (n : Int)) : vp_in (Int32.ofInt i) n := by
  intro q
  rcases q with q | q
  · have := (ofI_lt hi i_0).mp q; omega
  · rw [ofI_cl hi] at q; omega
theorem s_iald (hx : p.tables.exec = Jvm.exec) (hb : c.code = cc) (hV : va_K D vwCl (tysG G) s) (hM : SM D G base h H) {a i v : Int} (hi : inr i) (g : ald h 8 a i = some v) (hdg : decode cc pc = .ok (.iaload, 1)) (kk : W p l e R s m args below meth c H locs cells slots Q (F0 m (pc + 1) ls (vi v :: rest))) : W p l e R s m args below meth c H locs cells slots Q (F0 m pc ls (vi i :: vr a :: rest)) := by
  obtain ⟨h1, h2, h3, h4, h5⟩ := ald_s g
  rw [vr_pos h1]
  refine va_iald hx hb hV (hM.arI h2 (by decide) (by decide)) 0 0 (ix_1 _) rfl (in_of hi h3 h4) hdg ?_
  rw [ofI_cl hi, ← h5]; exact kk
theorem s_zald (hx : p.tables.exec = Jvm.exec) (hb : c.code = cc) (hV : va_K D vwCl (tysG G) s) (hM : SM D G base h H) {a i v : Int} (hi : inr i) (g : ald h 9 a i = some v) (hdg : decode cc pc = .ok (.baload, 1)) (kk : W p l e R s m args below meth c H locs cells slots Q (F0 m (pc + 1) ls (vi v :: rest))) : W p l e R s m args below meth c H locs cells slots Q (F0 m pc ls (vi i :: vr a :: rest)) := by
  obtain ⟨h1, h2, h3, h4, h5⟩ := ald_s g
  rw [vr_pos h1]
  refine va_zald hx hb hV (hM.arI h2 (by decide) (by decide)) 0 1 (ix_1 _) rfl (in_of hi h3 h4) hdg ?_
  rw [ofI_cl hi, ← h5]; exact kk
theorem s_lald (hx : p.tables.exec = Jvm.exec) (hb : c.code = cc) (hV : va_K D vwCl (tysG G) s) (hM : SM D G base h H) {a i v : Int} (hi : inr i) (g : ald h 10 a i = some v) (hdg : decode cc pc = .ok (.laload, 1)) (kk : W p l e R s m args below meth c H locs cells slots Q (F0 m (pc + 1) ls (vl v :: rest))) : W p l e R s m args below meth c H locs cells slots Q (F0 m pc ls (vi i :: vr a :: rest)) := by
  obtain ⟨h1, h2, h3, h4, h5⟩ := ald_s g
  rw [vr_pos h1]
  refine va_lald hx hb hV (hM.arL h2) 0 2 (ix_1 _) rfl (in_of hi h3 h4) hdg ?_
  rw [ofI_cl hi, ← h5]; exact kk
theorem s_aald (hx : p.tables.exec = Jvm.exec) (hb : c.code = cc) (hV : va_K D vwCl (tysG G) s) (hM : SM D G base h H) {kd : Nat} {C : String} (h11 : 11 ≤ kd) (ht : (tysG G)[kd - 8]? = some (G kd, .object C)) {a i v : Int} (hi : inr i) (g : ald h kd a i = some v) (hdg : decode cc pc = .ok (.aaload, 1)) (kk : W p l e R s m args below meth c H locs cells slots Q (F0 m (pc + 1) ls (vr v :: rest))) : W p l e R s m args below meth c H locs cells slots Q (F0 m pc ls (vi i :: vr a :: rest)) := by
  obtain ⟨h1, h2, h3, h4, h5⟩ := ald_s g
  rw [vr_pos h1]
  refine va_aldq hx hb hV (hM.arR h2 h11) 0 (kd - 8) (ix_1 _) ht (in_of hi h3 h4) hdg ?_
  rw [ofI_cl hi, ← h5]; exact kk
theorem s_alen (hx : p.tables.exec = Jvm.exec) (hb : c.code = cc) (hV : va_K D vwCl (tysG G) s) (hM : SM D G base h H) {a v : Int} (g : aln h 8 a = some v) (hdg : decode cc pc = .ok (.arraylength, 1)) (kk : W p l e R s m args below meth c H locs cells slots Q (F0 m (pc + 1) ls (vi v :: rest))) : W p l e R s m args below meth c H locs cells slots Q (F0 m pc ls (vr a :: rest)) := by
  obtain ⟨h1, h2, h3, h4⟩ := aln_s g
  rw [vr_pos h1]
  refine va_alen hx hb hV (hM.arI h2 (by decide) (by decide)) 0 0 (ix_1 _) rfl ?_ hdg kk
  rw [h3]; rfl
/-- stores into arrays -/
theorem s_iast (hx : p.tables.exec = Jvm.exec) (hb : c.code = cc) (hV : va_K D vwCl (tysG G) s) (hM : SM D G base h H) (hS : va_S (fun q => base ≤ q) H0 H locs) {a i v : Int} (hi : inr i) (hv : inr v) (g : ast h 8 a i v = some h') (hdg : decode cc pc = .ok (.iastore, 1)) (kk : ∀ (H1 : Heap) (locs1 : List Loc), SM D G base h' H1 → va_S (fun q => base ≤ q) H0 H1 locs1 → W p l e R s m args below meth c H1 locs1 cells slots Q (F0 m (pc + 1) ls rest)) : W p l e R s m args below meth c H locs cells slots Q (F0 m pc ls (vi v :: vi i :: vr a :: rest)) := by
  obtain ⟨h1, h2, h3, h4, h5⟩ := ast_s g
  rw [vr_pos h1]
  have hP := hM.arI h2 (by decide) (by decide) 0 _ (ix_1 _)
  refine W.iast hx hb hP ((hV.2 0 _ rfl).1 _ (fun j => .int (Int32.ofInt (hF h a.toNat j)))) (fun q => by cases q) (by show ¬ (Int32.ofInt i < 0 ∨ (arrV _ _ _).slots.size ≤ _); rw [arrV_size]; exact in_of hi h3 h4) rfl rfl hdg fun H1 e1 z oq => ?_
  refine kk H1 _ ?_ (hS.put z oq (hM.2.2 _ (by rw [h2]; decide)).1)
  rw [h5]
  refine hM.set (by rw [h2]; decide) z oq (fun _ => hv) ?_
  have hk1 : hK (hset h a.toNat i.toNat v) a.toNat = 8 := h2
  unfold encE
  rw [if_neg (by omega), if_pos (by omega), hk1]
  show H1[a.toNat]? = some (vp_cell _ _)
  rw [e1, vp_cell_i, vp_cell_i, arrV_store]
  congr 2
  funext q
  rw [ofI_cl hi]
  show _ = Value.int (Int32.ofInt (if a.toNat = a.toNat ∧ q = i.toNat then v else hF h a.toNat q))
  by_cases hq : q = i.toNat
  · subst hq; simp [updV]
  · simp [updV, hq]
theorem s_last (hx : p.tables.exec = Jvm.exec) (hb : c.code = cc) (hV : va_K D vwCl (tysG G) s) (hM : SM D G base h H) (hS : va_S (fun q => base ≤ q) H0 H locs) {a i v : Int} (hi : inr i) (hv : inr v) (g : ast h 10 a i v = some h') (hdg : decode cc pc = .ok (.lastore, 1)) (kk : ∀ (H1 : Heap) (locs1 : List Loc), SM D G base h' H1 → va_S (fun q => base ≤ q) H0 H1 locs1 → W p l e R s m args below meth c H1 locs1 cells slots Q (F0 m (pc + 1) ls rest)) : W p l e R s m args below meth c H locs cells slots Q (F0 m pc ls (vl v :: vi i :: vr a :: rest)) := by
  obtain ⟨h1, h2, h3, h4, h5⟩ := ast_s g
  rw [vr_pos h1]
  have hP := hM.arL h2 0 _ (ix_1 _)
  refine W.last hx hb hP ((hV.2 2 _ rfl).1 _ (fun j => .long (Int64.ofInt (hF h a.toNat j)))) (fun q => by cases q) (by show ¬ (Int32.ofInt i < 0 ∨ (arrV _ _ _).slots.size ≤ _); rw [arrV_size]; exact in_of hi h3 h4) rfl rfl hdg fun H1 e1 z oq => ?_
  refine kk H1 _ ?_ (hS.put z oq (hM.2.2 _ (by rw [h2]; decide)).1)
  rw [h5]
  refine hM.set (by rw [h2]; decide) z oq (fun _ => hv) ?_
  have hk1 : hK (hset h a.toNat i.toNat v) a.toNat = 10 := h2
  unfold encE
  rw [if_neg (by omega), if_neg (by omega), if_pos hk1, hk1]
  show H1[a.toNat]? = some (vp_cell _ _)
  rw [e1, vp_cell_l, vp_cell_l, arrV_store]
  congr 2
  funext q
  rw [ofI_cl hi]
  show _ = Value.long (Int64.ofInt (if a.toNat = a.toNat ∧ q = i.toNat then v else hF h a.toNat q))
  by_cases hq : q = i.toNat
  · subst hq; simp [updV]
  · simp [updV, hq]
/-- a boolean's store: 0 or 1 -/
theorem s_zast (hx : p.tables.exec = Jvm.exec) (hb : c.code = cc) (hV : va_K D vwCl (tysG G) s) (hM : SM D G base h H) (hS : va_S (fun q => base ≤ q) H0 H locs) {a i v : Int} (hi : inr i) (hn : narrow .boolean (vi v) = vi v) (hv : inr v) (g : ast h 9 a i v = some h') (hdg : decode cc pc = .ok (.bastore, 1)) (kk : ∀ (H1 : Heap) (locs1 : List Loc), SM D G base h' H1 → va_S (fun q => base ≤ q) H0 H1 locs1 → W p l e R s m args below meth c H1 locs1 cells slots Q (F0 m (pc + 1) ls rest)) : W p l e R s m args below meth c H locs cells slots Q (F0 m pc ls (vi v :: vi i :: vr a :: rest)) := by
  obtain ⟨h1, h2, h3, h4, h5⟩ := ast_s g
  rw [vr_pos h1]
  have hP := hM.arI h2 (by decide) (by decide) 0 _ (ix_1 _)
  refine W.zast hx hb hP ((hV.2 1 _ rfl).1 _ (fun j => .int (Int32.ofInt (hF h a.toNat j)))) (fun q => by cases q) (by show ¬ (Int32.ofInt i < 0 ∨ (arrV _ _ _).slots.size ≤ _); rw [arrV_size]; exact in_of hi h3 h4) rfl rfl hdg fun H1 e1 z oq => ?_
  refine kk H1 _ ?_ (hS.put z oq (hM.2.2 _ (by rw [h2]; decide)).1)
  rw [h5]
  refine hM.set (by rw [h2]; decide) z oq (fun _ => hv) ?_
  have hk1 : hK (hset h a.toNat i.toNat v) a.toNat = 9 := h2
  unfold encE
  rw [if_neg (by omega), if_pos (by omega), hk1]
  show H1[a.toNat]? = some (vp_cell _ _)
  rw [e1, vp_cell_i, vp_cell_i, arrV_store]
  congr 2
  funext q
  rw [ofI_cl hi]
  show _ = Value.int (Int32.ofInt (if a.toNat = a.toNat ∧ q = i.toNat then v else hF h a.toNat q))
  by_cases hq : q = i.toNat
  · subst hq; simp [updV, hn]
  · simp [updV, hq]
theorem asr_s {kd : Nat} {a i v : Int} (e : asr h kd a i v = some h') : (v < 0 ∨ hK h v.toNat = kd - 9) ∧ ast h kd a i v = some h' := by
  unfold asr at e
  split at e
  · exact ⟨by assumption, e⟩
  · cases e
theorem s_aast (hx : p.tables.exec = Jvm.exec) (hb : c.code = cc) (hV : va_K D vwCl (tysG G) s) (hM : SM D G base h H) (hS : va_S (fun q => base ≤ q) H0 H locs) {kd ci : Nat} {r : vw_C} (h11 : 11 ≤ kd) (h14 : kd ≤ 14) (hkc : kd = ci + 10) (ht : (tysG G)[kd - 8]? = some (G kd, .object r.1)) (hc : vwCl[ci]? = some r) {a i v : Int} (hi : inr i) (g : asr h kd a i v = some h') (hdg : decode cc pc = .ok (.aastore, 1)) (kk : ∀ (H1 : Heap) (locs1 : List Loc), SM D G base h' H1 → va_S (fun q => base ≤ q) H0 H1 locs1 → W p l e R s m args below meth c H1 locs1 cells slots Q (F0 m (pc + 1) ls rest)) : W p l e R s m args below meth c H locs cells slots Q (F0 m pc ls (vr v :: vi i :: vr a :: rest)) := by
  obtain ⟨h0, g⟩ := asr_s g
  obtain ⟨h1, h2, h3, h4, h5⟩ := ast_s g
  rw [vr_pos h1]
  have hin := in_of hi h3 h4
  have hlt : (Int32.ofInt i).toNatClampNeg < hL h a.toNat := Nat.not_le.mp fun q => hin (Or.inr q)
  have hn0 : ¬ Int32.ofInt i < 0 := fun q => hin (Or.inl q)
  have hP := hM.arR h2 h11 0 _ (ix_1 _)
  have fin : ∀ (H1 : Heap), H1[a.toNat]? = some ((vp_cell (G kd) (hL h a.toNat, .inr (.inr (.inr (.inr (fun j => rO (hF h a.toNat j))))))).setSlot (Int32.ofInt i).toNatClampNeg (vr v)) → H1.size = H.size → (∀ q : Nat, q ≠ a.toNat → H1[q]? = H[q]?) → SM D G base h' H1 := by
    intro H1 e1 z oq
    rw [h5]
    refine hM.set (by rw [h2]; omega) z oq (fun q => ?_) ?_
    · rw [h2, isI, if_neg (by omega)] at q
      have := of_decide_eq_true q
      omega
    unfold encE
    rw [if_neg (by rw [show hK (hset h a.toNat i.toNat v) a.toNat = kd from h2]; omega), if_neg (by rw [show hK (hset h a.toNat i.toNat v) a.toNat = kd from h2]; omega), if_neg (by rw [show hK (hset h a.toNat i.toNat v) a.toNat = kd from h2]; omega), show hK (hset h a.toNat i.toNat v) a.toNat = kd from h2]
    show H1[a.toNat]? = some (vp_cell _ _)
    rw [e1, vp_cell_q, vp_cell_q, arrV_store]
    congr 2
    funext q
    rw [ofI_cl hi]
    show _ = va_rf (rO (if a.toNat = a.toNat ∧ q = i.toNat then v else hF h a.toNat q))
    by_cases hq : q = i.toNat
    · subst hq; simp [updV]
    · simp [updV, hq]
  by_cases hv0 : v < 0
  · rw [vr_neg hv0] at fin ⊢
    exact va_WaastN (C := r.1) hx hb hP ((hV.2 (kd - 8) _ ht).1 _ (fun j => va_rf (rO (hF h a.toNat j)))) (fun h => by cases h) (by show ¬ (Int32.ofInt i < 0 ∨ (arrV _ _ _).slots.size ≤ _); rw [arrV_size]; exact hin) rfl rfl hdg fun H1 e1 z oq => kk H1 _ (fin H1 e1 z oq) (hS.put z oq (hM.2.2 _ (by rw [h2]; omega)).1)
  · have hvk : hK h v.toNat = ci + 1 := by rcases h0 with h0 | h0 <;> omega
    rw [vr_pos (by omega)] at fin ⊢
    obtain ⟨r', hr', cellV, g1, g2, g3, -⟩ := hM.obj hvk (by omega) 0 _ (ix_1 _)
    have hcls := (hV.1 ci r hc).2
    obtain ⟨kA, comp, k1, k2, k3, -⟩ := (hV.2 (kd - 8) _ ht).2
    have hcomp : comp = D.1 ci := Option.some.inj (k3.symm.trans hcls.1)
    subst hcomp
    obtain ⟨kC, hkC, -⟩ := hcls.2
    exact W.aast hx hb hP (fun q h => by cases h) (fun h => by cases h) k1 k2 rfl hkC ⟨hn0, by show _ < (arrV _ _ _).slots.size; rw [arrV_size]; exact hlt⟩ g1 (fun q h => by rw [g3] at h; cases h) (by rw [g2]; exact hkC) (by rw [g2]; exact va_assign hcls) rfl rfl hdg fun H1 e1 z oq => kk H1 _ (fin H1 e1 z oq) (hS.put z oq (hM.2.2 _ (by rw [h2]; omega)).1)
/-- new objects and arrays -/
theorem s_new (hx : p.tables.exec = Jvm.exec) (hb : c.code = cc) {own C : String} {T : u_T} {N ci index : Nat} (hts : ∀ w ∈ BW, w.before args s = true) (hin : ∀ w ∈ u_ws C T N, w ∈ BW) (ty : Nat → FieldType) (hty : ∀ k, k < N → parseFieldDescriptor (T k).2.2.1 = some (ty k)) (hown : s.vm.findClass own = some m.cls) (hcl : (Cond.classLink own index C).before args s = true) (hinst : (Cond.instantiable C N).before args s = true) (hini : (Cond.initialized C).before args s = true) (hV : va_K D vwCl (tysG G) s) (hM : SM D G base h H) (hS : va_S (fun q => base ≤ q) H0 H locs) (hbs : base ≤ H0.size) (hc : vwCl[ci]? = some (C, T, N)) (hci : ci ≤ 6) (hNl : (tyTab.getD ci []).length = N) (hdf : ∀ j, j < N → defaultValue (ty j) = vv (rfT ci j) (if rfT ci j then -1 else 0)) (g : nwo h ci = some h') (hcells : cells + 1 ≤ R.cells) (hslots : slots + N ≤ R.slots) (hdg : decode cc pc = .ok (.new index, 3)) (kk : ∀ (H1 : Heap), SM D G base h' H1 → va_S (fun q => base ≤ q) H0 H1 locs → W p l e R s m args below meth c H1 locs (cells + 1) (slots + N) Q (F0 m (pc + 3) ls (vr (hN h : Int) :: rest))) : W p l e R s m args below meth c H locs cells slots Q (F0 m pc ls rest) := by
  have hKn := hV.1 ci _ hc
  refine W.newcK hx hb hown hcl hinst hini rfl hdg hcells hslots hKn.2.1 rfl fun H1 kC hkC e1 z1 o1 => ?_
  have hz : vr ((hN h : Nat) : Int) = .ref H.size := by rw [vr_pos (by omega), hM.1]; rfl
  have k2 := kk H1 ?_ ⟨Nat.le_trans hS.1 (by omega), fun x h1 h2 => (o1 x (Nat.lt_of_lt_of_le h1 hS.1)).trans (hS.2.1 x h1 h2), hS.2.2⟩
  · rw [hz] at k2; exact k2
  · unfold nwo at g
    cases g
    refine hM.new (Nat.le_trans hbs hS.1) z1 o1 (by omega) (fun k hi => ?_) ?_
    · rw [isI, if_pos (by omega), show ci + 1 - 1 = ci from rfl] at hi
      have : rfT ci k = false := by cases hq : rfT ci k <;> simp_all
      rw [this]; exact i_0
    · rw [hM.1] at e1
      have hk1 : hK (hnew h (ci + 1) 0 (fun k => if rfT ci k then -1 else 0)) (hN h) = ci + 1 := if_pos rfl
      unfold encE
      rw [if_pos (by omega), hk1]
      refine ⟨_, hc, (u_born ty hts hin hKn hkC e1 hty).to (fun j hj => ?_)⟩
      have e3 : hF (hnew h (ci + 1) 0 (fun k => if rfT ci k then -1 else 0)) (hN h) = fun k => if rfT ci k then -1 else 0 := by
        funext j; exact if_pos rfl
      rw [hdf j hj]
      show _ = List.getD _ _ _
      rw [List.getD_eq_getElem?_getD, e3, show ci + 1 - 1 = ci from rfl, fs_at (f := fun k => if rfT ci k then -1 else 0) (by rw [hNl]; exact hj) rfl]
      rfl
theorem s_newa (hx : p.tables.exec = Jvm.exec) (hb : c.code = cc) {atype : ArrayType} {kd bound : Nat} (hts : (Cond.arrayClass (newarray.typeOf atype)).before args s = true) (hV : va_K D vwCl (tysG G) s) (hkd : (kd = 8 ∧ newarray.typeOf atype = .int) ∨ (kd = 9 ∧ newarray.typeOf atype = .boolean) ∨ (kd = 10 ∧ newarray.typeOf atype = .long)) (hM : SM D G base h H) (hS : va_S (fun q => base ≤ q) H0 H locs) (hbs : base ≤ H0.size) {n : Int} (hn : inr n) (g : nwa h kd bound n = some h') (hbd : bound ≤ 67108864) (hcells : cells + 1 ≤ R.cells) (hslots : slots + bound ≤ R.slots) (hdg : decode cc pc = .ok (.newarray atype, 2)) (kk : ∀ (H1 : Heap), SM D G base h' H1 → va_S (fun q => base ≤ q) H0 H1 locs → W p l e R s m args below meth c H1 locs (cells + 1) (slots + bound) Q (F0 m (pc + 2) ls (vr (hN h : Int) :: rest))) : W p l e R s m args below meth c H locs cells slots Q (F0 m pc ls (vi n :: rest)) := by
  obtain ⟨h1, h2, h3⟩ := nwa_s g
  have hb8 : componentBytes (newarray.typeOf atype) ≤ 8 := by rcases hkd with ⟨-, q⟩ | ⟨-, q⟩ | ⟨-, q⟩ <;> rw [q] <;> decide
  have hNb : n.toNat ≤ bound := by omega
  refine va_newaK hx hb hts rfl hdg rfl (fun q => ?_) (ofI_cl hn) (Nat.le_trans (Nat.mul_le_mul (Nat.le_trans hNb hbd) hb8) (by decide)) hcells (by omega) rfl fun H1 cA e1 z1 o1 hAr hNm => ?_
  · have := (ofI_lt hn i_0).mp q; omega
  have hz : vr ((hN h : Nat) : Int) = .ref H.size := by rw [vr_pos (by omega), hM.1]; rfl
  refine W.widen (k := cells + 1) (n := slots + bound) (Nat.le_refl _) (by omega) ?_
  have k2 := kk H1 ?_ ⟨Nat.le_trans hS.1 (by omega), fun x h1 h2 => (o1 x (Nat.lt_of_lt_of_le h1 hS.1)).trans (hS.2.1 x h1 h2), hS.2.2⟩
  · rw [hz] at k2; exact k2
  · rw [h3]
    refine hM.new (Nat.le_trans hbs hS.1) z1 o1 (by omega) (fun k _ => by split <;> decide) ?_
    rw [hM.1] at e1
    have hk1 : hK (hnew h kd n.toNat (fun _ => if kd ≤ 10 then 0 else -1)) (hN h) = kd := if_pos rfl
    have hl1 : hL (hnew h kd n.toNat (fun _ => if kd ≤ 10 then 0 else -1)) (hN h) = n.toNat := if_pos rfl
    have e3 : ∀ j, hF (hnew h kd n.toNat (fun _ => if kd ≤ 10 then 0 else -1)) (hN h) j = 0 := fun j => by
      show (if hN h = hN h then (if kd ≤ 10 then 0 else -1) else _) = (0 : Int)
      rw [if_pos rfl, if_pos (by omega)]
    unfold encE
    rw [hk1, hl1]
    simp only [e3]
    rcases hkd with ⟨rfl, q⟩ | ⟨rfl, q⟩ | ⟨rfl, q⟩
    · rw [q] at e1 hNm
      have hcA : cA = G 8 := Option.some.inj (hNm.symm.trans (hV.2 0 _ rfl).2)
      rw [hcA] at e1; exact e1
    · rw [q] at e1 hNm
      have hcA : cA = G 9 := Option.some.inj (hNm.symm.trans (hV.2 1 _ rfl).2)
      rw [hcA] at e1; exact e1
    · rw [q] at e1 hNm
      have hcA : cA = G 10 := Option.some.inj (hNm.symm.trans (hV.2 2 _ rfl).2)
      rw [hcA] at e1; exact e1
theorem s_newq (hx : p.tables.exec = Jvm.exec) (hb : c.code = cc) {own C : String} {index kd bound : Nat} (hown : s.vm.findClass own = some m.cls) (hcl : (Cond.classLink own index C).before args s = true) (hover : va_AO C s) (hV : va_K D vwCl (tysG G) s) (h11 : 11 ≤ kd) (h14 : kd ≤ 14) (ht : (tysG G)[kd - 8]? = some (G kd, .object C)) (hM : SM D G base h H) (hS : va_S (fun q => base ≤ q) H0 H locs) (hbs : base ≤ H0.size) {n : Int} (hn : inr n) (g : nwa h kd bound n = some h') (hbd : bound ≤ 67108864) (hcells : cells + 1 ≤ R.cells) (hslots : slots + bound ≤ R.slots) (hdg : decode cc pc = .ok (.anewarray index, 3)) (kk : ∀ (H1 : Heap), SM D G base h' H1 → va_S (fun q => base ≤ q) H0 H1 locs → W p l e R s m args below meth c H1 locs (cells + 1) (slots + bound) Q (F0 m (pc + 3) ls (vr (hN h : Int) :: rest))) : W p l e R s m args below meth c H locs cells slots Q (F0 m pc ls (vi n :: rest)) := by
  obtain ⟨h1, h2, h3⟩ := nwa_s g
  have hNb : n.toNat ≤ bound := by omega
  have hcl2 := ofI_cl hn
  refine W.anew hx hb hown hcl (va_AO.use hover) rfl hdg rfl (fun q => ?_) (by rw [hcl2]; omega) hcells (by rw [hcl2]; omega) fun cA kA comp f1 f2 f3 f4 => ?_
  · have := (ofI_lt hn i_0).mp q; omega
  rw [hcl2]
  generalize hH1 : H.push ({ cls := cA, slots := Array.replicate n.toNat .null, vm := .none } : Cell) = H1
  have z1 : H1.size = H.size + 1 := by rw [← hH1, Array.size_push]
  have e1 : H1[H.size]? = some (arrV cA n.toNat (fun _ => .null)) := by rw [← hH1, Array.getElem?_push_size, ← arrV_new]
  have o1 : ∀ q : Nat, q < H.size → H1[q]? = H[q]? := fun q hq => by rw [← hH1, Array.getElem?_push, if_neg (Nat.ne_of_lt hq)]
  have hz : vr ((hN h : Nat) : Int) = .ref H.size := by rw [vr_pos (by omega), hM.1]; rfl
  refine W.widen (k := cells + 1) (n := slots + bound) (Nat.le_refl _) (by omega) ?_
  have k2 := kk H1 ?_ ⟨Nat.le_trans hS.1 (by omega), fun x h1 h2 => (o1 x (Nat.lt_of_lt_of_le h1 hS.1)).trans (hS.2.1 x h1 h2), hS.2.2⟩
  · rw [hz] at k2; exact k2
  · rw [h3]
    refine hM.new (Nat.le_trans hbs hS.1) z1 o1 h14 (fun k hi => ?_) ?_
    · rw [isI, if_neg (by omega)] at hi
      have := of_decide_eq_true hi
      omega
    rw [hM.1] at e1
    have hk1 : hK (hnew h kd n.toNat (fun _ => if kd ≤ 10 then 0 else -1)) (hN h) = kd := if_pos rfl
    have hl1 : hL (hnew h kd n.toNat (fun _ => if kd ≤ 10 then 0 else -1)) (hN h) = n.toNat := if_pos rfl
    have e3 : ∀ j, hF (hnew h kd n.toNat (fun _ => if kd ≤ 10 then 0 else -1)) (hN h) j = -1 := fun j => by
      show (if hN h = hN h then (if kd ≤ 10 then 0 else -1) else _) = (-1 : Int)
      rw [if_pos rfl, if_neg (by omega)]
    unfold encE
    rw [hk1, hl1]
    simp only [e3]
    rw [if_neg (by omega), if_neg (by omega), if_neg (by omega)]
    obtain ⟨kA', comp', -, -, -, hf⟩ := (hV.2 (kd - 8) _ ht).2
    have hcA : cA = G kd := Option.some.inj (f1.symm.trans hf)
    rw [hcA] at e1; exact e1
end
end
section
/-- what the tables and the statics say, that the words of BW don't: carried by every contract -/
def STR : List (Nat × String) := [(30, "no such size"), (35, "no such align"), (37, "no such order of a slab"), (43, "a slab would have no object"), (225, "no such cache"), (61, "an object of it is live"), (227, "no such processor"), (107, "no live object begins there"), (116, "its mark is not the tag"), (184, "no such fact of a cache"), (186, "no such list"), (194, "no slab lies there"), (205, "no such fact of a slab"), (215, "no such fact of a magazine"), (217, "no such order")]
abbrev exE : String := "java/util/NoSuchElementException"
abbrev exA : String := "java/lang/IllegalArgumentException"
abbrev exS : String := "java/lang/IllegalStateException"
abbrev inS (c : String) : MethodName := ⟨c, "<init>", "(Ljava/lang/String;)V"⟩
def XV (l : Launch) (base : Nat) (U : State) : Prop :=
  l.stackTraces = false ∧ (va_Nw (.declares (inS "java/lang/RuntimeException")) U ∧ va_Nw (.declares (inS "java/lang/Exception")) U ∧ va_Nw (.declares (inS "java/lang/Throwable")) U) ∧ (va_Nw (.castable exE exE) U ∧ va_Nw (.castable exA exA) U ∧ va_Nw (.castable exS exS) U) ∧ (va_Nc exA exE U ∧ va_Nc exS exE U ∧ va_Nc exS exA U) ∧ (vx_Zq Bundle.tN "UNASSIGNED_STACK" Bundle.steD (fun q => base ≤ q) U U.heap ∧ vx_Zq Bundle.tN "SUPPRESSED_SENTINEL" Bundle.listD (fun q => base ≤ q) U U.heap) ∧ ∀ q ∈ STR, ∃ sa, vk_R RX5 q.1 q.2 sa U
def EV (l : Launch) (D : va_G) (G : Nat → ClassId) (base : Nat) (U : State) : Prop :=
  va_K D vwCl (tysG G) U ∧ base ≤ U.heap.size ∧ (va_Nw (.methodLinkNest RX1 45 yX5_roundedUp RX5) U ∧ va_Nw (.methodLinkNest RX1 58 yX4_init RX5) U ∧ va_Nw (.methodLinkNest RX1 59 yX2_init RX5) U) ∧ (va_AO RX3 U ∧ va_AO RX1 U ∧ va_AO RX4 U ∧ va_AO RX2 U) ∧ XV l base U
theorem XV.go {l : Launch} {base : Nat} {s U : State} (hk : ∀ q : Nat, q < s.heap.size → ¬ base ≤ q → U.heap[q]? = s.heap[q]?) (hW : s.WarmedH U.vm) (h : XV l base s) : XV l base U := by
  obtain ⟨h1, ⟨a1, a2, a3⟩, ⟨b1, b2, b3⟩, ⟨c1, c2, c3⟩, ⟨d1, d2⟩, hs⟩ := h
  exact ⟨h1, ⟨va_Nw.warmD hW a1, va_Nw.warmD hW a2, va_Nw.warmD hW a3⟩, ⟨va_Nw.warmC hW b1, va_Nw.warmC hW b2, va_Nw.warmC hW b3⟩, ⟨va_Nc.moved hW.alike c1, va_Nc.moved hW.alike c2, va_Nc.moved hW.alike c3⟩, ⟨(vx_Zq.moved hW.alike d1).kept hk, (vx_Zq.moved hW.alike d2).kept hk⟩, fun q hq => (hs q hq).imp (fun sa h => vk_R.warm hW h)⟩
theorem XV.blind {l : Launch} {base : Nat} {s U : State} (hh : U.heap = s.heap) (hv : U.vm = s.vm) (h : XV l base s) : XV l base U := by
  obtain ⟨h1, ⟨a1, a2, a3⟩, ⟨b1, b2, b3⟩, ⟨c1, c2, c3⟩, ⟨d1, d2⟩, hs⟩ := h
  have ha : s.vm.Alike U.vm := by rw [hv]; exact Vm.Alike.refl _
  exact ⟨h1, ⟨va_Nw.same rfl hv.symm a1, va_Nw.same rfl hv.symm a2, va_Nw.same rfl hv.symm a3⟩, ⟨va_Nw.same rfl hv.symm b1, va_Nw.same rfl hv.symm b2, va_Nw.same rfl hv.symm b3⟩, ⟨va_Nc.moved ha c1, va_Nc.moved ha c2, va_Nc.moved ha c3⟩, ⟨by rw [hh]; exact vx_Zq.moved ha d1, by rw [hh]; exact vx_Zq.moved ha d2⟩, fun q hq => (hs q hq).imp (fun sa h => vk_R.same hv h)⟩
theorem EV.go {l : Launch} {D : va_G} {G : Nat → ClassId} {base : Nat} {s U : State} {H : Heap} {locs : List Loc} (hE : EV l D G base s) (hS : va_S (fun q => base ≤ q) s.heap H locs) (hU : U.heap = H) (hW : s.WarmedH U.vm) : EV l D G base U := by
  obtain ⟨h1, h2, ⟨h3, h4, h5⟩, ⟨h6, h7, h8, h9⟩, hx⟩ := hE
  exact ⟨va_K.moved hW.alike h1, by rw [hU]; exact Nat.le_trans h2 hS.1, ⟨va_Nw.warmM hW h3, va_Nw.warmM hW h4, va_Nw.warmM hW h5⟩, ⟨va_AO.moved hW.alike h6, va_AO.moved hW.alike h7, va_AO.moved hW.alike h8, va_AO.moved hW.alike h9⟩, hx.go (fun q a b => by rw [hU]; exact hS.2.1 q a b) hW⟩
theorem EV.blind {l : Launch} {D : va_G} {G : Nat → ClassId} {base : Nat} {U : State} (hE : EV l D G base U) (g : JFrame) (mk : MethodId) (a : Array Value) : EV l D G base (U.calling g mk a) := by
  obtain ⟨h1, h2, ⟨h3, h4, h5⟩, ⟨h6, h7, h8, h9⟩, hx⟩ := hE
  exact ⟨va_K.moved (u := U) (U := U.calling g mk a) (Vm.Alike.refl U.vm) h1, h2, ⟨va_Nw.same (u := U) rfl rfl h3, va_Nw.same (u := U) rfl rfl h4, va_Nw.same (u := U) rfl rfl h5⟩, ⟨va_AO.moved (u := U) (Vm.Alike.refl U.vm) h6, va_AO.moved (u := U) (Vm.Alike.refl U.vm) h7, va_AO.moved (u := U) (Vm.Alike.refl U.vm) h8, va_AO.moved (u := U) (Vm.Alike.refl U.vm) h9⟩, hx.blind rfl rfl⟩
abbrev Ab (base : Nat) : Nat → Prop := fun q => base ≤ q
def PC (l : Launch) (D : va_G) (G : Nat → ClassId) (base : Nat) (h : Hp) (av : List Value) : Array Value → State → Prop := va_Pc av (fun U => EV l D G base U ∧ SM D G base h U.heap)
def QR (D : va_G) (G : Nat → ClassId) (base : Nat) (ro : Option Value) (P : Prop) (h' : Hp) : Array Value → State → Outcome → State → Prop := fun _ st oc t => oc = .returned ro ∧ P ∧ SM D G base h' t.heap ∧ va_F (Ab base) st t
theorem PC.blind {l : Launch} {D : va_G} {G : Nat → ClassId} {base : Nat} {h : Hp} {av : List Value} : FrameBlind (PC l D G base h av) := fun a U g mk q => ⟨q.1, q.2.1.blind g mk a, q.2.2⟩
section
variable {p : Program} {l : Launch} {e : Env} {R : Room} {s : State} {m : MethodId} {args : Array Value} {below : List Frame} {meth : Method} {c : Code} {H : Heap} {locs : List Loc} {cells slots : Nat} {Q : State → Prop}
variable {cc : ByteArray} {pc nL : Nat} {ls : Array Slot} {rest : List Value} {D : va_G} {G : Nat → ClassId} {base : Nat} {h h' : Hp} {H0 : Heap}
theorem preS_of {av : List Value} (hE : EV l D G base s) (hM : SM D G base h H) (hS : va_S (Ab base) s.heap H locs) : PreS s H (PC l D G base h av) av :=
  ⟨PC.blind, fun U hU hW => ⟨rfl, hE.go hS hU hW, by rw [hU]; exact hM⟩⟩
theorem s_run {st0 : List Value} {a : Array Value} {mc ms : Nat} {ro : Option Value} {P : Prop} (hr : va_Run p l e R s m args below meth c H locs cells slots mc ms (F0 m pc ls st0) rest (QR D G base ro P h' a) (Ab base)) (hS : va_S (Ab base) H0 H locs) (kk : ∀ (H1 : Heap) (locs1 : List Loc), P → SM D G base h' H1 → va_S (Ab base) H0 H1 locs1 → W p l e R s m args below meth c H1 locs1 (cells + mc) (slots + ms) Q (F0 m (pc + 3) ls (ro.toList ++ rest))) : W p l e R s m args below meth c H locs cells slots Q (F0 m pc ls st0) := by
  intro T hT X
  obtain ⟨v, st₀, t, T', L, h0, X', hL, e1, e2, ⟨hv, hP, hM, hF⟩, st⟩ := hr T hT X
  cases hv
  obtain ⟨k1, k2, k3⟩ := vx_keep (A0 := Ab base) (A1 := Ab base) (free := Ab base) h0 e1 hS (fun _ _ z => z) (fun _ z => z) hL hF
  obtain ⟨t2, a1, b1⟩ := kk T'.heap (locs ++ L) hP (by rw [e1]; exact hM) k3 T' rfl X'
  exact ⟨t2, st t2 a1, b1⟩
theorem bw_warm (hts : ∀ w ∈ BW, w.before args s = true) : ∀ w ∈ BW, ∀ (a' : Array Value) (U : State), s.WarmedH U.vm → w.before a' U = true := fun w hw a' U hW => word_at hW (good_of_word (bw_good hw)) (hts w hw)
theorem cb_of {own : String} {index : Nat} {y : MethodName} {bytes : ByteArray} {maxL n : Nat} {ret : Option FieldType} {rm : Room} (hts : ∀ w ∈ BW, w.before args s = true) (hcode : Cond.code y bytes maxL ret ∈ BW) (hl : Cond.methodLink own index y ∈ BW) (hini : Cond.initialized y.cls ∈ BW) (hd : y.cls ≠ "java/lang/invoke/MethodHandle" ∧ y.cls ≠ "java/lang/invoke/VarHandle" ∧ (parseMethodDescriptor y.desc).map (fun d => d.parameters.length) = some n) (hR : rm.frames + 1 ≤ R.frames ∧ 8 + (maxL + 11) + rm.locals ≤ R.locals) : CallB R s args own index y bytes maxL ret (Cond.code y bytes maxL ret :: BW) rm rm.cells rm.slots n := by
  refine ⟨rfl, rfl, hR.1, hR.2, fun w hw a' U hW => ?_, List.mem_cons_self, hts _ hcode, hts _ hini, ⟨hd.1, hd.2.1⟩, fun sig h9 => ?_, hts _ hl⟩
  · rcases List.mem_cons.mp hw with rfl | hw
    · exact bw_warm hts _ hcode a' U hW
    · exact bw_warm hts _ hw a' U hW
  · have h8 := hd.2.2
    rw [h9] at h8
    exact (Option.some.inj h8).symm
theorem cn_of {own host : String} {index : Nat} {y : MethodName} {bytes : ByteArray} {maxL n : Nat} {ret : Option FieldType} {rm : Room} (hts : ∀ w ∈ BW, w.before args s = true) (hcode : Cond.code y bytes maxL ret ∈ BW) (hl : va_Nw (.methodLinkNest own index y host) s) (hini : Cond.initialized y.cls ∈ BW) (hd : y.cls ≠ "java/lang/invoke/MethodHandle" ∧ y.cls ≠ "java/lang/invoke/VarHandle" ∧ (parseMethodDescriptor y.desc).map (fun d => d.parameters.length) = some n) (hR : rm.frames + 1 ≤ R.frames ∧ 8 + (maxL + 11) + rm.locals ≤ R.locals) : va_CN R s args own index y host bytes maxL ret (Cond.code y bytes maxL ret :: BW) rm rm.cells rm.slots n := by
  refine ⟨⟨rfl, rfl, hR.1, hR.2, fun w hw a' U hW => ?_, List.mem_cons_self⟩, hts _ hcode, hts _ hini, ⟨hd.1, hd.2.1⟩, fun sig h9 => ?_, va_Nw.use rfl hl⟩
  · rcases List.mem_cons.mp hw with rfl | hw
    · exact bw_warm hts _ hcode a' U hW
    · exact bw_warm hts _ hw a' U hW
  · have h8 := hd.2.2
    rw [h9] at h8
    exact (Option.some.inj h8).symm
theorem s_callV {own C : String} {index ci : Nat} {y : MethodName} {bytes : ByteArray} {maxL n : Nat} {ret : Option FieldType} {rm : Room} {ro : Option Value} {P : Prop} {a : Int} {u : Unit} (As : List Value) {st0 : List Value} {q : vw_C} (hx : p.tables.exec = Jvm.exec) (hb : c.code = cc) (hml : c.maxLocals = nL) (hown : s.vm.findClass own = some m.cls) (hts : ∀ w ∈ BW, w.before args s = true) (hE : EV l D G base s) (hM : SM D G base h H) (hS : va_S (Ab base) s.heap H locs)
    (hMet : Met l y (Cond.code y bytes maxL ret :: BW) rm (PC l D G base h (vr a :: As)) (QR D G base ro P h') rm.cells rm.slots (Ab base))
    (hcode : Cond.code y bytes maxL ret ∈ BW) (hl : Cond.methodLink own index y ∈ BW) (hini : Cond.initialized y.cls ∈ BW) (hin : Cond.instanceMethod y ∈ BW) (hsel : Cond.selects C y y ∈ BW) (hd : y.cls ≠ "java/lang/invoke/MethodHandle" ∧ y.cls ≠ "java/lang/invoke/VarHandle" ∧ (parseMethodDescriptor y.desc).map (fun d => d.parameters.length) = some n) (hR : rm.frames + 1 ≤ R.frames ∧ 8 + (maxL + 11) + rm.locals ≤ R.locals)
    (hc : vwCl[ci]? = some q) (hq : q.1 = C) (hci : ci ≤ 6) (g : ckd h ci a = some u) (hn : As.length = n) (hlz : ls.size = nL) (hst : st0 = As.reverse ++ vr a :: rest) (hW : (rest.map fun v => v.category).sum ≤ 8) (hdg : decode cc pc = .ok (.invokevirtual index, 3)) (hf : cells + rm.cells ≤ R.cells ∧ slots + rm.slots ≤ R.slots)
    (kk : ∀ (H1 : Heap) (locs1 : List Loc), P → SM D G base h' H1 → va_S (Ab base) s.heap H1 locs1 → W p l e R s m args below meth c H1 locs1 (cells + rm.cells) (slots + rm.slots) Q (F0 m (pc + 3) ls (ro.toList ++ rest))) : W p l e R s m args below meth c H locs cells slots Q (F0 m pc ls st0) := by
  obtain ⟨g1, g2⟩ := ckd_s g
  subst hq
  rw [vr_pos g1] at hMet hst
  refine s_run (va_runV (As := As) (rest := rest) ⟨hx, hb, hml, hown, hts⟩ hMet ⟨cb_of hts hcode hl hini hd hR, hts _ hin, hts _ hsel⟩ ⟨PC.blind, va_recv hE.1 (hM.obj g2 hci) hc (ix_1 _), fun U hU hW => ⟨rfl, hE.go hS hU hW, by rw [hU]; exact hM⟩⟩ rfl hn hlz hst (lv_room hW) hdg hf) hS kk
theorem s_callS {own : String} {index : Nat} {y : MethodName} {bytes : ByteArray} {maxL n : Nat} {ret : Option FieldType} {rm : Room} {ro : Option Value} {P : Prop} (As : List Value) {st0 : List Value} (hx : p.tables.exec = Jvm.exec) (hb : c.code = cc) (hml : c.maxLocals = nL) (hown : s.vm.findClass own = some m.cls) (hts : ∀ w ∈ BW, w.before args s = true) (hE : EV l D G base s) (hM : SM D G base h H) (hS : va_S (Ab base) s.heap H locs)
    (hMet : Met l y (Cond.code y bytes maxL ret :: BW) rm (PC l D G base h As) (QR D G base ro P h') rm.cells rm.slots (Ab base))
    (hcode : Cond.code y bytes maxL ret ∈ BW) (hl : Cond.methodLink own index y ∈ BW) (hini : Cond.initialized y.cls ∈ BW) (hsta : Cond.static y ∈ BW) (hd : y.cls ≠ "java/lang/invoke/MethodHandle" ∧ y.cls ≠ "java/lang/invoke/VarHandle" ∧ (parseMethodDescriptor y.desc).map (fun d => d.parameters.length) = some n) (hR : rm.frames + 1 ≤ R.frames ∧ 8 + (maxL + 11) + rm.locals ≤ R.locals)
    (hn : As.length = n) (hlz : ls.size = nL) (hst : st0 = As.reverse ++ rest) (hW : (rest.map fun v => v.category).sum ≤ 8) (hdg : decode cc pc = .ok (.invokestatic index, 3)) (hf : cells + rm.cells ≤ R.cells ∧ slots + rm.slots ≤ R.slots)
    (kk : ∀ (H1 : Heap) (locs1 : List Loc), P → SM D G base h' H1 → va_S (Ab base) s.heap H1 locs1 → W p l e R s m args below meth c H1 locs1 (cells + rm.cells) (slots + rm.slots) Q (F0 m (pc + 3) ls (ro.toList ++ rest))) : W p l e R s m args below meth c H locs cells slots Q (F0 m pc ls st0) :=
  s_run (va_runS (As := As) (rest := rest) ⟨hx, hb, hml, hown, hts⟩ hMet ⟨cb_of hts hcode hl hini hd hR, hts _ hsta⟩ (preS_of hE hM hS) rfl hn hlz hst (lv_room hW) hdg hf) hS kk
theorem s_callSN {own host : String} {index : Nat} {y : MethodName} {bytes : ByteArray} {maxL n : Nat} {ret : Option FieldType} {rm : Room} {ro : Option Value} {P : Prop} (As : List Value) {st0 : List Value} (hx : p.tables.exec = Jvm.exec) (hb : c.code = cc) (hml : c.maxLocals = nL) (hown : s.vm.findClass own = some m.cls) (hts : ∀ w ∈ BW, w.before args s = true) (hE : EV l D G base s) (hM : SM D G base h H) (hS : va_S (Ab base) s.heap H locs)
    (hMet : Met l y (Cond.code y bytes maxL ret :: BW) rm (PC l D G base h As) (QR D G base ro P h') rm.cells rm.slots (Ab base))
    (hcode : Cond.code y bytes maxL ret ∈ BW) (hl : va_Nw (.methodLinkNest own index y host) s) (hini : Cond.initialized y.cls ∈ BW) (hsta : Cond.static y ∈ BW) (hd : y.cls ≠ "java/lang/invoke/MethodHandle" ∧ y.cls ≠ "java/lang/invoke/VarHandle" ∧ (parseMethodDescriptor y.desc).map (fun d => d.parameters.length) = some n) (hR : rm.frames + 1 ≤ R.frames ∧ 8 + (maxL + 11) + rm.locals ≤ R.locals)
    (hn : As.length = n) (hlz : ls.size = nL) (hst : st0 = As.reverse ++ rest) (hW : (rest.map fun v => v.category).sum ≤ 8) (hdg : decode cc pc = .ok (.invokestatic index, 3)) (hf : cells + rm.cells ≤ R.cells ∧ slots + rm.slots ≤ R.slots)
    (kk : ∀ (H1 : Heap) (locs1 : List Loc), P → SM D G base h' H1 → va_S (Ab base) s.heap H1 locs1 → W p l e R s m args below meth c H1 locs1 (cells + rm.cells) (slots + rm.slots) Q (F0 m (pc + 3) ls (ro.toList ++ rest))) : W p l e R s m args below meth c H locs cells slots Q (F0 m pc ls st0) :=
  s_run (va_runSN (As := As) (rest := rest) ⟨hx, hb, hml, hown, hts⟩ hMet ⟨cn_of hts hcode hl hini hd hR, hts _ hsta, trivial⟩ (preS_of hE hM hS) rfl hn hlz hst (lv_room hW) hdg hf) hS kk
theorem s_callI {own : String} {index ci : Nat} {y : MethodName} {bytes : ByteArray} {maxL n : Nat} {rm : Room} {ro : Option Value} {P : Prop} {a : Int} {u : Unit} (As : List Value) {st0 : List Value} (hx : p.tables.exec = Jvm.exec) (hb : c.code = cc) (hml : c.maxLocals = nL) (hown : s.vm.findClass own = some m.cls) (hts : ∀ w ∈ BW, w.before args s = true) (hE : EV l D G base s) (hM : SM D G base h H) (hS : va_S (Ab base) s.heap H locs)
    (hMet : Met l y (Cond.code y bytes maxL none :: BW) rm (PC l D G base h (vr a :: As)) (QR D G base ro P h') rm.cells rm.slots (Ab base))
    (hcode : Cond.code y bytes maxL none ∈ BW) (hl : Cond.methodLink own index y ∈ BW) (hini : Cond.initialized y.cls ∈ BW) (hin : Cond.instanceMethod y ∈ BW) (hy : y.name = "<init>") (hd : y.cls ≠ "java/lang/invoke/MethodHandle" ∧ y.cls ≠ "java/lang/invoke/VarHandle" ∧ (parseMethodDescriptor y.desc).map (fun d => d.parameters.length) = some n) (hR : rm.frames + 1 ≤ R.frames ∧ 8 + (maxL + 11) + rm.locals ≤ R.locals)
    (g : ckd h ci a = some u) (hn : As.length = n) (hlz : ls.size = nL) (hst : st0 = As.reverse ++ vr a :: rest) (hW : (rest.map fun v => v.category).sum ≤ 8) (hdg : decode cc pc = .ok (.invokespecial index, 3)) (hf : cells + rm.cells ≤ R.cells ∧ slots + rm.slots ≤ R.slots)
    (kk : ∀ (H1 : Heap) (locs1 : List Loc), P → SM D G base h' H1 → va_S (Ab base) s.heap H1 locs1 → W p l e R s m args below meth c H1 locs1 (cells + rm.cells) (slots + rm.slots) Q (F0 m (pc + 3) ls (ro.toList ++ rest))) : W p l e R s m args below meth c H locs cells slots Q (F0 m pc ls st0) := by
  obtain ⟨g1, g2⟩ := ckd_s g
  rw [vr_pos g1] at hMet hst
  exact s_run (va_runI (As := As) (rest := rest) ⟨hx, hb, hml, hown, hts⟩ hMet ⟨cb_of hts hcode hl hini hd hR, hy, hts _ hin⟩ (preS_of hE hM hS) rfl hn hlz hst (lv_room hW) hdg hf) hS kk
theorem s_callIN {own host : String} {index ci : Nat} {y : MethodName} {bytes : ByteArray} {maxL n : Nat} {rm : Room} {ro : Option Value} {P : Prop} {a : Int} {u : Unit} (As : List Value) {st0 : List Value} (hx : p.tables.exec = Jvm.exec) (hb : c.code = cc) (hml : c.maxLocals = nL) (hown : s.vm.findClass own = some m.cls) (hts : ∀ w ∈ BW, w.before args s = true) (hE : EV l D G base s) (hM : SM D G base h H) (hS : va_S (Ab base) s.heap H locs)
    (hMet : Met l y (Cond.code y bytes maxL none :: BW) rm (PC l D G base h (vr a :: As)) (QR D G base ro P h') rm.cells rm.slots (Ab base))
    (hcode : Cond.code y bytes maxL none ∈ BW) (hl : va_Nw (.methodLinkNest own index y host) s) (hini : Cond.initialized y.cls ∈ BW) (hin : Cond.instanceMethod y ∈ BW) (hy : y.name = "<init>") (hd : y.cls ≠ "java/lang/invoke/MethodHandle" ∧ y.cls ≠ "java/lang/invoke/VarHandle" ∧ (parseMethodDescriptor y.desc).map (fun d => d.parameters.length) = some n) (hR : rm.frames + 1 ≤ R.frames ∧ 8 + (maxL + 11) + rm.locals ≤ R.locals)
    (g : ckd h ci a = some u) (hn : As.length = n) (hlz : ls.size = nL) (hst : st0 = As.reverse ++ vr a :: rest) (hW : (rest.map fun v => v.category).sum ≤ 8) (hdg : decode cc pc = .ok (.invokespecial index, 3)) (hf : cells + rm.cells ≤ R.cells ∧ slots + rm.slots ≤ R.slots)
    (kk : ∀ (H1 : Heap) (locs1 : List Loc), P → SM D G base h' H1 → va_S (Ab base) s.heap H1 locs1 → W p l e R s m args below meth c H1 locs1 (cells + rm.cells) (slots + rm.slots) Q (F0 m (pc + 3) ls (ro.toList ++ rest))) : W p l e R s m args below meth c H locs cells slots Q (F0 m pc ls st0) := by
  obtain ⟨g1, g2⟩ := ckd_s g
  rw [vr_pos g1] at hMet hst
  exact s_run (va_runIN (As := As) (rest := rest) ⟨hx, hb, hml, hown, hts⟩ hMet ⟨cn_of hts hcode hl hini hd hR, hy, hts _ hin⟩ (preS_of hE hM hS) rfl hn hlz hst (lv_room hW) hdg hf) hS kk
theorem s_objInit {own : String} {idx ci : Nat} {a : Int} {u : Unit} (hx : p.tables.exec = Jvm.exec) (hb : c.code = cc) (hml : c.maxLocals = nL) (hown : s.vm.findClass own = some m.cls) (hts : ∀ w ∈ BW, w.before args s = true) (hl : Cond.methodLink own idx objectInit ∈ BW) (hin : Cond.instanceMethod objectInit ∈ BW) (hcode : Cond.code objectInit ⟨#[0xb1]⟩ 1 none ∈ BW) (g : ckd h ci a = some u) (hlz : ls.size = nL) (hdg : decode cc pc = .ok (.invokespecial idx, 3)) (hfr : 1 ≤ R.frames) (hlo : (rest.map fun v => v.category).sum + 12 ≤ R.locals) (kk : W p l e R s m args below meth c H locs cells slots Q (F0 m (pc + 3) ls rest)) : W p l e R s m args below meth c H locs cells slots Q (F0 m pc ls (vr a :: rest)) := by
  rw [vr_pos (ckd_s g).1]
  refine W.objInit hx hb hown (hts _ hl) (hts _ hin) (hts _ hcode) rfl (by rw [hml]; exact hlz) rfl hdg hfr ?_ ?_
  · have h0 : (F0 m pc ls (Value.ref a.toNat :: rest)).monitorRoom = 0 := by first | rfl | simp [JFrame.monitorRoom]
    rw [h0]; omega
  · exact W.eq (g2 := F0 m (pc + 3) ls rest) rfl kk
def imn (x y : Int) : Int := if y < x then y else x
def imx (x y : Int) : Int := if x < y then y else x
theorem inr_mn {x y : Int} (hx : inr x) (hy : inr y) : inr (imn x y) := by unfold imn; split <;> assumption
theorem inr_mx {x y : Int} (hx : inr x) (hy : inr y) : inr (imx x y) := by unfold imx; split <;> assumption
theorem s_min {own : String} {index : Nat} {x y : Int} (hx : p.tables.exec = Jvm.exec) (hb : c.code = cc) (hml : c.maxLocals = nL) (hlz : ls.size = nL) (hown : s.vm.findClass own = some m.cls) (hts : ∀ w ∈ BW, w.before args s = true) (hl : Cond.methodLink own index Lib.Math.min.name ∈ BW) (hst : Cond.static Lib.Math.min.name ∈ BW) (hini : Cond.initialized "java/lang/Math" ∈ BW) (hcode : Cond.code Lib.Math.min.name Lib.Math.min.code 2 (some .int) ∈ BW) (hfr : 1 ≤ R.frames) (hlo : (rest.map fun v => v.category).sum + 13 ≤ R.locals) (hc : cells ≤ R.cells) (hs : slots ≤ R.slots) (ix : inr x) (iy : inr y) (hdg : decode cc pc = .ok (.invokestatic index, 3)) (kk : W p l e R s m args below meth c H locs cells slots Q (F0 m (pc + 3) ls (vi (imn x y) :: rest))) : W p l e R s m args below meth c H locs cells slots Q (F0 m pc ls (vi y :: vi x :: rest)) := by
  refine va_mmin hx hb (by rw [hml]; exact hlz.symm) hown (hts _ hl) (hts _ hst) (hts _ hini) (hts _ hcode) hfr hlo hc hs hdg ?_
  have e1 : (if Int32.ofInt y < Int32.ofInt x then Int32.ofInt y else Int32.ofInt x) = Int32.ofInt (imn x y) := by
    unfold imn
    by_cases h1 : y < x
    · rw [if_pos h1, if_pos ((ofI_lt iy ix).mpr h1)]
    · rw [if_neg h1, if_neg (fun q => h1 ((ofI_lt iy ix).mp q))]
  rw [e1]; exact kk
theorem s_max {own : String} {index : Nat} {x y : Int} (hx : p.tables.exec = Jvm.exec) (hb : c.code = cc) (hml : c.maxLocals = nL) (hlz : ls.size = nL) (hown : s.vm.findClass own = some m.cls) (hts : ∀ w ∈ BW, w.before args s = true) (hl : Cond.methodLink own index Lib.Math.max.name ∈ BW) (hst : Cond.static Lib.Math.max.name ∈ BW) (hini : Cond.initialized "java/lang/Math" ∈ BW) (hcode : Cond.code Lib.Math.max.name Lib.Math.max.code 2 (some .int) ∈ BW) (hfr : 1 ≤ R.frames) (hlo : (rest.map fun v => v.category).sum + 13 ≤ R.locals) (hc : cells ≤ R.cells) (hs : slots ≤ R.slots) (ix : inr x) (iy : inr y) (hdg : decode cc pc = .ok (.invokestatic index, 3)) (kk : W p l e R s m args below meth c H locs cells slots Q (F0 m (pc + 3) ls (vi (imx x y) :: rest))) : W p l e R s m args below meth c H locs cells slots Q (F0 m pc ls (vi y :: vi x :: rest)) := by
  refine va_mmax hx hb (by rw [hml]; exact hlz.symm) hown (hts _ hl) (hts _ hst) (hts _ hini) (hts _ hcode) hfr hlo hc hs hdg ?_
  have e1 : (if Int32.ofInt x < Int32.ofInt y then Int32.ofInt y else Int32.ofInt x) = Int32.ofInt (imx x y) := by
    unfold imx
    by_cases h1 : x < y
    · rw [if_pos h1, if_pos ((ofI_lt ix iy).mpr h1)]
    · rw [if_neg h1, if_neg (fun q => h1 ((ofI_lt ix iy).mp q))]
  rw [e1]; exact kk
/-! ends -/
theorem s_iret {mc ms : Nat} {v rv : Int} (hx : p.tables.exec = Jvm.exec) (hb : c.code = cc) (hr : meth.sig.returnType = some .int) (hlocks : meth.locks = false) (hM : SM D G base h H) (hS : va_S (Ab base) s.heap H locs) (hv : inr v) (hrun : some (v, h) = some (rv, h')) (hc : cells ≤ mc) (hs : slots ≤ ms) (hdg : decode cc pc = .ok (.ireturn, 1)) : W p l e R s m args below meth c H locs cells slots (MQ below (QR D G base (some (vi rv)) (inr rv) h') args s mc ms (Ab base)) (F0 m pc ls [vi v]) := by
  cases hrun
  exact W.widen hc hs (W.iret hx hb hr (fun t ht hW => ⟨rfl, hv, by rw [ht]; exact hM, hS.F ht⟩) hS.2.2 hdg hlocks)
def rtB (v : Int) (h : Hp) : Option (Int × Hp) := if v = 0 ∨ v = 1 then some (v, h) else none
theorem s_zret {mc ms : Nat} {v rv : Int} (hx : p.tables.exec = Jvm.exec) (hb : c.code = cc) (hr : meth.sig.returnType = some .boolean) (hlocks : meth.locks = false) (hM : SM D G base h H) (hS : va_S (Ab base) s.heap H locs) (hv : inr v) (hrun : rtB v h = some (rv, h')) (hc : cells ≤ mc) (hs : slots ≤ ms) (hdg : decode cc pc = .ok (.ireturn, 1)) : W p l e R s m args below meth c H locs cells slots (MQ below (QR D G base (some (vi rv)) (inr rv) h') args s mc ms (Ab base)) (F0 m pc ls [vi v]) := by
  unfold rtB at hrun
  split at hrun
  · rename_i h0
    cases hrun
    refine W.widen hc hs (W.zret hx hb hr ?_ (fun t ht hW => ⟨rfl, hv, by rw [ht]; exact hM, hS.F ht⟩) hS.2.2 hdg hlocks)
    rcases h0 with rfl | rfl <;> decide
  · cases hrun
theorem s_vret {mc ms : Nat} {rv : Int} (hx : p.tables.exec = Jvm.exec) (hb : c.code = cc) (hr : meth.sig.returnType = none) (hlocks : meth.locks = false) (hM : SM D G base h H) (hS : va_S (Ab base) s.heap H locs) (hrun : some ((0 : Int), h) = some (rv, h')) (hc : cells ≤ mc) (hs : slots ≤ ms) (hdg : decode cc pc = .ok (.return_, 1)) : W p l e R s m args below meth c H locs cells slots (MQ below (QR D G base none True h') args s mc ms (Ab base)) (F0 m pc ls []) := by
  cases hrun
  exact W.widen hc hs (W.vret hx hb hr (fun t ht hW => ⟨rfl, trivial, by rw [ht]; exact hM, hS.F ht⟩) hS.2.2 hdg hlocks)
theorem s_aret {mc ms : Nat} {v rv : Int} {rt : FieldType} (hx : p.tables.exec = Jvm.exec) (hb : c.code = cc) (hr : meth.sig.returnType = some rt) (hrt : (∃ n, rt = .object n) ∨ ∃ t, rt = .array t) (hlocks : meth.locks = false) (hM : SM D G base h H) (hS : va_S (Ab base) s.heap H locs) (hrun : some (v, h) = some (rv, h')) (hc : cells ≤ mc) (hs : slots ≤ ms) (hdg : decode cc pc = .ok (.areturn, 1)) : W p l e R s m args below meth c H locs cells slots (MQ below (QR D G base (some (vr rv)) True h') args s mc ms (Ab base)) (F0 m pc ls [vr v]) := by
  cases hrun
  refine W.widen hc hs (W.aret hx hb hr hrt ?_ (fun t ht hW => ⟨rfl, trivial, by rw [ht]; exact hM, hS.F ht⟩) hS.2.2 hdg hlocks)
  by_cases h0 : v < 0
  · exact Or.inl (vr_neg h0)
  · exact Or.inr ⟨_, vr_pos (by omega)⟩
end
end
section
/-! locals, all of one word; entry; small rows -/
def lvh (ls : Array Slot) (nL : Nat) (l : List (Nat × Value)) : Prop := lv_has ls nL l ∧ ∀ q ∈ l, q.2.category = 1
theorem la {ls : Array Slot} {nL : Nat} {l : List (Nat × Value)} (h : lvh ls nL l) (k : Nat) {i : Nat} {v : Value} (hk : l[k]? = some (i, v)) : ls[i]? = some (.val v) := lv_at h.1 k hk
theorem lsub {ls : Array Slot} {nL : Nat} {l l' : List (Nat × Value)} (h : lvh ls nL l) (ks : List Nat) (hl : lv_pick l ks = l') : lvh ls nL l' := by
  refine ⟨lv_sub h.1 ks hl, fun q hq => ?_⟩
  rw [← hl] at hq
  obtain ⟨i, -, hi⟩ := List.mem_filterMap.mp hq
  exact h.2 q (List.mem_of_getElem? hi)
def ixl : Nat → List Value → List (Nat × Value)
  | _, [] => []
  | i, v :: vs => (i, v) :: ixl (i + 1) vs
theorem lv_args_ix : ∀ (vs : List Value) (i : Nat), (∀ v ∈ vs, v.category = 1) → lv_args i vs = ixl i vs
  | [], _, _ => rfl
  | v :: vs, i, h => by
    have h1 := h v List.mem_cons_self
    have h2 := lv_args_ix vs (i + 1) (fun w hw => h w (List.mem_cons_of_mem _ hw))
    simp [lv_args, ixl, h1, h2]
theorem ixl_cat : ∀ (vs : List Value) (i : Nat), (∀ v ∈ vs, v.category = 1) → ∀ q ∈ ixl i vs, q.2.category = 1
  | [], _, _, q, hq => by cases hq
  | v :: vs, i, h, q, hq => by
    rcases List.mem_cons.mp hq with rfl | hq
    · exact h v List.mem_cons_self
    · exact ixl_cat vs (i + 1) (fun w hw => h w (List.mem_cons_of_mem _ hw)) q hq
theorem lg_sl_len : ∀ (vs : List Value), (∀ v ∈ vs, v.category = 1) → (lg_sl vs).length = vs.length
  | [], _ => rfl
  | v :: vs, h => by
    have h1 := h v List.mem_cons_self
    have h2 := lg_sl_len vs (fun w hw => h w (List.mem_cons_of_mem _ hw))
    have h3 : lg_sl (v :: vs) = [Slot.val v] ++ lg_sl vs := by simp [lg_sl, h1]
    rw [h3, List.length_append, h2]; simp; omega
theorem vi_cat (x : Int) : (vi x).category = 1 := rfl
theorem c_r {x : Int} {l : List Value} (h : ∀ v ∈ l, v.category = 1) : ∀ v ∈ vr x :: l, v.category = 1 := List.forall_mem_cons.mpr ⟨vr_cat x, h⟩
theorem c_i {x : Int} {l : List Value} (h : ∀ v ∈ l, v.category = 1) : ∀ v ∈ vi x :: l, v.category = 1 := List.forall_mem_cons.mpr ⟨rfl, h⟩
theorem c_0 : ∀ v ∈ ([] : List Value), v.category = 1 := fun _ h => absurd h List.not_mem_nil
theorem cat_sum : ∀ (l : List Value), (∀ v ∈ l, v.category = 1) → (l.map fun v => v.category).sum = l.length
  | [], _ => rfl
  | v :: l, h => by
    have h2 := cat_sum l (fun w hw => h w (List.mem_cons_of_mem _ hw))
    have h1 := h v List.mem_cons_self
    simp [h1, h2]; omega
theorem c8 {l : List Value} (h : ∀ v ∈ l, v.category = 1) (h8 : l.length ≤ 8) : (l.map fun v => v.category).sum ≤ 8 := by rw [cat_sum l h]; exact h8
theorem cN {l : List Value} {a b : Nat} (h : ∀ v ∈ l, v.category = 1) (h8 : l.length + a ≤ b) : (l.map fun v => v.category).sum + a ≤ b := by rw [cat_sum l h]; exact h8
theorem nar_o {n : String} (z : Int) : narrow (.object n) (vr z) = vr z := by show narrow _ (va_rf (rO z)) = va_rf (rO z); cases rO z <;> rfl
theorem nar_a {t : FieldType} (z : Int) : narrow (.array t) (vr z) = vr z := by show narrow _ (va_rf (rO z)) = va_rf (rO z); cases rO z <;> rfl
theorem fit_o {n : String} (z : Int) : fits (.object n) (vr z) = true := by show fits _ (va_rf (rO z)) = _; cases rO z <;> rfl
theorem fit_a {t : FieldType} (z : Int) : fits (.array t) (vr z) = true := by show fits _ (va_rf (rO z)) = _; cases rO z <;> rfl
abbrev fuel : Nat := 40000
section
variable {p : Program} {l : Launch} {e : Env} {R : Room} {s : State} {m : MethodId} {args : Array Value} {below : List Frame} {meth : Method} {c : Code} {H : Heap} {locs : List Loc} {cells slots : Nat} {Q : State → Prop}
variable {cc : ByteArray} {pc nL : Nat} {ls : Array Slot} {rest : List Value}
theorem s_entry {D : va_G} {G : Nat → ClassId} {base : Nat} {h : Hp} {vs : List Value} {n : Nat} (ha : args = vs.toArray) (hM : SM D G base h s.heap) (hc : ∀ v ∈ vs, v.category = 1) (hn : vs.length ≤ n) (kk : ∀ (H : Heap) (locs : List Loc) (ls : Array Slot), SM D G base h H → va_S (Ab base) s.heap H locs → lvh ls n (ixl 0 vs) → W p l e R s m args below meth c H locs cells slots Q (F0 m 0 ls [])) : W p l e R s m args below meth c s.heap [] cells slots Q (entryFrame m args n) := by
  have h1 : entryFrame m args n = F0 m 0 ((lg_sl vs ++ List.replicate (n - (lg_sl vs).length) Slot.unset).toArray) [] := by rw [ha]; exact lg_entry_eq m vs n
  rw [h1]
  have h2 := lv_entry vs (n := n) (by rw [lg_sl_len vs hc]; exact hn)
  rw [lv_args_ix vs 0 hc] at h2
  exact kk _ _ _ hM va_S.rf ⟨h2, ixl_cat vs 0 hc⟩
theorem flt1 {lv : List (Nat × Value)} {i : Nat} (h : ∀ q ∈ lv, q.2.category = 1) : lv.filter (fun q => !(q.1 == i) && !(q.1 + 1 == i && q.2.category == 2)) = lv.filter (fun q => !(q.1 == i)) := by
  apply List.filter_congr
  intro q hq
  simp [h q hq]
theorem lvh_st {ls' : Array Slot} {lv lv' : List (Nat × Value)} {i : Nat} {v : Value} (hh : lvh ls nL lv) (hv : v.category = 1) (hl : (i, v) :: lv.filter (fun q => !(q.1 == i)) = lv') (h : lv_has ls' nL lv') : lvh ls' nL lv' := by
  refine ⟨h, fun q hq => ?_⟩
  rw [← hl] at hq
  rcases List.mem_cons.mp hq with rfl | hq
  · exact hv
  · exact hh.2 q (List.mem_filter.mp hq).1
theorem t_istore_n (hx : p.tables.exec = Jvm.exec) (hb : c.code = cc) {k : Fin 4} {i : Nat} {x : Int} {lv lv' : List (Nat × Value)} (hdg : decode cc pc = .ok (.istore_n k, 1)) (hi : (k : Nat) = i) (hh : lvh ls nL lv) (hn : i < nL) (hl : (i, vi x) :: lv.filter (fun q => !(q.1 == i)) = lv') (kk : ∀ ls' : Array Slot, lvh ls' nL lv' → W p l e R s m args below meth c H locs cells slots Q (F0 m (pc + 1) ls' rest)) : W p l e R s m args below meth c H locs cells slots Q (F0 m pc ls (vi x :: rest)) :=
  lv_istore_n hx hb hdg hi hh.1 hn (by rw [flt1 hh.2]; exact hl) (fun ls' h => kk ls' (lvh_st hh rfl hl h))
theorem t_istore (hx : p.tables.exec = Jvm.exec) (hb : c.code = cc) {i : Nat} {x : Int} {lv lv' : List (Nat × Value)} (hdg : decode cc pc = .ok (.istore i, 2)) (hh : lvh ls nL lv) (hn : i < nL) (hl : (i, vi x) :: lv.filter (fun q => !(q.1 == i)) = lv') (kk : ∀ ls' : Array Slot, lvh ls' nL lv' → W p l e R s m args below meth c H locs cells slots Q (F0 m (pc + 2) ls' rest)) : W p l e R s m args below meth c H locs cells slots Q (F0 m pc ls (vi x :: rest)) :=
  lv_istore hx hb hdg hh.1 hn (by rw [flt1 hh.2]; exact hl) (fun ls' h => kk ls' (lvh_st hh rfl hl h))
theorem t_astore_n (hx : p.tables.exec = Jvm.exec) (hb : c.code = cc) {k : Fin 4} {i : Nat} {x : Int} {lv lv' : List (Nat × Value)} (hdg : decode cc pc = .ok (.astore_n k, 1)) (hi : (k : Nat) = i) (hh : lvh ls nL lv) (hn : i < nL) (hl : (i, vr x) :: lv.filter (fun q => !(q.1 == i)) = lv') (kk : ∀ ls' : Array Slot, lvh ls' nL lv' → W p l e R s m args below meth c H locs cells slots Q (F0 m (pc + 1) ls' rest)) : W p l e R s m args below meth c H locs cells slots Q (F0 m pc ls (vr x :: rest)) :=
  s_astore_n hx hb hdg hi hh.1 hn (by rw [flt1 hh.2]; exact hl) (fun ls' h => kk ls' (lvh_st hh (vr_cat x) hl h))
theorem t_astore (hx : p.tables.exec = Jvm.exec) (hb : c.code = cc) {i : Nat} {x : Int} {lv lv' : List (Nat × Value)} (hdg : decode cc pc = .ok (.astore i, 2)) (hh : lvh ls nL lv) (hn : i < nL) (hl : (i, vr x) :: lv.filter (fun q => !(q.1 == i)) = lv') (kk : ∀ ls' : Array Slot, lvh ls' nL lv' → W p l e R s m args below meth c H locs cells slots Q (F0 m (pc + 2) ls' rest)) : W p l e R s m args below meth c H locs cells slots Q (F0 m pc ls (vr x :: rest)) :=
  s_astore hx hb hdg hh.1 hn (by rw [flt1 hh.2]; exact hl) (fun ls' h => kk ls' (lvh_st hh (vr_cat x) hl h))
theorem t_iinc (hx : p.tables.exec = Jvm.exec) (hb : c.code = cc) {i k : Nat} {n x y : Int} {lv lv' : List (Nat × Value)} (hdg : decode cc pc = .ok (.iinc i n, 3)) (hh : lvh ls nL lv) (hk : lv[k]? = some (i, vi x)) (hn : i < nL) (hy : wr (x + n) = y) (hl : (i, vi y) :: lv.filter (fun q => !(q.1 == i)) = lv') (kk : ∀ ls' : Array Slot, lvh ls' nL lv' → W p l e R s m args below meth c H locs cells slots Q (F0 m (pc + 3) ls' rest)) : W p l e R s m args below meth c H locs cells slots Q (F0 m pc ls rest) := by
  subst hy
  exact s_iinc hx hb hdg hh.1 hk hn (by rw [flt1 hh.2]; exact hl) (fun ls' h => kk ls' (lvh_st hh rfl hl h))
theorem s_ldc (hx : p.tables.exec = Jvm.exec) (hb : c.code = cc) {own : String} {index : Nat} {v : Int32} {n : Int} (hown : s.vm.findClass own = some m.cls) (hc : (Cond.constant own index v).before args s = true) (hv : v = Int32.ofInt n) (hdg : decode cc pc = .ok (.ldc index, 2)) (kk : W p l e R s m args below meth c H locs cells slots Q (F0 m (pc + 2) ls (vi n :: rest))) : W p l e R s m args below meth c H locs cells slots Q (F0 m pc ls rest) := by
  subst hv
  exact lv_ldc hx hb hown hc hdg kk
theorem s_acmp_ne (hx : p.tables.exec = Jvm.exec) (hb : c.code = cc) {x y : Int} {off : Int} {tgt : Nat} (hdg : decode cc pc = .ok (.if_acmp .ne off, 3)) (ht : (pc : Int) + off = (tgt : Int)) (kt : ¬ rO x = rO y → W p l e R s m args below meth c H locs cells slots Q (F0 m tgt ls rest)) (kf : ¬ ¬ rO x = rO y → W p l e R s m args below meth c H locs cells slots Q (F0 m (pc + 3) ls rest)) : W p l e R s m args below meth c H locs cells slots Q (F0 m pc ls (vr y :: vr x :: rest)) :=
  lv_acmp_ne hx hb hdg ht kt (fun q => kf (fun z => z q))
theorem s_tsw (hx : p.tables.exec = Jvm.exec) (hb : c.code = cc) {dflt lo hi : Int} {offs : Array Int} {len : Nat} {x k : Int} {off : Int} {tgt : Nat} (ix : inr x) (hk : x = k) (hdg : decode cc pc = .ok (.tableswitch dflt lo hi offs, len)) (h1 : lo ≤ k) (h2 : k ≤ hi) (ho : offs[(k - lo).toNat]? = some off) (ht : (pc : Int) + off = (tgt : Int)) (kk : W p l e R s m args below meth c H locs cells slots Q (F0 m tgt ls rest)) : W p l e R s m args below meth c H locs cells slots Q (F0 m pc ls (vi x :: rest)) := by
  subst hk
  exact lv_tableIn hx hb hdg (by rw [ti_of ix]; omega) (by rw [ti_of ix]; omega) (by rw [ti_of ix]; exact ho) ht kk
theorem s_tswD (hx : p.tables.exec = Jvm.exec) (hb : c.code = cc) {dflt lo hi : Int} {offs : Array Int} {len : Nat} {x : Int} {tgt : Nat} (ix : inr x) (hdg : decode cc pc = .ok (.tableswitch dflt lo hi offs, len)) (hd : x < lo ∨ hi < x) (ht : (pc : Int) + dflt = (tgt : Int)) (kk : W p l e R s m args below meth c H locs cells slots Q (F0 m tgt ls rest)) : W p l e R s m args below meth c H locs cells slots Q (F0 m pc ls (vi x :: rest)) :=
  lv_tableOut hx hb hdg (by rw [ti_of ix]; exact hd) ht kk
end
abbrev QI (D : va_G) (G : Nat → ClassId) (base : Nat) (rv : Int) (h' : Hp) (below : List Frame) (args : Array Value) (s : State) (mc ms : Nat) : State → Prop := MQ below (QR D G base (some (vi rv)) (inr rv) h') args s mc ms (Ab base)
abbrev QV (D : va_G) (G : Nat → ClassId) (base : Nat) (rv : Int) (h' : Hp) (below : List Frame) (args : Array Value) (s : State) (mc ms : Nat) : State → Prop := MQ below (QR D G base none True h') args s mc ms (Ab base)
abbrev QF (D : va_G) (G : Nat → ClassId) (base : Nat) (rv : Int) (h' : Hp) (below : List Frame) (args : Array Value) (s : State) (mc ms : Nat) : State → Prop := MQ below (QR D G base (some (vr rv)) True h') args s mc ms (Ab base)
end
section
/-! methods that may throw: code 0 they return, 1 NoSuchElement, 2 IllegalArgument, 3 IllegalState -/
def exN (k : Nat) : String := if k = 1 then exE else if k = 2 then exA else exS
def QRx (D : va_G) (G : Nat → ClassId) (base : Nat) (code : Nat) (ro : Option Value) (P : Prop) (h' : Hp) : Array Value → State → Outcome → State → Prop := fun a st oc t => code = 0 ∧ QR D G base ro P h' a st oc t
def XR (D : va_G) (G : Nat → ClassId) (base : Nat) (code : Nat) (h' : Hp) : String → State → State → Prop := fun E st t => code ≠ 0 ∧ E = exN code ∧ (∃ k, hN h' ≤ k ∧ SM D G base (hsN h' k) t.heap) ∧ va_F (Ab base) st t
theorem SM.ext {D : va_G} {G : Nat → ClassId} {base : Nat} {h : Hp} {H H1 : Heap} (hM : SM D G base h H) (hz : H.size ≤ H1.size) (hk : ∀ q : Nat, q < H.size → H1[q]? = H[q]?) : SM D G base (hsN h H1.size) H1 := by
  refine ⟨rfl, hM.2.1, fun a ha => ?_⟩
  obtain ⟨h1, h2, h3⟩ := hM.2.2 a ha
  exact ⟨h1, h2, h3.kept (hk a h3.lt)⟩
section
variable {p : Program} {l : Launch} {e : Env} {R : Room} {s : State} {m : MethodId} {args : Array Value} {below : List Frame} {meth : Method} {c : Code} {H : Heap} {locs : List Loc} {cells slots : Nat} {Q : State → Prop}
variable {cc : ByteArray} {pc nL : Nat} {ls : Array Slot} {rest : List Value} {D : va_G} {G : Nat → ClassId} {base : Nat} {h h' : Hp} {H0 : Heap}
theorem s_runX {st0 : List Value} {a : Array Value} {mc ms : Nat} {ro : Option Value} {P : Prop} {code : Nat} (hr : vx_Run p l e R s m args below meth c H locs cells slots mc ms (F0 m pc ls st0) rest (QRx D G base code ro P h' a) (XR D G base code h') (Ab base)) (hS : va_S (Ab base) H0 H locs)
    (kx : code ≠ 0 → ∀ (ce : Cell) (q9 : Addr) (H1 : Heap) (locs1 : List Loc) (k : Nat), hN h' ≤ k → SM D G base (hsN h' k) H1 → va_S (Ab base) H0 H1 locs1 → H1[q9]? = some ce → ce.vm = .none → s.vm.findClass (exN code) = some ce.cls → vx_W p l e R s m args below meth c H1 locs1 (cells + mc) (slots + ms) Q (F0 m pc ls rest) q9)
    (kk : code = 0 → ∀ (H1 : Heap) (locs1 : List Loc), P → SM D G base h' H1 → va_S (Ab base) H0 H1 locs1 → W p l e R s m args below meth c H1 locs1 (cells + mc) (slots + ms) Q (F0 m (pc + 3) ls (ro.toList ++ rest))) : W p l e R s m args below meth c H locs cells slots Q (F0 m pc ls st0) := by
  intro T hT X
  rcases hr T hT X with ⟨v, st₀, t, T', L, h0, X', hL, e1, e2, ⟨hcode, hv, hP, hM, hF⟩, st⟩ | ⟨q, st₀, t, T', L, E, ce, h0, X', hL, e1, e2, ⟨hcode, hE, ⟨k, hkn, hM⟩, hF⟩, hce, hcv, hcl, st⟩
  · cases hv
    obtain ⟨k1, k2, k3⟩ := vx_keep (A0 := Ab base) (A1 := Ab base) (free := Ab base) h0 e1 hS (fun _ _ z => z) (fun _ z => z) hL hF
    obtain ⟨t2, a1, b1⟩ := kk hcode T'.heap (locs ++ L) hP (by rw [e1]; exact hM) k3 T' rfl X'
    exact ⟨t2, st t2 a1, b1⟩
  · obtain ⟨k1, k2, k3⟩ := vx_keep (A0 := Ab base) (A1 := Ab base) (free := Ab base) h0 e1 hS (fun _ _ z => z) (fun _ z => z) hL hF
    obtain ⟨t2, a1, b1⟩ := kx hcode ce q T'.heap (locs ++ L) k hkn (by rw [e1]; exact hM) k3 (by rw [e1]; exact hce) hcv (by rw [← hE]; exact hcl) T' rfl X'
    exact ⟨t2, st.trans a1, b1⟩
/-- not caught here -/
theorem s_prop {mc ms : Nat} {ro : Option Value} {P : Prop} {code c1 : Nat} {rv : Int} {h1 : Hp} {q9 : Addr} {ce : Cell} {k : Nat} (hout : ∀ x ∈ c.exceptionTable.toList, False) (hlocks : meth.locks = false) (h0 : c1 ≠ 0) (hrun : some (c1, (0 : Int), h1) = some (code, rv, h')) (hkn : hN h1 ≤ k) (hM : SM D G base (hsN h1 k) H) (hS : va_S (Ab base) s.heap H locs) (hce : H[q9]? = some ce) (hcv : ce.vm = .none) (hcl : s.vm.findClass (exN c1) = some ce.cls) (hc : cells ≤ mc) (hs : slots ≤ ms) : vx_W p l e R s m args below meth c H locs cells slots (vx_MQ below (QRx D G base code ro P h') (XR D G base code h') args s mc ms (Ab base)) (F0 m pc ls rest) q9 := by
  cases hrun
  exact vx_out (fun x hx => (hout x hx).elim) hlocks hce hcv hcl (fun t ht hv => ⟨h0, rfl, ⟨k, hkn, by rw [ht]; exact hM⟩, hS.F ht⟩) hS.2.2 hc hs
theorem s_callVX {own C : String} {index ci : Nat} {y : MethodName} {bytes : ByteArray} {maxL n : Nat} {ret : Option FieldType} {rm : Room} {ro : Option Value} {P : Prop} {code : Nat} {a : Int} {u : Unit} (As : List Value) {st0 : List Value} {q : vw_C} (hx : p.tables.exec = Jvm.exec) (hb : c.code = cc) (hml : c.maxLocals = nL) (hown : s.vm.findClass own = some m.cls) (hts : ∀ w ∈ BW, w.before args s = true) (hE : EV l D G base s) (hM : SM D G base h H) (hS : va_S (Ab base) s.heap H locs)
    (hMet : vx_Met l y (Cond.code y bytes maxL ret :: BW) rm (PC l D G base h (vr a :: As)) (QRx D G base code ro P h') (XR D G base code h') rm.cells rm.slots (Ab base))
    (hcode : Cond.code y bytes maxL ret ∈ BW) (hl : Cond.methodLink own index y ∈ BW) (hini : Cond.initialized y.cls ∈ BW) (hin : Cond.instanceMethod y ∈ BW) (hsel : Cond.selects C y y ∈ BW) (hd : y.cls ≠ "java/lang/invoke/MethodHandle" ∧ y.cls ≠ "java/lang/invoke/VarHandle" ∧ (parseMethodDescriptor y.desc).map (fun d => d.parameters.length) = some n) (hR : rm.frames + 1 ≤ R.frames ∧ 8 + (maxL + 11) + rm.locals ≤ R.locals)
    (hc : vwCl[ci]? = some q) (hq : q.1 = C) (hci : ci ≤ 6) (g : ckd h ci a = some u) (hn : As.length = n) (hlz : ls.size = nL) (hst : st0 = As.reverse ++ vr a :: rest) (hW : (rest.map fun v => v.category).sum ≤ 8) (hdg : decode cc pc = .ok (.invokevirtual index, 3)) (hf : cells + rm.cells ≤ R.cells ∧ slots + rm.slots ≤ R.slots)
    (kx : code ≠ 0 → ∀ (ce : Cell) (q9 : Addr) (H1 : Heap) (locs1 : List Loc) (k : Nat), hN h' ≤ k → SM D G base (hsN h' k) H1 → va_S (Ab base) s.heap H1 locs1 → H1[q9]? = some ce → ce.vm = .none → s.vm.findClass (exN code) = some ce.cls → vx_W p l e R s m args below meth c H1 locs1 (cells + rm.cells) (slots + rm.slots) Q (F0 m pc ls rest) q9)
    (kk : code = 0 → ∀ (H1 : Heap) (locs1 : List Loc), P → SM D G base h' H1 → va_S (Ab base) s.heap H1 locs1 → W p l e R s m args below meth c H1 locs1 (cells + rm.cells) (slots + rm.slots) Q (F0 m (pc + 3) ls (ro.toList ++ rest))) : W p l e R s m args below meth c H locs cells slots Q (F0 m pc ls st0) := by
  obtain ⟨g1, g2⟩ := ckd_s g
  subst hq
  rw [vr_pos g1] at hMet hst
  exact s_runX (vx_runV (As := As) (rest := rest) ⟨hx, hb, hml, hown, hts⟩ hMet ⟨cb_of hts hcode hl hini hd hR, hts _ hin, hts _ hsel⟩ ⟨PC.blind, va_recv hE.1 (hM.obj g2 hci) hc (ix_1 _), fun U hU hW => ⟨rfl, hE.go hS hU hW, by rw [hU]; exact hM⟩⟩ rfl hn hlz hst (lv_room hW) hdg hf) hS kx kk
theorem s_callSX {own : String} {index : Nat} {y : MethodName} {bytes : ByteArray} {maxL n : Nat} {ret : Option FieldType} {rm : Room} {ro : Option Value} {P : Prop} {code : Nat} (As : List Value) {st0 : List Value} (hx : p.tables.exec = Jvm.exec) (hb : c.code = cc) (hml : c.maxLocals = nL) (hown : s.vm.findClass own = some m.cls) (hts : ∀ w ∈ BW, w.before args s = true) (hE : EV l D G base s) (hM : SM D G base h H) (hS : va_S (Ab base) s.heap H locs)
    (hMet : vx_Met l y (Cond.code y bytes maxL ret :: BW) rm (PC l D G base h As) (QRx D G base code ro P h') (XR D G base code h') rm.cells rm.slots (Ab base))
    (hcode : Cond.code y bytes maxL ret ∈ BW) (hl : Cond.methodLink own index y ∈ BW) (hini : Cond.initialized y.cls ∈ BW) (hsta : Cond.static y ∈ BW) (hd : y.cls ≠ "java/lang/invoke/MethodHandle" ∧ y.cls ≠ "java/lang/invoke/VarHandle" ∧ (parseMethodDescriptor y.desc).map (fun d => d.parameters.length) = some n) (hR : rm.frames + 1 ≤ R.frames ∧ 8 + (maxL + 11) + rm.locals ≤ R.locals)
    (hn : As.length = n) (hlz : ls.size = nL) (hst : st0 = As.reverse ++ rest) (hW : (rest.map fun v => v.category).sum ≤ 8) (hdg : decode cc pc = .ok (.invokestatic index, 3)) (hf : cells + rm.cells ≤ R.cells ∧ slots + rm.slots ≤ R.slots)
    (kx : code ≠ 0 → ∀ (ce : Cell) (q9 : Addr) (H1 : Heap) (locs1 : List Loc) (k : Nat), hN h' ≤ k → SM D G base (hsN h' k) H1 → va_S (Ab base) s.heap H1 locs1 → H1[q9]? = some ce → ce.vm = .none → s.vm.findClass (exN code) = some ce.cls → vx_W p l e R s m args below meth c H1 locs1 (cells + rm.cells) (slots + rm.slots) Q (F0 m pc ls rest) q9)
    (kk : code = 0 → ∀ (H1 : Heap) (locs1 : List Loc), P → SM D G base h' H1 → va_S (Ab base) s.heap H1 locs1 → W p l e R s m args below meth c H1 locs1 (cells + rm.cells) (slots + rm.slots) Q (F0 m (pc + 3) ls (ro.toList ++ rest))) : W p l e R s m args below meth c H locs cells slots Q (F0 m pc ls st0) :=
  s_runX (vx_runS (As := As) (rest := rest) ⟨hx, hb, hml, hown, hts⟩ hMet ⟨cb_of hts hcode hl hini hd hR, hts _ hsta⟩ (preS_of hE hM hS) rfl hn hlz hst (lv_room hW) hdg hf) hS kx kk
/-! ends -/
theorem s_xret {mc ms : Nat} {v rv : Int} {code : Nat} (hx : p.tables.exec = Jvm.exec) (hb : c.code = cc) (hr : meth.sig.returnType = some .int) (hlocks : meth.locks = false) (hM : SM D G base h H) (hS : va_S (Ab base) s.heap H locs) (hv : inr v) (hrun : some (0, v, h) = some (code, rv, h')) (hc : cells ≤ mc) (hs : slots ≤ ms) (hdg : decode cc pc = .ok (.ireturn, 1)) : W p l e R s m args below meth c H locs cells slots (vx_MQ below (QRx D G base code (some (vi rv)) (inr rv) h') (XR D G base code h') args s mc ms (Ab base)) (F0 m pc ls [vi v]) := by
  cases hrun
  exact W.widen hc hs (vx_ret (W.iret hx hb hr (fun t ht hW => ⟨rfl, rfl, hv, by rw [ht]; exact hM, hS.F ht⟩) hS.2.2 hdg hlocks))
theorem s_xvret {mc ms : Nat} {rv : Int} {code : Nat} (hx : p.tables.exec = Jvm.exec) (hb : c.code = cc) (hr : meth.sig.returnType = none) (hlocks : meth.locks = false) (hM : SM D G base h H) (hS : va_S (Ab base) s.heap H locs) (hrun : some (0, (0 : Int), h) = some (code, rv, h')) (hc : cells ≤ mc) (hs : slots ≤ ms) (hdg : decode cc pc = .ok (.return_, 1)) : W p l e R s m args below meth c H locs cells slots (vx_MQ below (QRx D G base code none True h') (XR D G base code h') args s mc ms (Ab base)) (F0 m pc ls []) := by
  cases hrun
  exact W.widen hc hs (vx_ret (W.vret hx hb hr (fun t ht hW => ⟨rfl, rfl, trivial, by rw [ht]; exact hM, hS.F ht⟩) hS.2.2 hdg hlocks))
theorem s_xaret {mc ms : Nat} {v rv : Int} {code : Nat} {rt : FieldType} (hx : p.tables.exec = Jvm.exec) (hb : c.code = cc) (hr : meth.sig.returnType = some rt) (hrt : (∃ n, rt = .object n) ∨ ∃ t, rt = .array t) (hlocks : meth.locks = false) (hM : SM D G base h H) (hS : va_S (Ab base) s.heap H locs) (hrun : some (0, v, h) = some (code, rv, h')) (hc : cells ≤ mc) (hs : slots ≤ ms) (hdg : decode cc pc = .ok (.areturn, 1)) : W p l e R s m args below meth c H locs cells slots (vx_MQ below (QRx D G base code (some (vr rv)) True h') (XR D G base code h') args s mc ms (Ab base)) (F0 m pc ls [vr v]) := by
  cases hrun
  refine W.widen hc hs (vx_ret (W.aret hx hb hr hrt ?_ (fun t ht hW => ⟨rfl, rfl, trivial, by rw [ht]; exact hM, hS.F ht⟩) hS.2.2 hdg hlocks))
  by_cases h0 : v < 0
  · exact Or.inl (vr_neg h0)
  · exact Or.inr ⟨_, vr_pos (by omega)⟩
/-- 'throw new E("text")' -/
theorem s_throw {mc ms : Nat} {ro : Option Value} {P : Prop} {ik is ic : Nat} {cls text : String} {code : Nat} {rv : Int} (k : Nat) (hk0 : k ≠ 0) (hkc : exN k = cls) (hx : p.tables.exec = Jvm.exec) (hb : c.code = cc) (hml : c.maxLocals = nL) (hlz : ls.size = nL) (hown : s.vm.findClass RX5 = some m.cls) (hts : ∀ w ∈ BW, w.before args s = true) (hE : EV l D G base s) (hM : SM D G base h H) (hS : va_S (Ab base) s.heap H locs) (hout : ∀ x ∈ c.exceptionTable.toList, False) (hlocks : meth.locks = false)
    (hfit : Bundle.fit cls = true) (hkl : Cond.classLink RX5 ik cls ∈ BW) (hin : Cond.initialized cls ∈ BW) (hstr : (is, text) ∈ STR) (hgd : ∀ w ∈ (vx_atS RX5 ic cls ["java/lang/RuntimeException", "java/lang/Exception"]).filter goodWord, w ∈ BW)
    (hrest : ∀ w ∈ (vx_atS RX5 ic cls ["java/lang/RuntimeException", "java/lang/Exception"]).filter (fun w => !goodWord w), w ∈ [Cond.declares (inS "java/lang/RuntimeException"), Cond.declares (inS "java/lang/Exception"), Cond.declares (inS "java/lang/Throwable"), Cond.castable exE exE, Cond.castable exA exA, Cond.castable exS exS])
    (hot : ∀ w ∈ Cond.classLink RX5 ik cls :: Cond.initialized cls :: vx_atS RX5 ic cls ["java/lang/RuntimeException", "java/lang/Exception"], vx_ot w = true)
    (d0 : decode cc pc = .ok (.new ik, 3)) (d3 : decode cc (pc + 3) = .ok (.dup, 1)) (d4 : decode cc (pc + 4) = .ok (.ldc is, 2)) (d6 : decode cc (pc + 6) = .ok (.invokespecial ic, 3)) (d9 : decode cc (pc + 9) = .ok (.athrow, 1))
    (hRf : 5 < R.frames) (hRl : (rest.map fun v => v.category).sum + 82 ≤ R.locals) (hRc : cells + 1 ≤ R.cells) (hRs : slots + 6 ≤ R.slots) (hc : cells + 1 ≤ mc) (hs : slots + 6 ≤ ms) (hrun : some (k, (0 : Int), h) = some (code, rv, h')) : W p l e R s m args below meth c H locs cells slots (vx_MQ below (QRx D G base code ro P h') (XR D G base code h') args s mc ms (Ab base)) (F0 m pc ls rest) := by
  cases hrun
  obtain ⟨hl, ⟨a1, a2, a3⟩, ⟨b1, b2, b3⟩, -, ⟨z1, z2⟩, hst⟩ := hE.2.2.2.2
  obtain ⟨sa, hsa⟩ := hst _ hstr
  have hat : ∀ w ∈ vx_atS RX5 ic cls ["java/lang/RuntimeException", "java/lang/Exception"], w.before args s = true := vx_hat (fun w hw => hts w (hgd w hw)) hrest (vx_c (va_Nw.use rfl a1) (vx_c (va_Nw.use rfl a2) (vx_c (va_Nw.use rfl a3) (vx_c (va_Nw.use rfl b1) (vx_c (va_Nw.use rfl b2) (vx_c (va_Nw.use rfl b3) vx_n))))))
  refine vx_throwS (A := Ab base) hx hb hl hown hfit (fun n hn => ?_) (hts _ hkl) (hts _ hin) hsa hat hot z1 z2 hS (by rw [hml]; exact hlz) d0 d3 d4 d6 d9 (fun x hx => (hout x hx).elim) hRf hRl hRc hRs hlocks (fun t hv hz hk => ?_) hS.2.2 hc hs
  · rcases List.mem_cons.mp hn with rfl | hn
    · decide +kernel
    · rcases List.mem_cons.mp hn with rfl | hn
      · decide +kernel
      · cases hn
  · refine ⟨hk0, hkc.symm, ⟨t.heap.size, by rw [← hM.1]; exact hz, hM.ext hz hk⟩, Nat.le_trans hS.1 hz, fun q h1 h2 => ?_⟩
    rw [hk q (Nat.lt_of_lt_of_le h1 hS.1)]
    exact hS.2.1 q h1 h2
end
abbrev QIx (D : va_G) (G : Nat → ClassId) (base : Nat) (code : Nat) (rv : Int) (h' : Hp) (below : List Frame) (args : Array Value) (s : State) (mc ms : Nat) : State → Prop := vx_MQ below (QRx D G base code (some (vi rv)) (inr rv) h') (XR D G base code h') args s mc ms (Ab base)
abbrev QVx (D : va_G) (G : Nat → ClassId) (base : Nat) (code : Nat) (rv : Int) (h' : Hp) (below : List Frame) (args : Array Value) (s : State) (mc ms : Nat) : State → Prop := vx_MQ below (QRx D G base code none True h') (XR D G base code h') args s mc ms (Ab base)
abbrev QFx (D : va_G) (G : Nat → ClassId) (base : Nat) (code : Nat) (rv : Int) (h' : Hp) (below : List Frame) (args : Array Value) (s : State) (mc ms : Nat) : State → Prop := vx_MQ below (QRx D G base code (some (vr rv)) True h') (XR D G base code h') args s mc ms (Ab base)
end
section
theorem xg_32 : ∀ w ∈ (vx_atS RX5 32 exA ["java/lang/RuntimeException", "java/lang/Exception"]).filter goodWord, w ∈ BW := bw_all [41, 200, 209, 213, 216, 218, 201, 202, 59, 60, 203, 208, 214, 234, 190, 235, 192, 236, 194, 204, 206, 196, 230, 231, 233, 196, 221, 222, 223, 224, 224, 225, 226, 227, 227, 228, 229, 230, 220, 179, 187, 188, 189, 191, 193, 195, 199, 198, 197] (by decide +kernel) (List.all_eq_true.mpr (fun w hw => (List.mem_filter.mp hw).2))
theorem xr_32 : ∀ w ∈ (vx_atS RX5 32 exA ["java/lang/RuntimeException", "java/lang/Exception"]).filter (fun w => !goodWord w), w ∈ [Cond.declares (inS "java/lang/RuntimeException"), Cond.declares (inS "java/lang/Exception"), Cond.declares (inS "java/lang/Throwable"), Cond.castable exE exE, Cond.castable exA exA, Cond.castable exS exS] := by decide +kernel
theorem xo_32 : ∀ w ∈ Cond.classLink RX5 28 exA :: Cond.initialized exA :: vx_atS RX5 32 exA ["java/lang/RuntimeException", "java/lang/Exception"], vx_ot w = true := by decide +kernel
theorem xg_63 : ∀ w ∈ (vx_atS RX5 63 exS ["java/lang/RuntimeException", "java/lang/Exception"]).filter goodWord, w ∈ BW := bw_all [41, 200, 209, 213, 216, 218, 201, 202, 59, 60, 203, 208, 214, 234, 190, 235, 192, 236, 194, 204, 206, 196, 230, 231, 233, 196, 393, 394, 395, 224, 224, 225, 226, 227, 227, 228, 229, 230, 392, 383, 385, 211, 386, 387, 388, 389, 199, 198, 390] (by decide +kernel) (List.all_eq_true.mpr (fun w hw => (List.mem_filter.mp hw).2))
theorem xr_63 : ∀ w ∈ (vx_atS RX5 63 exS ["java/lang/RuntimeException", "java/lang/Exception"]).filter (fun w => !goodWord w), w ∈ [Cond.declares (inS "java/lang/RuntimeException"), Cond.declares (inS "java/lang/Exception"), Cond.declares (inS "java/lang/Throwable"), Cond.castable exE exE, Cond.castable exA exA, Cond.castable exS exS] := by decide +kernel
theorem xo_63 : ∀ w ∈ Cond.classLink RX5 59 exS :: Cond.initialized exS :: vx_atS RX5 63 exS ["java/lang/RuntimeException", "java/lang/Exception"], vx_ot w = true := by decide +kernel
end
section
/-! NoSuchElementException: its constructor's link to the one above it is 13, not 7: the way of the library's chain (Bundle.chainS), with its first step taken apart -/
abbrev rtX : String := "java/lang/RuntimeException"
abbrev bN : ByteArray := prog_20_method_4_code
def tlN : List Cond := [.methodLink RX5 109 (Bundle.initS exE), .instantiable exE 6, .castable exE exE, .selects exE Bundle.tFill0 Bundle.tFill0, .selects exE Bundle.tFill Bundle.tFill,
   .lays exE Bundle.tN "cause" "Ljava/lang/Throwable;", .lays exE Bundle.tN "stackTrace" Bundle.steD, .lays exE Bundle.tN "suppressedExceptions" Bundle.listD, .lays exE Bundle.tN "detailMessage" "Ljava/lang/String;",
   .isRef (.static Bundle.tN "UNASSIGNED_STACK" Bundle.steD), .isRef (.static Bundle.tN "SUPPRESSED_SENTINEL" Bundle.listD),
   .fieldLink Bundle.tN 198 Bundle.tN "backtrace" "Ljava/lang/Object;", .lays Bundle.tN Bundle.tN "backtrace" "Ljava/lang/Object;", .lays exE Bundle.tN "backtrace" "Ljava/lang/Object;"]
def atN : List Cond := Bundle.throwableAtoms ++ (Bundle.throwableSAtoms ++ (Bundle.passSAtoms exE rtX 13 bN ++ (Bundle.chainSAtoms rtX ["java/lang/Exception"] ++ tlN)))
theorem bN_0 : decode bN 0 = .ok (.aload_n 0, 1) := by decide +kernel
theorem bN_1 : decode bN 1 = .ok (.aload_n 1, 1) := by decide +kernel
theorem bN_2 : decode bN 2 = .ok (.invokespecial 13, 3) := by decide +kernel
theorem bN_5 : decode bN 5 = .ok (.return_, 1) := by decide +kernel
section
variable {p : Program} {l : Launch} {e : Env} {R : Room} {s : State} {m₀ : MethodId} {args : Array Value} {below : List Frame} {meth : Method} {c : Code} {W : State} {locs : List Loc} {cells slots : Nat}
set_option maxHeartbeats 2000000 in
theorem ctorN (X : Stand p l e R s m₀ args below meth c W locs cells slots) (hexec : p.tables.exec = Jvm.exec) (htr : e.platform.stackTraces = false)
    (hown : s.vm.findClass RX5 = some m₀.cls)
    (h : ∀ a ∈ atN, a.before args s = true)
    (hlocs : ∀ x ∈ locs, ∀ cell, s.heap[x.base]? = some cell → cell.vm.isStatics = false)
    {a : Addr} {cX : ClassId} {kX : Class} (hfoundX : s.vm.findClass exE = some cX) (hkX : s.vm.classes[cX]? = some kX) (hcell : W.heap[a]? = some (freshCell cX kX)) (hnew : s.heap.size ≤ a)
    {msg : Value} (hmsg : msg.isRef = true)
    {g : JFrame} (hg : g.method = m₀) (hsize : g.locals.size = c.maxLocals) (hlocked : g.locked = none) (hentered : g.entered = []) {rest : List Value} (hstack : g.stack = msg :: .ref a :: .ref a :: rest)
    (hd6 : decode c.code g.pc = .ok (.invokespecial 109, 3)) (hd9 : decode c.code (g.pc + 3) = .ok (.athrow, 1)) (hout : ∀ x ∈ c.exceptionTable.toList, covers x (g.pc + 3) = false)
    (hRframes : 5 < R.frames) (hRlocals : 2 * g.monitorRoom + ((Value.ref a :: rest).map fun v => v.category).sum + (13 * 3 + 42) ≤ R.locals) (hlocks : meth.locks = false) :
    ∃ (U : State) (L9 : List Loc), Steps p.tables e below (W.setTop g) U ∧ U.status = .running ∧ Ended U below (.threw a) ∧ s.WarmedH U.vm ∧ s.sameButNew ({ U with vm := s.vm } : State) (locs ++ L9) cells slots ∧ (∀ z ∈ L9, z.base = a) ∧
      ∃ ce, U.heap[a]? = some ce ∧ s.vm.findClass exE = some ce.cls ∧ ce.vm = .none := by
  have howns : e.platform.frameOwnsMonitors = true := by rw [X.admits.platform]
  have hfin : e.platform.finalization = false := by rw [X.admits.platform]
  have hpl : e.platform.magicAccessors = ({} : Platform).magicAccessors := by rw [X.admits.platform]
  have h1 : ∀ x ∈ Bundle.throwableAtoms, x.before args s = true := fun x hx => h x (List.mem_append_left _ hx)
  have h2 : ∀ x ∈ Bundle.throwableSAtoms, x.before args s = true := fun x hx => h x (List.mem_append_right _ (List.mem_append_left _ hx))
  have h3 : ∀ x ∈ Bundle.passSAtoms exE rtX 13 bN, x.before args s = true := fun x hx => h x (List.mem_append_right _ (List.mem_append_right _ (List.mem_append_left _ hx)))
  have h4 : ∀ x ∈ Bundle.chainSAtoms rtX ["java/lang/Exception"], x.before args s = true := fun x hx => h x (List.mem_append_right _ (List.mem_append_right _ (List.mem_append_right _ (List.mem_append_left _ hx))))
  have h5 : ∀ x ∈ tlN, x.before args s = true := fun x hx => h x (List.mem_append_right _ (List.mem_append_right _ (List.mem_append_right _ (List.mem_append_right _ hx))))
  have a' : ∀ x, x ∈ tlN → x.holds args s none s [] = true := fun x hx => h5 x hx
  obtain ⟨T, Z0, L, -, Y⟩ := ThrowableC.of_atoms (args := args) howns hfin hpl h1
  obtain ⟨Z, M, LZ, LM, hnZ⟩ := Init0T.ofS_atoms (args := args) hpl L Y h2
  obtain ⟨P1, L1, hP1m, hP1s⟩ := PassC.ofS_atoms (args := args) (s := s) hpl (X := exE) (Y := rtX) (by decide) (by decide) bN_0 bN_1 bN_2 bN_5 h3
  obtain ⟨P2, Ps, hlen, L2, hL, hP2m, hlink2, hlink⟩ := Bundle.chainS (args := args) hpl hnZ ["java/lang/Exception"] rtX (by decide +kernel) (fun n hn => by rw [List.mem_singleton.mp hn]; decide +kernel) h4
  have hlink1 : P1.sup = P2.m := Option.some.inj (hP1s.symm.trans hP2m)
  have hfound : s.vm.findClass exE = some P1.m.cls := findClass_of_methodNamed hP1m
  cases Option.some.inj (hfoundX.symm.trans hfound)
  obtain ⟨c1, kX', hc1, hk, hord, -, -, hn6⟩ := Cond.instantiable_spec (a' (.instantiable exE 6) (by simp [tlN]))
  cases Option.some.inj (hc1.symm.trans hfound)
  cases Option.some.inj (hkX.symm.trans hk)
  have hsel0 : selectMethod e.platform s.vm P1.m.cls T.fill0 = .method T.fill0 := by
    obtain ⟨c2, r2, m2, q1, q2, q3, q4, -⟩ := Cond.selects_spec (a' (.selects exE Bundle.tFill0 Bundle.tFill0) (by simp [tlN]))
    cases Option.some.inj (q1.symm.trans hfound)
    cases Option.some.inj (q2.symm.trans (State.methodFound?_of_named Y.fill0 (by decide)))
    cases Option.some.inj (q3.symm.trans Y.fill0)
    rw [Launch.admits_selectMethod X.admits]; exact q4
  have hselF : selectMethod e.platform s.vm P1.m.cls T.fill = .method T.fill := by
    obtain ⟨c2, r2, m2, q1, q2, q3, q4, -⟩ := Cond.selects_spec (a' (.selects exE Bundle.tFill Bundle.tFill) (by simp [tlN]))
    cases Option.some.inj (q1.symm.trans hfound)
    cases Option.some.inj (q2.symm.trans (State.methodFound?_of_named Y.fill (by decide)))
    cases Option.some.inj (q3.symm.trans Y.fill)
    rw [Launch.admits_selectMethod X.admits]; exact q4
  obtain ⟨cellS0, hcS0, hiss⟩ := Y.statics
  obtain ⟨u0, hu0⟩ := Cond.staticRefV Y.unassigned L.unassignedStatic L.statics hcS0 hiss (a' (.isRef (.static Bundle.tN "UNASSIGNED_STACK" Bundle.steD)) (by simp [tlN]))
  obtain ⟨sen, hsen⟩ := Cond.staticRefV Y.sentinel L.sentinelStatic L.statics hcS0 hiss (a' (.isRef (.static Bundle.tN "SUPPRESSED_SENTINEL" Bundle.listD)) (by simp [tlN]))
  obtain ⟨ci198, i198, fB, hk198, hg198, ha198, hsB, -, hnB, htB, hffB⟩ := Cond.ownField (t := .object "java/lang/Object") Y.found L.cls (by decide +kernel) (a' (.fieldLink Bundle.tN 198 Bundle.tN "backtrace" "Ljava/lang/Object;") (by simp [tlN])) (a' (.lays Bundle.tN Bundle.tN "backtrace" "Ljava/lang/Object;") (by simp [tlN])) e.platform hpl
  obtain ⟨cellS, hcS', heS, -, hkeep⟩ := X.same.2.2.2.2.2 T.aS cellS0 hcS0
  have hcellS : W.heap[T.aS]? = some cellS := hcS'
  have hout' : ∀ i, (⟨T.aS, i⟩ : Loc) ∉ locs := fun i hmem => by
    have := hlocs _ hmem cellS0 hcS0
    rw [hiss] at this; cases this
  have hknownS : cellS.vm ≠ .unknown := by
    rw [heS]; intro hu
    rw [show cellS0.vm = .unknown from hu] at hiss
    cases hiss
  have hneS : T.aS ≠ a := Nat.ne_of_lt (Nat.lt_of_lt_of_le (Array.getElem?_eq_some_iff.mp hcS0).1 hnew)
  obtain ⟨iM, hffM⟩ := Y.msg
  obtain ⟨tyC, dC, hdC, hdnC⟩ := Cond.laysAt hfound hk Y.cause (a' (.lays exE Bundle.tN "cause" "Ljava/lang/Throwable;") (by simp [tlN]))
  obtain ⟨tyS, dS, hdS, hdnS⟩ := Cond.laysAt hfound hk Y.stack (a' (.lays exE Bundle.tN "stackTrace" Bundle.steD) (by simp [tlN]))
  obtain ⟨tyP, dP, hdP, hdnP⟩ := Cond.laysAt hfound hk Y.supp (a' (.lays exE Bundle.tN "suppressedExceptions" Bundle.listD) (by simp [tlN]))
  obtain ⟨tyM, dM, hdM, hdnM⟩ := Cond.laysAt hfound hk hffM (a' (.lays exE Bundle.tN "detailMessage" "Ljava/lang/String;") (by simp [tlN]))
  obtain ⟨tyB, dB, hdB, hdnB⟩ := Cond.laysAt hfound hk hffB (a' (.lays exE Bundle.tN "backtrace" "Ljava/lang/Object;") (by simp [tlN]))
  have bC := Cond.laysApart hdB hdC hdnB hdnC (by rw [hnB, Y.causeName]; decide)
  have bS := Cond.laysApart hdB hdS hdnB hdnS (by rw [hnB, Y.stackName]; decide)
  have bP := Cond.laysApart hdB hdP hdnB hdnP (by rw [hnB, Y.suppName]; decide)
  have hskip : SkipFacts T e.platform s (fun u => u) u0 ((preparedCellV T.toThrowableT (freshCell P1.m.cls kX) a u0 sen).withEntry W.cur) :=
    ⟨{ ci198 := ci198, i198 := i198, fBack := fB }, ⟨hk198, hg198, ha198, hsB⟩, by
      have := fresh_default (c := P1.m.cls) tyB
      rw [htB] at this
      simpa [preparedCellV, Cell.setSlot, Cell.withEntry, Array.getElem?_setIfInBounds, bC, bS, bP, bC.symm, bS.symm, bP.symm, defaultValue] using this, fun _ _ => rfl⟩
  obtain ⟨tm, methC, cdC, kC, vm₁, hnC, -, -, -, -, -, -, -, hW₁, st1⟩ := Steps.initColdS (tb := p.tables) (e := e) (below := below) (s := s) (U := W) X.here hexec X.warmed hpl hown (t := Bundle.initS exE) rfl rfl (by decide)
    (a' (.methodLink RX5 109 (Bundle.initS exE)) (by simp [tlN])) (h3 (.instanceMethod (Bundle.initS exE)) (by simp [Bundle.passSAtoms])) (bytes := bN) (maxL := 2) (h3 (.code (Bundle.initS exE) bN 2 none) (by simp [Bundle.passSAtoms]))
    (f := g) hg (a := a) (msg := msg) (rest := .ref a :: rest) hstack hd6
  cases Option.some.inj (hnC.symm.trans hP1m)
  have X₁ := X.noted hW₁
  obtain ⟨vm₂, X₂, st2⟩ := X₁.ctorMessageOffV hexec (g := { g with stack := .ref a :: rest }) hg hsize T L Z LZ M LM (P1 :: P2 :: Ps)
    (fun P hP => by
      rcases List.mem_cons.mp hP with rfl | hP
      · exact L1
      · rcases List.mem_cons.mp hP with rfl | hP
        · exact L2
        · exact hL P hP) ⟨hlink1, hlink2, hlink⟩ (u0 := u0) (sen := sen) (self := a) hmsg (cell := freshCell P1.m.cls kX) (cellS := cellS)
    hcell (fun _ => by simp) (by simp) rfl rfl hsel0 hselF hcellS hneS hknownS (by rw [hkeep _ (hout' _)]; exact hu0) (by rw [hkeep _ (hout' _)]; exact hsen)
    (Takes.of_laid hk hord tyC (by rw [Y.causeType]; rfl)) (Takes.of_laid hk hord tyS (by rw [Y.stackType]; exact fits_refV_array _ u0)) (Takes.of_laid hk hord tyP (by rw [Y.suppType]; exact fits_refV_object _ sen))
    (Takes.of_laid hk hord tyM (by rw [Y.msgType]; exact fits_refV_object _ ⟨msg, hmsg⟩)) Y.objLocals hskip htr [] hd6
    (by simp only [List.length_cons, hlen, List.length_nil]; omega) (by simp only [List.length_cons, hlen, List.length_nil]; exact hRlocals)
  obtain ⟨hwalk, hrun, hended, hWU, hsame⟩ := X₂.athrowLeaves hexec (g := { g with stack := .ref a :: rest, pc := g.pc + 3 }) hg hlocked hentered hout (a := a) (rest := rest) rfl hd9 hlocks
  have hlt : a < ((W.setVm vm₁).setVm vm₂).heap.size := (Array.getElem?_eq_some_iff.mp hcell).1
  have hU := heapAt_setCell_self (s := (W.setVm vm₁).setVm vm₂) (plainBareV T.toThrowableT (freshCell P1.m.cls kX) a u0 sen msg) hlt
  refine ⟨_, _, st1 _ (fun acts => ?_), hrun, hended, hWU, hsame, fun z hz => ?_, _, hU, hfound, rfl⟩
  · rw [doInvoke_state]
    exact st2 _ hwalk
  · simp at hz
    rcases hz with rfl | rfl | rfl | rfl | rfl <;> rfl
end
section
variable {p : Program} {l : Launch} {e : Env} {R : Room} {s : State} {m : MethodId} {args : Array Value} {below : List Frame} {meth : Method} {c : Code} {H : Heap} {locs : List Loc} {cells slots : Nat} {Q : State → Prop}
variable {cc : ByteArray} {pc nL : Nat} {ls : Array Slot} {rest : List Value} {D : va_G} {G : Nat → ClassId} {base : Nat} {h h' : Hp} {H0 : Heap}
theorem xgN : ∀ w ∈ (atN.filter vx_no).filter goodWord, w ∈ BW := bw_all [41, 200, 209, 213, 216, 218, 201, 202, 59, 60, 203, 208, 214, 234, 190, 235, 192, 236, 194, 204, 206, 196, 230, 231, 233, 196, 377, 378, 379, 224, 224, 225, 226, 227, 227, 228, 229, 230, 376, 367, 369, 212, 370, 371, 372, 373, 199, 198, 374] (by decide +kernel) (List.all_eq_true.mpr (fun w hw => (List.mem_filter.mp hw).2))
theorem xrN : ∀ w ∈ (atN.filter vx_no).filter (fun w => !goodWord w), w ∈ [Cond.declares (inS "java/lang/RuntimeException"), Cond.declares (inS "java/lang/Exception"), Cond.declares (inS "java/lang/Throwable"), Cond.castable exE exE, Cond.castable exA exA, Cond.castable exS exS] := by decide +kernel
theorem xoN : ∀ w ∈ Cond.classLink RX5 105 exE :: Cond.initialized exE :: atN.filter vx_no, vx_ot w = true := by decide +kernel
theorem s_throwE {mc ms : Nat} {ro : Option Value} {P : Prop} {is : Nat} {text : String} {code : Nat} {rv : Int} (hx : p.tables.exec = Jvm.exec) (hb : c.code = cc) (hml : c.maxLocals = nL) (hlz : ls.size = nL) (hown : s.vm.findClass RX5 = some m.cls) (hts : ∀ w ∈ BW, w.before args s = true) (hE : EV l D G base s) (hM : SM D G base h H) (hS : va_S (Ab base) s.heap H locs) (hout : ∀ x ∈ c.exceptionTable.toList, False) (hlocks : meth.locks = false) (hstr : (is, text) ∈ STR)
    (d0 : decode cc pc = .ok (.new 105, 3)) (d3 : decode cc (pc + 3) = .ok (.dup, 1)) (d4 : decode cc (pc + 4) = .ok (.ldc is, 2)) (d6 : decode cc (pc + 6) = .ok (.invokespecial 109, 3)) (d9 : decode cc (pc + 9) = .ok (.athrow, 1))
    (hRf : 5 < R.frames) (hRl : (rest.map fun v => v.category).sum + 82 ≤ R.locals) (hRc : cells + 1 ≤ R.cells) (hRs : slots + 6 ≤ R.slots) (hc : cells + 1 ≤ mc) (hs : slots + 6 ≤ ms) (hrun : some (1, (0 : Int), h) = some (code, rv, h')) : W p l e R s m args below meth c H locs cells slots (vx_MQ below (QRx D G base code ro P h') (XR D G base code h') args s mc ms (Ab base)) (F0 m pc ls rest) := by
  cases hrun
  obtain ⟨hl, ⟨a1, a2, a3⟩, ⟨b1, b2, b3⟩, -, ⟨z1, z2⟩, hst⟩ := hE.2.2.2.2
  obtain ⟨sa, hstr⟩ := hst _ hstr
  have hat : ∀ w ∈ atN.filter vx_no, w.before args s = true := vx_hat (fun w hw => hts w (xgN w hw)) xrN (vx_c (va_Nw.use rfl a1) (vx_c (va_Nw.use rfl a2) (vx_c (va_Nw.use rfl a3) (vx_c (va_Nw.use rfl b1) (vx_c (va_Nw.use rfl b2) (vx_c (va_Nw.use rfl b3) vx_n))))))
  intro T hT X
  have htr : e.platform.stackTraces = false := by rw [X.admits.platform]; exact hl
  have Y := vx_rebase X (R' := { frames := R.frames, locals := R.locals, cells := 1, slots := 6 }) (Nat.le_refl _) (Nat.le_refl _) hRc hRs
  obtain ⟨s', hA⟩ : ∃ z, z = (T.setVm s.vm).setFrames (.invoking m args :: below) := ⟨_, rfl⟩
  rw [← hA] at Y
  have hvm : s'.vm = s.vm := by rw [hA]; rfl
  have hhp : s'.heap = H := by rw [hA]; exact hT
  have hW0 : s.WarmedH s'.vm := by rw [hvm]; exact State.WarmedH.refl s
  have hat' : ∀ w ∈ atN.filter vx_no, w.before args s' = true := fun w hw => vx_ot_at hW0 hvm.symm (xoN w (List.mem_cons_of_mem _ (List.mem_cons_of_mem _ hw))) (hat w hw)
  have hk' : (Cond.classLink RX5 105 exE).before args s' = true := vx_ot_at hW0 hvm.symm (xoN _ List.mem_cons_self) (hts _ kw_366)
  have hini' : (Cond.initialized exE).before args s' = true := vx_ot_at hW0 hvm.symm (xoN _ (List.mem_cons_of_mem _ List.mem_cons_self)) (hts _ kw_48)
  have hU' : vx_Zq Bundle.tN "UNASSIGNED_STACK" Bundle.steD (Ab base) s' s'.heap := by rw [hhp]; exact vx_Zq.moved hW0.alike (z1.kept hS.2.1)
  have hN' : vx_Zq Bundle.tN "SUPPRESSED_SENTINEL" Bundle.listD (Ab base) s' s'.heap := by rw [hhp]; exact vx_Zq.moved hW0.alike (z2.kept hS.2.1)
  have h5 : ∀ w ∈ atN, w.before args s' = true := vx_own hat' (vx_isRefq hU'.1) (vx_isRefq hN'.1) hU'.2.word hN'.2.word
  have hown' : s'.vm.findClass RX5 = some m.cls := by rw [hvm]; exact hown
  have hins : (Cond.instantiable exE 6).before args s' = true := h5 _ (by decide +kernel)
  obtain ⟨vm₁, cX, kX, hfX, hkX, -, -, X₁, st1⟩ := Y.newCold hx (own := RX5) (C := exE) (index := 105) (n := 6) hown' hk' hins hini'
    (g := F0 m pc ls rest) rfl (by rw [hb]; exact d0) (Nat.le_refl _) (Nat.le_refl _)
  generalize hT1 : (T.setVm vm₁).pushCell { cls := cX, slots := kX.instanceTypes.map defaultValue, vm := .none } = T1 at X₁ st1
  have hcat : (Value.ref T.heap.size).category = 1 := rfl
  have hcellA : T1.heap[T.heap.size]? = some (freshCell cX kX) := by rw [← hT1]; exact State.heap_pushCell_size _ _
  have d3' : decode c.code (pc + 3) = .ok (.dup, 1) := by rw [hb]; exact d3
  have d4' : decode c.code (pc + 4) = .ok (.ldc is, 2) := by rw [hb]; exact d4
  have hstr' : vk_R RX5 is text sa s' := vk_R.warm hW0 hstr
  obtain ⟨U, L9, hsteps, hrun, hend, hW, hsame, hL9, ce, hce, hcl0, hcv0⟩ := ctorN X₁ hx htr hown' h5 (fun x hx => nomatch hx) hfX hkX hcellA (by rw [hhp, hT]; exact Nat.le_refl _) (msg := .ref sa) rfl
    (g := { method := m, pc := pc + 6, locals := ls, stack := .ref sa :: .ref T.heap.size :: .ref T.heap.size :: rest, locked := none }) rfl (by show ls.size = _; rw [hml]; exact hlz) rfl rfl (rest := rest) rfl
    (by rw [hb]; exact d6) (by rw [hb]; exact d9) (fun x hx => (hout x hx).elim) hRf (by simp only [List.map_cons, List.sum_cons, hcat]; show 2 * 0 + _ + _ ≤ _; omega) hlocks
  have hsame : s'.sameButNew ({ U with vm := s'.vm } : State) [] (0 + 1) (0 + 6) := hsame.weaken (fun y hy hlt => by
    rw [List.nil_append] at hy
    have := hL9 y hy
    rw [hhp, this, hT] at hlt
    exact absurd hlt (Nat.lt_irrefl _)) (Nat.le_refl _) (Nat.le_refl _)
  obtain ⟨f1, f2⟩ := vx_frame hsame
  rw [hhp] at f1 f2
  have hWs : s.WarmedH U.vm := State.WarmedH.trans hW0 hW
  have hcl : s.vm.findClass exE = some ce.cls := by
    rw [hvm] at hcl0
    exact hcl0
  have hall : s.sameButNew ({ U with vm := s.vm } : State) locs mc ms := by
    subst hA
    obtain ⟨e1, e2⟩ := hsame
    rw [State.setFrames_setFrames] at e1
    have h2 : (T.setVm s.vm).sameButNew ({ U with vm := s.vm } : State) [] (0 + 1) (0 + 6) := ⟨e1, e2⟩
    have h3 := X.same.trans h2
    rw [List.append_nil] at h3
    exact h3.mono hc hs
  have hXR : XR D G base 1 h exE s U := by
    refine ⟨by decide, rfl, ⟨U.heap.size, by rw [← hM.1]; exact f1, hM.ext f1 (fun q hq => f2 q hq (fun z hz => nomatch hz))⟩, Nat.le_trans hS.1 f1, fun q h1 h2 => ?_⟩
    rw [f2 q (Nat.lt_of_lt_of_le h1 hS.1) (fun z hz => nomatch hz)]
    exact hS.2.1 q h1 h2
  refine ⟨U, ?_, .threw T.heap.size, hrun, hend, Or.inr ⟨T.heap.size, rfl, exE, ce, locs, hXR, hce, hcv0, hcl, hWs, hall, hS.2.2⟩⟩
  refine st1 _ ?_
  show Steps p.tables e below (T1.setTop { method := m, pc := pc + 3, locals := ls, stack := .ref T.heap.size :: rest, locked := none }) _
  jvm_step X₁.here [X₁.here.top, hx, d3', Value.category]
  exact X₁.ldcString hx (own := RX5) (text := text) (index := is) (a := sa) hown' hstr'.1 hstr'.2
    (g := { method := m, pc := pc + 4, locals := ls, stack := .ref T.heap.size :: .ref T.heap.size :: rest, locked := none }) rfl d4' _ hsteps
end
end
