/-! both sides: an object is taken, its state and its mark change -/
section
variable {t : Th} {x b : Nat} {ca la sa : Nat → Nat} {N N' : Mm} {LS FL : Nat → List Nat} {p i l : Nat}
/-- takeFirst, at a slab that has a free object -/
theorem takeFirst_eq {fr : List Nat} (hP : WP N) (hG : WG N) (hS : WS N FL) (kC : KC t ca la N) (kI : KI t sa ca N) (kS : KS t sa N FL) (hp : Sl N p) (hF : FL p = i :: fr) (hE : Ep N N') (h16 : N' 16 = fu (N 16) p (N 16 p + 1)) (h18 : N' 18 = fu (N 18) (U N p i) 2) (h20 : N' 20 = N 20) (hlt : 0 ≤ N 16 p ∧ N 16 p ≤ 1024) : ∃ (t' : Th) (nt : Nat), t_X3_takeFirst t (sa p : Int) = some ((i : Int), t') ∧ KS (tset t' (sa p) (gf 3 9) i (-2)) sa N' (lu FL p fr) ∧ Fe t t' [gf 3 3, gf 3 7, gf 3 8, gf 3 9, gf 3 10] ∧ tC t' = tC t ∧ (∀ a k, tC t a = 1 + 1 → tI t' a k = tI t a k ∧ tL t' a k = tL t a k) ∧ tV t' (sa p) (gf 3 3) 0 = N 16 p + 1 ∧ (tV t' (sa p) (gf 3 7) 0 = (nt : Int) ∧ i < nt) ∧ 0 ≤ tI t' (sa p) 9 ∧ i < tL t' (sa p) 9 := by
  obtain ⟨k1, c1, c2, c3, c4⟩ := sl_c hG kC kI hp
  obtain ⟨d1, d2, d3⟩ := sl_pc hP hG hp
  obtain ⟨s1, s2, s3, s4, s5, s6⟩ := hS p hp
  have hff := ff_eq hG hP kC kI kS hp
  rw [hF] at hff s1 s2 s3 s6
  have hff' : t_X3_firstFree t (sa p : Int) = some ((i : Int), t) := hff
  have hnd := List.nodup_cons.mp s2
  have hi : i < fN N (wN N p) := s3 i List.mem_cons_self
  have ew : wr (N 16 p + 1) = N 16 p + 1 := wr_eq ⟨by omega, by omega⟩
  obtain ⟨a1, nt, L, cl, b1, b2, b3, b4, b5, b6, b7, b8, b9, b10, b11⟩ := kS p hp
  have oth : ∀ (t1 : Th), (∀ a j n, a ≠ sa p → tV t1 a j n = tV t a j n) → (∀ a k, a ≠ sa p → tI t1 a k = tI t a k ∧ tL t1 a k = tL t a k) → KSp (tset t1 (sa p) (gf 3 9) i (-2)) sa N' (lu FL p fr) p → KS (tset t1 (sa p) (gf 3 9) i (-2)) sa N' (lu FL p fr) := fun t1 hV hIL hp1 q hq => by
    rw [ep_sl hE] at hq
    by_cases e : q = p
    · rw [e]; exact hp1
    · have hsa : sa q ≠ sa p := fun z => e (sa_inj kI hq hp z)
      refine ksp_congr (kS q hq) (fun j n => ?_) (fun k => (hIL _ k hsa).1) (fun k => (hIL _ k hsa).2) (by rw [h16, fu_ne e]) (lu_ne e) (ep_w hE q) (ep_f hE _) (fun j => ep_u hE q j) (by rw [hE.2.2.2.2.2.2.1]) (fun j hj => ?_) (fun j hj => by rw [h20])
      · rw [tV_set, if_neg (fun z => hsa z.1)]; exact hV _ _ _ hsa
      · rw [h18, fu_ne (u_ne hP hG hp hi hq hj (fun z => e z.1))]
  unfold t_X3_takeFirst t_X3_takeFirst_j81
  rw [q_ck c1, Option.bind_some, hff', Option.bind_some]
  dsimp only
  rw [q_ck c1, Option.bind_some]
  cases cl with
  | cons y r =>
    have hy : y = i := by rw [hF] at b1; exact (List.cons.inj b1).1.symm
    have hfr : fr = r ++ List.range' nt (fN N (wN N p) - nt) := by rw [hF] at b1; exact (List.cons.inj b1).2
    subst hy
    have hnt : y < nt := b8 y List.mem_cons_self
    have hyr : y ∉ r := fun q => hnd.1 (by rw [hfr]; exact List.mem_append_left _ q)
    rw [wt_y c1 b3 (by omega), Option.bind_some]
    dsimp only
    rw [if_neg (by decide), q_rf 9 c1, Option.bind_some, q_al c1 b5.1 (by omega), Option.bind_some, b7.1, q_pt 8 _ c1, Option.bind_some, q_gt 3 (show tC (tset t (sa p) (gf 3 8) 0 (hdA r)) (sa p) = 3 + 1 from c1), Option.bind_some, tV_set, if_neg (fun q => by have := q.2.1; revert this; decide), a1, ew, q_pt 3 _ (show tC (tset t (sa p) (gf 3 8) 0 (hdA r)) (sa p) = 3 + 1 from c1), Option.bind_some]
    refine ⟨_, nt, rfl, ?_, fe_sub (fe_trans (fe_set _ _ _ _ _) (fe_set _ _ _ _ _)) (by decide), rfl, fun _ _ _ => ⟨rfl, rfl⟩, ?_, ⟨?_, hnt⟩, b5.1, show y < tL t (sa p) 9 by omega⟩
    · refine oth _ (fun a j n h => ?_) (fun _ _ _ => ⟨rfl, rfl⟩) ⟨?_, nt, L, r, ?_, ?_, ?_, ?_, b5, b6, ?_, fun j hj => b8 j (List.mem_cons_of_mem _ hj), fun j hj hjc => ?_, fun j hj => ?_, fun j h1 h2 => ?_⟩
      · rw [tV_set, if_neg (fun q => h q.1), tV_set, if_neg (fun q => h q.1)]
      · rw [tV_set, if_neg (fun q => by have := q.2.1; revert this; decide), tV_set, if_pos ⟨rfl, rfl, rfl⟩, h16, fu_same]
      · rw [lu_same, ep_w hE, ep_f hE]; exact hfr
      · rw [ep_w hE, ep_f hE]; exact b2
      · rw [tV_set, if_neg (fun q => by have := q.2.1; revert this; decide), tV_set, if_neg (fun q => by have := q.2.1; revert this; decide), tV_set, if_neg (fun q => by have := q.2.1; revert this; decide)]
        exact b3
      · rw [tV_set, if_neg (fun q => by have := q.2.1; revert this; decide), tV_set, if_neg (fun q => by have := q.2.1; revert this; decide), tV_set, if_pos ⟨rfl, rfl, rfl⟩]
      · refine chT_congr r (fun j hj => ?_) b7.2
        rw [tV_set, if_neg (fun q : sa p = sa p ∧ gf 3 9 = gf 3 9 ∧ j = y => hyr (q.2.2 ▸ hj)), tV_set, if_neg (fun q => by have := q.2.1; revert this; decide), tV_set, if_neg (fun q => by have := q.2.1; revert this; decide)]
      · rw [tV_set, ep_u hE, h18]
        by_cases ej : j = y
        · subst ej
          rw [if_pos ⟨rfl, rfl, rfl⟩, fu_same, if_pos rfl]
        · rw [if_neg (fun q => ej q.2.2), tV_set, if_neg (fun q => by have := q.2.1; revert this; decide), tV_set, if_neg (fun q => by have := q.2.1; revert this; decide), fu_ne (u_ne hP hG hp hi hp (by omega) (fun z => ej z.2))]
          exact b9 j hj (fun z => by rcases List.mem_cons.mp z with z | z; exact ej z; exact hjc z)
      · rw [tV_set, if_neg (fun q => by have := q.2.1; revert this; decide), tV_set, if_neg (fun q => by have := q.2.1; revert this; decide), tV_set, if_neg (fun q => by have := q.2.1; revert this; decide), ep_u hE, h20]
        exact b10 j hj
      · rw [ep_w hE, ep_f hE] at h2
        rw [ep_u hE, h20, ep_w hE, hE.2.2.2.2.2.2.1]; exact b11 j h1 h2
    · rw [tV_set, if_pos ⟨rfl, rfl, rfl⟩]
    · rw [tV_set, if_neg (fun q => by have := q.2.1; revert this; decide), tV_set, if_neg (fun q => by have := q.2.1; revert this; decide)]
      exact b3
  | nil =>
    obtain ⟨m, hm⟩ : ∃ m, fN N (wN N p) - nt = m + 1 := by
      cases hq : fN N (wN N p) - nt with
      | zero => rw [hF, hq] at b1; cases b1
      | succ m => exact ⟨m, rfl⟩
    have hb : i :: fr = nt :: List.range' (nt + 1) m := by rw [← hF, b1, hm]; rfl
    have hin : i = nt := (List.cons.inj hb).1
    have hfr : fr = List.range' (nt + 1) m := (List.cons.inj hb).2
    subst hin
    obtain ⟨t1, L1, o1, o2, o3, o4, o5, o6, o7, o8, o9⟩ := room_eq (t := t) (a := sa p) (f := fN N (wN N p)) (nt := i) (L := L) (o := ca (wN N p)) c1 c2 k1.1 (by rw [k1.2.1.2.2.2.2.2.2.1, d1.2.2.2.1.1]) (fn_le d1).1 b3 hi b2.2 b5 b6
    have hC1 : tC t1 (sa p) = 3 + 1 := by rw [o7]; exact c1
    have hK1 : tC t1 (ca (wN N p)) = 1 + 1 := by rw [o7]; exact k1.1
    have g7 : tV t1 (sa p) (gf 3 7) 0 = (i : Int) := by rw [fe_v o9 c1 (by decide)]; exact b3
    have g0 : tV t1 (sa p) (gf 3 0) 0 = (ca (wN N p) : Int) := by rw [fe_v o9 c1 (by decide)]; exact c2
    have g3 : tV t1 (sa p) (gf 3 3) 0 = N 16 p := by rw [fe_v o9 c1 (by decide)]; exact a1
    have g8 : tV t1 (sa p) (gf 3 8) 0 = -1 := by rw [fe_v o9 c1 (by decide)]; exact b4
    have g4 : tV t1 (ca (wN N p)) (gf 1 4) 0 = N 8 (wN N p) := by rw [fe_v o9 k1.1 (by decide)]; exact k1.2.1.2.2.2.2.1
    rw [wt_n c1 b3 (by omega), Option.bind_some]
    dsimp only
    rw [if_pos rfl, if_neg (by omega), q_ck c1, Option.bind_some, o1, Option.bind_some]
    dsimp only
    rw [q_rf 10 hC1, Option.bind_some, q_gt 7 hC1, Option.bind_some, g7, q_gt 0 hC1, Option.bind_some, g0, q_gt 4 hK1, Option.bind_some, g4, q_as hC1 o4.1 (by omega), Option.bind_some, q_gt 7 (show tC (tset t1 (sa p) (gf 3 10) i (N 8 (wN N p))) (sa p) = 3 + 1 from hC1), Option.bind_some, tV_set, if_neg (fun q => by have := q.2.1; revert this; decide), g7, w1 (by have := (fn_le d1).1; omega), q_pt 7 _ (show tC (tset t1 (sa p) (gf 3 10) i (N 8 (wN N p))) (sa p) = 3 + 1 from hC1), Option.bind_some, q_gt 3 (show tC (tset (tset t1 (sa p) (gf 3 10) i (N 8 (wN N p))) (sa p) (gf 3 7) 0 ((i + 1 : Nat) : Int)) (sa p) = 3 + 1 from hC1), Option.bind_some, tV_set, if_neg (fun q => by have := q.2.1; revert this; decide), tV_set, if_neg (fun q => by have := q.2.1; revert this; decide), g3, ew, q_pt 3 _ (show tC (tset (tset t1 (sa p) (gf 3 10) i (N 8 (wN N p))) (sa p) (gf 3 7) 0 ((i + 1 : Nat) : Int)) (sa p) = 3 + 1 from hC1), Option.bind_some]
    refine ⟨_, i + 1, rfl, ?_, fe_sub (fe_trans (fe_trans (fe_trans o9 (fe_set _ _ _ _ _)) (fe_set _ _ _ _ _)) (fe_set _ _ _ _ _)) (by decide), o7, fun a k ha => o8 a k (fun q => by rw [q, c1] at ha; omega), ?_, ⟨?_, by omega⟩, o3.1, show i < tL t1 (sa p) 9 by omega⟩
    · refine oth _ (fun a j n h => ?_) (fun a k h => o8 a k h) ⟨?_, i + 1, L1, [], ?_, ?_, ?_, ?_, o3, o4, trivial, fun j hj => (by cases hj), fun j hj hjc => ?_, fun j hj => ?_, fun j h1 h2 => ?_⟩
      · rw [tV_set, if_neg (fun q => h q.1), tV_set, if_neg (fun q => h q.1), tV_set, if_neg (fun q => h q.1)]
        exact o6 a j n (fun q => h q.1)
      · rw [tV_set, if_neg (fun q => by have := q.2.1; revert this; decide), tV_set, if_pos ⟨rfl, rfl, rfl⟩, h16, fu_same]
      · rw [lu_same, ep_w hE, ep_f hE, hfr]
        have : fN N (wN N p) - (i + 1) = m := by omega
        rw [this]; rfl
      · rw [ep_w hE, ep_f hE]; exact ⟨by omega, by omega, by omega, by omega⟩
      · rw [tV_set, if_neg (fun q => by have := q.2.1; revert this; decide), tV_set, if_neg (fun q => by have := q.2.1; revert this; decide), tV_set, if_pos ⟨rfl, rfl, rfl⟩]
      · rw [tV_set, if_neg (fun q => by have := q.2.1; revert this; decide), tV_set, if_neg (fun q => by have := q.2.1; revert this; decide), tV_set, if_neg (fun q => by have := q.2.1; revert this; decide), tV_set, if_neg (fun q => by have := q.2.1; revert this; decide)]
        exact g8
      · rw [tV_set, ep_u hE, h18]
        by_cases ej : j = i
        · subst ej
          rw [if_pos ⟨rfl, rfl, rfl⟩, fu_same, if_pos rfl]
        · rw [if_neg (fun q => ej q.2.2), tV_set, if_neg (fun q => by have := q.2.1; revert this; decide), tV_set, if_neg (fun q => by have := q.2.1; revert this; decide), tV_set, if_neg (fun q => by have := q.2.1; revert this; decide), fu_ne (u_ne hP hG hp hi hp (by omega) (fun z => ej z.2)), (o5 j (by omega)).1]
          exact b9 j (by omega) (fun z => by cases z)
      · rw [tV_set, if_neg (fun q => by have := q.2.1; revert this; decide), tV_set, if_neg (fun q => by have := q.2.1; revert this; decide), tV_set, if_neg (fun q => by have := q.2.1; revert this; decide), ep_u hE, h20, tV_set]
        by_cases ej : j = i
        · subst ej
          rw [if_pos ⟨rfl, rfl, rfl⟩, b11 j (by omega) hi]
        · rw [if_neg (fun q => ej q.2.2), (o5 j (by omega)).2]
          exact b10 j (by omega)
      · rw [ep_w hE, ep_f hE] at h2
        rw [ep_u hE, h20, ep_w hE, hE.2.2.2.2.2.2.1]; exact b11 j (by omega) h2
    · rw [tV_set, if_pos ⟨rfl, rfl, rfl⟩]
    · rw [tV_set, if_neg (fun q => by have := q.2.1; revert this; decide), tV_set, if_pos ⟨rfl, rfl, rfl⟩]
/-- the first free object of the first slab of a row is taken on both sides, and lives -/
theorem take_pair {r : List Nat} (hW : WW N LS FL) (hK : KK t x b ca la sa N LS FL) (hl : l < 24) (hLl : LS l = p :: r) (hw : wh N p ≠ 0) : ∃ (i : Nat) (N' : Mm) (t2 : Th) (nt : Nat) (LS' FL' : Nat → List Nat), Sl N p ∧ wN N p = l / 3 ∧ i < fN N (wN N p) ∧ N 18 (U N p i) = 1 ∧ g_X6_fromSlabs_j62 N (l : Int) = some ((U N p i : Int), N') ∧ t_X5_takeFromSlabs_j34 t (ca (l / 3) : Int) (sa p : Int) = some (((8 * U N p i : Nat) : Int), t2) ∧ WW (mup N' 18 (U N p i) 2) LS' FL' ∧ KK (tset t2 (sa p) (gf 3 9) i (-2)) x b ca la sa (mup N' 18 (U N p i) 2) LS' FL' ∧ (mup N' 18 (U N p i) 2) 18 = fu (N 18) (U N p i) 2 ∧ (∀ b, b ≠ 16 → b ≠ 17 → b ≠ 18 → b ≠ 19 → b ≠ 21 → b ≠ 22 → (mup N' 18 (U N p i) 2) b = N b) ∧ Ep N (mup N' 18 (U N p i) 2) ∧ Fe t t2 [gf 3 3, gf 3 4, gf 3 5, gf 3 6, gf 3 7, gf 3 8, gf 3 9, gf 3 10, gf 4 0] ∧ tC t2 = tC t ∧ (∀ a k, tC t a = 1 + 1 → tI t2 a k = tI t a k ∧ tL t2 a k = tL t a k) ∧ (tV t2 (sa p) (gf 3 7) 0 = (nt : Int) ∧ i < nt) ∧ 0 ≤ tI t2 (sa p) 9 ∧ i < tL t2 (sa p) 9 := by
  obtain ⟨hP, hB, hG, hS, hZ, hR⟩ := hW
  obtain ⟨kH, kB, kC, kV, kN', kI, kS, kL⟩ := hK
  obtain ⟨i, fr, N', n0, hp, hwl0, hi, n1, n2, n3, n4, n5, n6, n7, n8⟩ := takeRow_eq hP hG hS hZ hR hl hLl hw
  obtain ⟨k1, c1, c2, c3, c4⟩ := sl_c hG kC kI hp
  obtain ⟨s1, s2, s3, s4⟩ := ws_b hP hG hp (hS p hp)
  have hst : N 18 (U N p i) = 1 := by
    rcases (hS p hp).2.2.2.2.2 i hi with ⟨_, z⟩ | ⟨z, _⟩
    · exact z
    · exact absurd (by rw [n0]; exact List.mem_cons_self) z
  have hlen : N 16 p < (fN N (wN N p) : Int) := by
    have := (hS p hp).1
    rw [n0, List.length_cons] at this
    omega
  generalize hN2 : mup N' 18 (U N p i) 2 = N2 at n2 n3 n4 n5 n6 n7 n8
  have e20 : N2 20 = N 20 := n4 20 (by decide) (by decide) (by decide) (by decide) (by decide) (by decide)
  have e1 : N2 1 = N 1 := n4 1 (by decide) (by decide) (by decide) (by decide) (by decide) (by decide)
  have hwl := wh_lt (N := N) (p := p)
  have hwl' := wh_lt (N := N2) (p := p)
  have g2 := (hG.2 p hp).2.1
  have hv := (hG.2 p hp).2.2.1
  have hGL := wr_gl hR
  have hpl : p ∈ LS l := by rw [hLl]; exact List.mem_cons_self
  have el : l / 3 = wN N p := by omega
  obtain ⟨t1, nt, q1, q2, q3, q4, q5, q6, q7, q8, q9⟩ := takeFirst_eq hP hG hS kC kI kS hp n0 n5 n2 n3 e20 ⟨s1, s3⟩
  have kI1 := ki_fe q3 (by decide) (by decide) (by decide) kI
  have kC1 : KC t1 ca la N := kc_fe q3 (kcj _ (by decide)) (fun k _ _ a ci h1 h2 => q5 a k (by rw [h1, h2])) kC
  have kL1 := kl_fe q3 (by decide) (by decide) (by decide) (by decide) kC kI (lsm hGL) kL
  have hkd : t_X3_kind t1 (sa p : Int) = some ((wh N2 p : Int), t1) := by
    have hs16 : N2 16 p = N 16 p + 1 := by rw [n2, fu_same]
    have := kd_eq hP hG kC1 kI1 hp (N2 16 p) (by rw [q6, hs16]) (by omega)
    rw [this]
    unfold wh
    rw [ep_w n5, n5.2.2.2.2.2.2.2.2.1]
    repeat' split
    all_goals rfl
  obtain ⟨t2, r1, r2, r3, r4, r5, r6, r7⟩ := relist_eq (l := l) (c := wN N p) (w := wh N2 p) kC1 kI1 kL1 hGL hl el hwl' hv hpl hkd
  have kI2 := ki_fe r3 (by decide) (by decide) (by decide) kI1
  have kC2 := kc_same r3 (kcj _ (by decide)) r5 r6 kC1
  have c12 := (kI2 p hp).1
  have f3 : Fe t2 (tset t2 (sa p) (gf 3 9) i (-2)) [gf 3 9] := fe_set _ _ _ _ _
  have kI3 := ki_fe f3 (by decide) (by decide) (by decide) kI2
  have kC3 := kc_same f3 (kcj _ (by decide)) rfl rfl kC2
  have ff : Fe t t2 [gf 3 3, gf 3 4, gf 3 5, gf 3 6, gf 3 7, gf 3 8, gf 3 9, gf 3 10, gf 4 0] := fe_sub (fe_trans q3 r3) (by decide)
  refine ⟨i, N', t2, nt, mvL LS p l (3 * wN N p + wh N2 p), lu FL p fr, hp, el.symm, hi, hst, n1, ?_, ?_, ?_, ?_, ?_, ?_, ff, r4.trans q4, ?_, ⟨?_, q7.2⟩, ?_, ?_⟩
  · unfold t_X5_takeFromSlabs_j34 t_X5_takeFromSlabs_j64
    rw [el, if_pos (by omega), q_ck c1, Option.bind_some, q1, Option.bind_some]
    dsimp only
    rw [q_ck (kC1.1 _ hv).1, Option.bind_some, r1, Option.bind_some]
    dsimp only
    rw [if_pos (by omega), q_ck c12, Option.bind_some, bo_eq hP hG kC2 kI2 hp hi, Option.bind_some]
  · rw [hN2]
    exact ⟨ep_p n5 (n4 12 (by decide) (by decide) (by decide) (by decide) (by decide) (by decide)) (n4 13 (by decide) (by decide) (by decide) (by decide) (by decide) (by decide)) hP, by unfold WB; rw [e1, n5.1]; exact hB, ep_g n5 hG, n6, n7, n8⟩
  · rw [hN2]
    refine ⟨?_, ?_, ?_, ?_, ?_, ?_, ?_, ?_⟩
    · exact kh_ep n5 (kh_fe f3 (by decide) (by decide) (by decide) (by decide) (kh_fe ff (by decide) (by decide) (by decide) (by decide) kH))
    · exact kb_ep n5 e1 (kb_fe f3 (by decide) (by decide) (kb_fe ff (by decide) (by decide) kB))
    · exact kc_ep n5 kC3
    · exact kv_ep n5 (n4 12 (by decide) (by decide) (by decide) (by decide) (by decide) (by decide)) (n4 13 (by decide) (by decide) (by decide) (by decide) (by decide) (by decide)) (kv_fe f3 (by decide) (by decide) kC2 (kv_fe ff (by decide) (by decide) kC kV))
    · exact kn_ep n5 (kn_mv hGL hl hpl (by omega) (kn_fe f3 (by decide) kC2 (kn_fe ff (by decide) kC kN')))
    · exact ki_ep n5 kI3
    · have f4 : Fe t1 (tset t1 (sa p) (gf 3 9) i (-2)) [gf 3 9] := fe_set _ _ _ _ _
      exact ks_fe (fe_set2 r3 (sa p) (gf 3 9) i (-2)) (by decide) (by decide) (by decide) (by decide) (by decide) (ki_ep n5 (ki_fe f4 (by decide) (by decide) (by decide) kI1)) q2
    · have hm : ∀ l', l' < 24 → ∀ q, q ∈ mvL LS p l (3 * wN N p + wh N2 p) l' → Sl N q := by
        intro l' hl' q hq
        have := (n8.2 l' hl').2 q
        rw [ep_sl n5] at this
        exact (this.mp hq).1
      exact kl_ep n5 (kl_fe f3 (by decide) (by decide) (by decide) (by decide) kC2 kI2 hm r2)
  · rw [hN2]; exact n3
  · rw [hN2]; exact n4
  · rw [hN2]; exact n5
  · intro a k ha
    rw [r5, r6]
    exact q5 a k ha
  · rw [fe_v r3 (show tC t1 (sa p) = 3 + 1 from (kI1 p hp).1) (by decide)]; exact q7.1
  · rw [r5]; exact q8
  · rw [r6]; exact q9
/-- one that isn't free changes its state -/
theorem state_pair {v : Int} (hv : v = 2 ∨ v = 3) (hW : WW N LS FL) (hK : KK t x b ca la sa N LS FL) (hp : Sl N p) (hi : i < fN N (wN N p)) (hf : i ∉ FL p) : t_X3_become t (sa p : Int) (i : Int) (if v = 2 then -2 else -3) = some (0, tset t (sa p) (gf 3 9) i (if v = 2 then -2 else -3)) ∧ WW (mup N 18 (U N p i) v) LS FL ∧ KK (tset t (sa p) (gf 3 9) i (if v = 2 then -2 else -3)) x b ca la sa (mup N 18 (U N p i) v) LS FL := by
  obtain ⟨hP, hB, hG, hS, hZ, hR⟩ := hW
  obtain ⟨kH, kB, kC, kV, kN', kI, kS, kL⟩ := hK
  have c1 := (kI p hp).1
  obtain ⟨a1, nt, L, cl, b1, b2, b3, b4, b5, b6, b7, b8, b9, b10, b11⟩ := kS p hp
  obtain ⟨m1, m2⟩ := nf_nt b1 hi hf
  have hE : Ep N (mup N 18 (U N p i) v) := ⟨rfl, rfl, rfl, rfl, rfl, rfl, rfl, rfl, rfl, rfl, rfl, rfl⟩
  have e18 : (mup N 18 (U N p i) v) 18 = fu (N 18) (U N p i) v := by rw [mup_msA, msA_same]
  have f1 := fe_set t (sa p) (gf 3 9) i (if v = 2 then -2 else -3)
  have hGL := wr_gl hR
  refine ⟨bc_eq c1 b3 m1 b5.1 (by omega), ⟨ep_p hE rfl rfl hP, hB, ep_g hE hG, fun q hq => ?_, fun u hu h => ?_, hR⟩, kh_ep hE (kh_fe f1 (by decide) (by decide) (by decide) (by decide) kH), kb_ep hE rfl (kb_fe f1 (by decide) (by decide) kB), kc_ep hE (kc_same f1 (kcj _ (by decide)) rfl rfl kC), kv_ep hE rfl rfl (kv_fe f1 (by decide) (by decide) kC kV), kn_ep hE (kn_fe f1 (by decide) kC kN'), ki_ep hE (ki_fe f1 (by decide) (by decide) (by decide) kI), fun q hq => ?_, kl_ep hE (kl_fe f1 (by decide) (by decide) (by decide) (by decide) kC kI (lsm hGL) kL)⟩
  · have hq' : Sl N q := hq
    obtain ⟨z1, z2, z3, z4, z5, z6⟩ := hS q hq'
    refine ⟨z1, z2, z3, z4, ch_congr hE _ (fun _ _ => rfl) z5, fun j hj => ?_⟩
    rw [ep_u hE, e18]
    by_cases e : q = p ∧ j = i
    · obtain ⟨rfl, rfl⟩ := e
      right
      rw [fu_same]
      exact ⟨hf, hv⟩
    · rw [fu_ne (u_ne hP hG hp hi hq' hj e)]
      exact z6 j hj
  · rw [e18] at h
    by_cases e : u = U N p i
    · exact ⟨p, i, hp, hi, e⟩
    · rw [fu_ne e] at h
      exact hZ u hu h
  · have hq' : Sl N q := hq
    by_cases e : q = p
    · subst e
      refine ⟨?_, nt, L, cl, b1, b2, ?_, ?_, b5, b6, ?_, b8, fun j hj hjc => ?_, fun j hj => ?_, b11⟩
      · rw [tV_set, if_neg (fun q => by have := q.2.1; revert this; decide)]; exact a1
      · rw [tV_set, if_neg (fun q => by have := q.2.1; revert this; decide)]; exact b3
      · rw [tV_set, if_neg (fun q => by have := q.2.1; revert this; decide)]; exact b4
      · refine chT_congr cl (fun j hj => ?_) b7
        rw [tV_set, if_neg (fun z : sa q = sa q ∧ gf 3 9 = gf 3 9 ∧ j = i => m2 (z.2.2 ▸ hj))]
      · rw [tV_set, ep_u hE, e18]
        by_cases ej : j = i
        · subst ej
          rw [if_pos ⟨rfl, rfl, rfl⟩, fu_same]
        · rw [if_neg (fun q => ej q.2.2), fu_ne (u_ne hP hG hp hi hp (by omega) (fun z => ej z.2))]
          exact b9 j hj hjc
      · rw [tV_set, if_neg (fun q => by have := q.2.1; revert this; decide)]; exact b10 j hj
    · have hsa : sa q ≠ sa p := fun z => e (sa_inj kI hq' hp z)
      refine ksp_congr (kS q hq') (fun j n => ?_) (fun _ => rfl) (fun _ => rfl) rfl rfl rfl rfl (fun _ => rfl) rfl (fun j hj => ?_) (fun _ _ => rfl)
      · rw [tV_set, if_neg (fun z => hsa z.1)]
      · rw [e18, fu_ne (u_ne hP hG hp hi hq' hj (fun z => e z.1))]
/-- the mark of a live one changes -/
theorem mark_pair {v : Int} (hW : WW N LS FL) (hK : KK t x b ca la sa N LS FL) (hp : Sl N p) (hi : i < fN N (wN N p)) (hf : i ∉ FL p) : t_X3_changeMark t (sa p : Int) (i : Int) v = some (N 20 (U N p i), tset t (sa p) (gf 3 10) i v) ∧ WW (mup N 20 (U N p i) v) LS FL ∧ KK (tset t (sa p) (gf 3 10) i v) x b ca la sa (mup N 20 (U N p i) v) LS FL := by
  obtain ⟨hP, hB, hG, hS, hZ, hR⟩ := hW
  obtain ⟨kH, kB, kC, kV, kN', kI, kS, kL⟩ := hK
  have c1 := (kI p hp).1
  have hcm := chm_eq (v := v) hG kC kI kS hp hi hf
  obtain ⟨a1, nt, L, cl, b1, b2, b3, b4, b5, b6, b7, b8, b9, b10, b11⟩ := kS p hp
  obtain ⟨m1, m2⟩ := nf_nt b1 hi hf
  have hE : Ep N (mup N 20 (U N p i) v) := ⟨rfl, rfl, rfl, rfl, rfl, rfl, rfl, rfl, rfl, rfl, rfl, rfl⟩
  have e20 : (mup N 20 (U N p i) v) 20 = fu (N 20) (U N p i) v := by rw [mup_msA, msA_same]
  have f1 := fe_set t (sa p) (gf 3 10) i v
  have hGL := wr_gl hR
  refine ⟨hcm, ⟨ep_p hE rfl rfl hP, hB, ep_g hE hG, fun q hq => ?_, hZ, hR⟩, kh_ep hE (kh_fe f1 (by decide) (by decide) (by decide) (by decide) kH), kb_ep hE rfl (kb_fe f1 (by decide) (by decide) kB), kc_ep hE (kc_same f1 (kcj _ (by decide)) rfl rfl kC), kv_ep hE rfl rfl (kv_fe f1 (by decide) (by decide) kC kV), kn_ep hE (kn_fe f1 (by decide) kC kN'), ki_ep hE (ki_fe f1 (by decide) (by decide) (by decide) kI), fun q hq => ?_, kl_ep hE (kl_fe f1 (by decide) (by decide) (by decide) (by decide) kC kI (lsm hGL) kL)⟩
  · have hq' : Sl N q := hq
    obtain ⟨z1, z2, z3, z4, z5, z6⟩ := hS q hq'
    exact ⟨z1, z2, z3, z4, ch_congr hE _ (fun _ _ => rfl) z5, z6⟩
  · have hq' : Sl N q := hq
    by_cases e : q = p
    · subst e
      refine ⟨?_, nt, L, cl, b1, b2, ?_, ?_, b5, b6, ?_, b8, fun j hj hjc => ?_, fun j hj => ?_, fun j h1 h2 => ?_⟩
      · rw [tV_set, if_neg (fun q => by have := q.2.1; revert this; decide)]; exact a1
      · rw [tV_set, if_neg (fun q => by have := q.2.1; revert this; decide)]; exact b3
      · rw [tV_set, if_neg (fun q => by have := q.2.1; revert this; decide)]; exact b4
      · refine chT_congr cl (fun j hj => ?_) b7
        rw [tV_set, if_neg (fun q => by have := q.2.1; revert this; decide)]
      · rw [tV_set, if_neg (fun q => by have := q.2.1; revert this; decide)]; exact b9 j hj hjc
      · rw [tV_set, ep_u hE, e20]
        by_cases ej : j = i
        · subst ej
          rw [if_pos ⟨rfl, rfl, rfl⟩, fu_same]
        · rw [if_neg (fun q => ej q.2.2), fu_ne (u_ne hP hG hp hi hp (by omega) (fun z => ej z.2))]
          exact b10 j hj
      · have h2' : j < fN N (wN N q) := h2
        rw [ep_u hE, e20, fu_ne (u_ne hP hG hp hi hp h2' (fun z => by omega))]
        exact b11 j h1 h2'
    · have hsa : sa q ≠ sa p := fun z => e (sa_inj kI hq' hp z)
      refine ksp_congr (kS q hq') (fun j n => ?_) (fun _ => rfl) (fun _ => rfl) rfl rfl rfl rfl (fun _ => rfl) rfl (fun _ _ => rfl) (fun j hj => ?_)
      · rw [tV_set, if_neg (fun z => hsa z.1)]
      · rw [e20, fu_ne (u_ne hP hG hp hi hq' hj (fun z => e z.1))]
end
