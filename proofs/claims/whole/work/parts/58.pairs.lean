/-! both sides: objects come and go -/
def WW (N : Mm) (LS FL : Nat → List Nat) : Prop := WP N ∧ WB N ∧ WG N ∧ WS N FL ∧ WZ N ∧ WR N LS
def KK (t : Th) (x b : Nat) (ca la sa : Nat → Nat) (N : Mm) (LS FL : Nat → List Nat) : Prop := KH t x b ca sa N ∧ KB t b N ∧ KC t ca la N ∧ KV t ca N ∧ KN t ca N LS ∧ KI t sa ca N ∧ KS t sa N FL ∧ KL t sa la N LS
section
variable {t : Th} {x b : Nat} {ca la sa : Nat → Nat} {N N' : Mm} {LS FL : Nat → List Nat} {p i l : Nat}
theorem kh_ep (hE : Ep N N') (h : KH t x b ca sa N) : KH t x b ca sa N' := by
  unfold KH at *
  simp only [ep_lv hE]
  rw [hE.1, hE.2.1]
  exact h
theorem kb_ep (hE : Ep N N') (h1 : N' 1 = N 1) (h : KB t b N) : KB t b N' := by
  unfold KB at *
  rw [hE.1, h1]
  exact h
theorem kc_ep (hE : Ep N N') (h : KC t ca la N) : KC t ca la N' := by
  unfold KC KCc at *
  simp only [ep_lv hE]
  obtain ⟨e2, e3, e4, e5, e6, e7, e8, e9, e10, e11, e14, e15⟩ := hE
  rw [e5, e6, e7, e8, e9, e10, e11]
  exact h
theorem kv_ep (hE : Ep N N') (h12 : N' 12 = N 12) (h13 : N' 13 = N 13) (h : KV t ca N) : KV t ca N' := by
  unfold KV at *
  simp only [ep_lv hE]
  rw [h12, h13]
  exact h
theorem ki_ep (hE : Ep N N') (h : KI t sa ca N) : KI t sa ca N' := by
  unfold KI at *
  simp only [ep_sl hE, ep_w hE]
  rw [hE.2.2.2.2.2.2.2.2.2.2.2]
  exact h
theorem kl_ep (hE : Ep N N') (h : KL t sa la N LS) : KL t sa la N' LS := by
  unfold KL at *
  simp only [ep_lv hE]
  exact h
theorem kn_ep (hE : Ep N N') (h : KN t ca N LS) : KN t ca N' LS := by
  unfold KN at *
  simp only [ep_lv hE]
  exact h
theorem mv_len {l' c : Nat} (hG : GL N LS) (hl : l < 24) (hp : p ∈ LS l) (h1 : l / 3 = l' / 3) (c : Nat) : ((mvL LS p l l' (3 * c)).length : Int) + ((mvL LS p l l' (3 * c + 1)).length : Int) + ((mvL LS p l l' (3 * c + 2)).length : Int) = ((LS (3 * c)).length : Int) + ((LS (3 * c + 1)).length : Int) + ((LS (3 * c + 2)).length : Int) := by
  unfold mvL
  by_cases e : l = l'
  · rw [if_pos e]
  · rw [if_neg e]
    have hlen : ((LS l).erase p).length = (LS l).length - 1 := List.length_erase_of_mem hp
    have hpos : 0 < (LS l).length := List.length_pos_of_mem hp
    have step : ∀ k, ((lu (lu LS l ((LS l).erase p)) l' (p :: LS l') k).length : Int) = ((LS k).length : Int) + (if k = l' then 1 else 0) - (if k = l then 1 else 0) := fun k => by
      by_cases e1 : k = l'
      · subst e1
        rw [lu_same, List.length_cons, if_pos rfl, if_neg (fun z => e z.symm)]
        omega
      · rw [lu_ne e1, if_neg e1]
        by_cases e2 : k = l
        · subst e2
          rw [lu_same, if_pos rfl, hlen]
          omega
        · rw [lu_ne e2, if_neg e2]; omega
    rw [step, step, step]
    repeat' split
    all_goals omega
theorem kn_mv {l' : Nat} (hG : GL N LS) (hl : l < 24) (hp : p ∈ LS l) (h1 : l / 3 = l' / 3) (h : KN t ca N LS) : KN t ca N (mvL LS p l l') := fun c hc => by
  rw [h c hc]
  exact (mv_len (c := c) hG hl hp h1 c).symm
/-- the slab over an address -/
theorem sat_eq (hH : KH t x b ca sa N) {X : Nat} (hX : X < 262144) : t_X5_slabAt t (x : Int) (X : Int) = some (if N 2 (X / 1024) < 0 then -1 else (sa (N 2 (X / 1024)).toNat : Int), t) := by
  obtain ⟨a1, a2, a3, a4, a5, a6, a7⟩ := hH
  unfold t_X5_slabAt t_X5_slabAt_j24
  rw [if_neg (by omega), if_pos (by omega), q_rf 1 a1, Option.bind_some, show (1024 : Int) = ((1024 : Nat) : Int) from rfl, idn (by decide) (by omega), Option.bind_some, q_al a1 a2.1 (by omega), Option.bind_some, a6 _ (by omega)]
theorem sat_sl (hH : KH t x b ca sa N) {X : Nat} (hX : X < 262144) (hp : N 2 (X / 1024) = (p : Int)) : t_X5_slabAt t (x : Int) (X : Int) = some ((sa p : Int), t) := by
  rw [sat_eq hH hX, hp, if_neg (by omega), Int.toNat_natCast]
theorem u_ad (hP : WP N) (hG : WG N) (hp : Sl N p) (hi : i < fN N (wN N p)) : 8 * U N p i < 262144 ∧ N 2 (8 * U N p i / 1024) = (p : Int) ∧ nOv N p (8 * U N p i) = (i : Int) := by
  obtain ⟨h1, h2, h3, h4⟩ := u_rng hP hG hp hi
  have h5 := (u_pg hP hG hp hi).1
  have e : 8 * U N p i / 1024 = U N p i / 128 := by omega
  have hs := (sl_pc hP hG hp).1.2.2.1.2
  exact ⟨by omega, by rw [e]; exact h5, no_at hs hi (Nat.le_refl _) (by omega)⟩
theorem lsm (hG : GL N LS) : ∀ l, l < 24 → ∀ p, p ∈ LS l → Sl N p := fun l hl p hp => ((hG l hl).2.1 p hp).1
/-- an object comes back -/
theorem come_pair (hW : WW N LS FL) (hK : KK t x b ca la sa N LS FL) (hp : Sl N p) (hi : i < fN N (wN N p)) (hf : i ∉ FL p) : ∃ t' N' LS', t_X5_comeBack t (x : Int) ((8 * U N p i : Nat) : Int) = some (0, t') ∧ g_X6_toSlab N (U N p i : Int) = some (0, N') ∧ WW N' LS' (lu FL p (i :: FL p)) ∧ KK t' x b ca la sa N' LS' (lu FL p (i :: FL p)) ∧ N' 18 = fu (N 18) (U N p i) 1 ∧ (∀ b, b ≠ 16 → b ≠ 17 → b ≠ 18 → b ≠ 19 → b ≠ 21 → b ≠ 22 → N' b = N b) ∧ Ep N N' ∧ Fe t t' [gf 3 3, gf 3 4, gf 3 5, gf 3 6, gf 3 8, gf 3 9, gf 4 0] ∧ tC t' = tC t ∧ tI t' = tI t ∧ tL t' = tL t ∧ tN t' = tN t := by
  obtain ⟨hP, hB, hG, hS, hZ, hR⟩ := hW
  obtain ⟨kH, kB, kC, kV, kN', kI, kS, kL⟩ := hK
  obtain ⟨N', n1, n2, n3, n4, n5, n6, n7, n8, n9⟩ := toSlab_eq hP hG hS hZ hR hp hi hf
  obtain ⟨u1, u2, u3⟩ := u_ad hP hG hp hi
  obtain ⟨k1, c1, c2, c3, c4⟩ := sl_c hG kC kI hp
  obtain ⟨s1, s2, s3, s4⟩ := ws_b hP hG hp (hS p hp)
  have hwl := wh_lt (N := N) (p := p)
  have hwl' := wh_lt (N := N') (p := p)
  have g2 := (hG.2 p hp).2.1
  have hv := (hG.2 p hp).2.2.1
  have hGL := wr_gl hR
  have hpl : p ∈ LS (3 * wN N p + wh N p) := ((hR.2 _ (by omega)).2 p).mpr ⟨hp, rfl⟩
  have hP' := ep_p n5 (n4 12 (by decide) (by decide) (by decide) (by decide) (by decide) (by decide)) (n4 13 (by decide) (by decide) (by decide) (by decide) (by decide) (by decide)) hP
  have hG' := ep_g n5 hG
  have e1 : N' 1 = N 1 := n4 1 (by decide) (by decide) (by decide) (by decide) (by decide) (by decide)
  obtain ⟨a1, nt, L, cl, b1, b2, b3, b4, b5, b6, b7, b8, b9, b10, b11⟩ := kS p hp
  obtain ⟨m1, m2⟩ := nf_nt b1 hi hf
  have ew : wr (N 16 p - 1) = N 16 p - 1 := wr_eq ⟨by omega, by omega⟩
  have g33 : ∀ k, k ≠ 3 → k ≠ 8 → k ≠ 9 → k < 32 → gf 3 k ≠ gf 3 3 ∧ gf 3 k ≠ gf 3 8 ∧ gf 3 k ≠ gf 3 9 := fun k h1 h2 h3 _ => by unfold gf; omega
  generalize ht1 : tset (tset (tset t (sa p) (gf 3 9) i (hdA cl)) (sa p) (gf 3 8) 0 (i : Int)) (sa p) (gf 3 3) 0 (N 16 p - 1) = t1
  have hpf : t_X3_putFirst t (sa p : Int) (i : Int) = some (0, t1) := by
    unfold t_X3_putFirst t_X3_putFirst_j33
    rw [q_ck c1, Option.bind_some, wt_y c1 b3 (by omega), Option.bind_some]
    dsimp only
    rw [if_neg (by decide), q_rf 9 c1, Option.bind_some, q_gt 8 c1, Option.bind_some, b4, q_as c1 b5.1 (by omega), Option.bind_some, q_pt 8 _ (show tC (tset t (sa p) (gf 3 9) i (hdA cl)) (sa p) = 3 + 1 from c1), Option.bind_some, q_gt 3 (show tC (tset (tset t (sa p) (gf 3 9) i (hdA cl)) (sa p) (gf 3 8) 0 (i : Int)) (sa p) = 3 + 1 from c1), Option.bind_some]
    rw [tV_set, if_neg (fun q => by have := q.2.1; revert this; decide), tV_set, if_neg (fun q => by have := q.2.1; revert this; decide), a1, ew, q_pt 3 _ (show tC (tset (tset t (sa p) (gf 3 9) i (hdA cl)) (sa p) (gf 3 8) 0 (i : Int)) (sa p) = 3 + 1 from c1), Option.bind_some, ht1]
  have f1 : Fe t t1 [gf 3 3, gf 3 8, gf 3 9] := by
    rw [← ht1]
    exact fe_sub (fe_trans (fe_trans (fe_set _ _ _ _ _) (fe_set _ _ _ _ _)) (fe_set _ _ _ _ _)) (by decide)
  have t1C : tC t1 = tC t := by rw [← ht1]; rfl
  have t1I : tI t1 = tI t := by rw [← ht1]; rfl
  have t1L : tL t1 = tL t := by rw [← ht1]; rfl
  have t1N : tN t1 = tN t := by rw [← ht1]; rfl
  have t1V : ∀ a j n, a ≠ sa p → tV t1 a j n = tV t a j n := fun a j n h => by
    rw [← ht1, tV_set, if_neg (fun q => h q.1), tV_set, if_neg (fun q => h q.1), tV_set, if_neg (fun q => h q.1)]
  have v3 : tV t1 (sa p) (gf 3 3) 0 = N' 16 p := by
    rw [← ht1, tV_set, if_pos ⟨rfl, rfl, rfl⟩, n2, fu_same]
  have v7 : tV t1 (sa p) (gf 3 7) 0 = (nt : Int) := by rw [fe_v f1 c1 (by decide)]; exact b3
  have v8 : tV t1 (sa p) (gf 3 8) 0 = (i : Int) := by
    rw [← ht1, tV_set, if_neg (fun q => by have := q.2.1; revert this; decide), tV_set, if_pos ⟨rfl, rfl, rfl⟩]
  have v9 : ∀ j, tV t1 (sa p) (gf 3 9) j = if j = i then hdA cl else tV t (sa p) (gf 3 9) j := fun j => by
    rw [← ht1, tV_set, if_neg (fun q => by have := q.2.1; revert this; decide), tV_set, if_neg (fun q => by have := q.2.1; revert this; decide), tV_set]
    by_cases e : j = i
    · rw [if_pos ⟨rfl, rfl, e⟩, if_pos e]
    · rw [if_neg (fun q => e q.2.2), if_neg e]
  have v10 : ∀ j, tV t1 (sa p) (gf 3 10) j = tV t (sa p) (gf 3 10) j := fun j => fe_v f1 c1 (by decide) j
  have kS1 : KS t1 sa N' (lu FL p (i :: FL p)) := fun q hq => by
    rw [ep_sl n5] at hq
    have e20 : N' 20 = N 20 := n4 20 (by decide) (by decide) (by decide) (by decide) (by decide) (by decide)
    by_cases e : q = p
    · subst e
      refine ⟨v3, nt, L, i :: cl, ?_, ?_, v7, ?_, ?_, ?_, ⟨?_, ?_⟩, fun j hj => ?_, fun j hj hjc => ?_, fun j hj => ?_, fun j h1 h2 => ?_⟩
      · rw [lu_same, ep_w n5, ep_f n5, b1]; rfl
      · rw [ep_w n5, ep_f n5]; exact b2
      · rw [v8]; rfl
      · rw [t1I, t1L]; exact b5
      · rw [t1I, t1L]; exact b6
      · rw [v9, if_pos rfl]
      · exact chT_congr cl (fun j hj => by rw [v9, if_neg (fun z : j = i => m2 (z ▸ hj))]) b7
      · rcases List.mem_cons.mp hj with rfl | hj
        · exact m1
        · exact b8 j hj
      · have hji : j ≠ i := fun z => hjc (z ▸ List.mem_cons_self)
        rw [v9, if_neg hji, ep_u n5, n3, fu_ne (u_ne hP hG hp hi hp (by omega) (fun z => hji z.2))]
        exact b9 j hj (fun z => hjc (List.mem_cons_of_mem _ z))
      · rw [v10, ep_u n5, e20]; exact b10 j hj
      · rw [ep_w n5, ep_f n5] at h2
        rw [ep_u n5, e20, ep_w n5, n5.2.2.2.2.2.2.1]; exact b11 j h1 h2
    · have hsa : sa q ≠ sa p := fun z => e (sa_inj kI hq hp z)
      refine ksp_congr (kS q hq) (fun j n => t1V _ _ _ hsa) (fun k => by rw [t1I]) (fun k => by rw [t1L]) (by rw [n2, fu_ne e]) (lu_ne e) (ep_w n5 q) (ep_f n5 _) (fun j => ep_u n5 q j) (by rw [n5.2.2.2.2.2.2.1]) (fun j hj => ?_) (fun j hj => by rw [e20])
      rw [n3, fu_ne (u_ne hP hG hp hi hq hj (fun z => e z.1))]
  have kI1 := ki_fe f1 (by decide) (by decide) (by decide) kI
  have kC1 := kc_same f1 (kcj _ (by decide)) t1I t1L kC
  have kL1 := kl_fe f1 (by decide) (by decide) (by decide) (by decide) kC kI (lsm hGL) kL
  have hkd : t_X3_kind t1 (sa p : Int) = some ((wh N' p : Int), t1) := by
    have hs16 : N' 16 p = N 16 p - 1 := by rw [n2, fu_same]
    have := kd_eq hP hG kC1 kI1 hp (N' 16 p) v3 (by omega)
    rw [this]
    unfold wh
    rw [ep_w n5, n5.2.2.2.2.2.2.2.2.1]
    repeat' split
    all_goals rfl
  have el : (3 * wN N p + wh N p) / 3 = wN N p := by omega
  obtain ⟨t2, r1, r2, r3, r4, r5, r6, r7⟩ := relist_eq (l := 3 * wN N p + wh N p) (c := wN N p) (w := wh N' p) kC1 kI1 kL1 hGL (by omega) el hwl' hv hpl hkd
  refine ⟨t2, N', mvL LS p (3 * wN N p + wh N p) (3 * wN N p + wh N' p), ?_, n1, ⟨hP', ?_, hG', n7, n8, n9⟩, ⟨?_, ?_, ?_, ?_, ?_, ?_, ?_, kl_ep n5 r2⟩, n3, n4, n5, fe_sub (fe_trans f1 r3) (by decide), r4.trans t1C, r5.trans t1I, r6.trans t1L, r7.trans t1N⟩
  · unfold t_X5_comeBack t_X5_comeBack_j27
    rw [q_ck kH.1, Option.bind_some, sat_sl kH u1 u2, Option.bind_some]
    dsimp only
    rw [if_neg (by omega), q_ck c1, Option.bind_some, no_eq hP hG kC kI hp u1, u3, Option.bind_some]
    dsimp only
    rw [q_ck c1, Option.bind_some, hpf, Option.bind_some]
    dsimp only
    rw [q_gt 0 (kI1 p hp).1, Option.bind_some, (kI1 p hp).2.1, q_ck (kC1.1 _ hv).1, Option.bind_some, r1, Option.bind_some]
  · unfold WB
    rw [e1, n5.1]; exact hB
  · exact kh_ep n5 (kh_fe r3 (by decide) (by decide) (by decide) (by decide) (kh_fe f1 (by decide) (by decide) (by decide) (by decide) kH))
  · exact kb_ep n5 e1 (kb_fe r3 (by decide) (by decide) (kb_fe f1 (by decide) (by decide) kB))
  · exact kc_ep n5 (kc_same r3 (kcj _ (by decide)) r5 r6 kC1)
  · exact kv_ep n5 (n4 12 (by decide) (by decide) (by decide) (by decide) (by decide) (by decide)) (n4 13 (by decide) (by decide) (by decide) (by decide) (by decide) (by decide)) (kv_fe r3 (by decide) (by decide) kC1 (kv_fe f1 (by decide) (by decide) kC kV))
  · exact kn_ep n5 (kn_mv hGL (by omega) hpl (by omega) (kn_fe r3 (by decide) kC1 (kn_fe f1 (by decide) kC kN')))
  · exact ki_ep n5 (ki_fe r3 (by decide) (by decide) (by decide) kI1)
  · exact ks_fe r3 (by decide) (by decide) (by decide) (by decide) (by decide) (ki_ep n5 kI1) kS1
end
