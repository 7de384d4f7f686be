/-! drop: the slabs of a cache are given back -/
section
variable {N : Mm} {FL LS : Nat → List Nat} {hz : Nat → Nat} {p : Nat}
theorem giveSlab_eq2 (hP : WP N) (hB : WB N) (hG : WG N) (hS : WS N FL) (hZ : WZ N) (hR : WR N LS) (hM : WM N hz) (hp : Sl N p) (h0 : ∀ s, s < 88 → cs s = wN N p → hz s = 0) : ∃ N', g_X6_giveSlab N (p : Int) = some (((2 ^ oN N (wN N p) : Nat) : Int), N') ∧ (∀ b, b ≠ 21 → b ≠ 22 → N' b = (gsS N p) b) ∧ WP N' ∧ WB N' ∧ WG N' ∧ WS N' FL ∧ WZ N' ∧ WR N' (lu LS (3 * wN N p + wh N p) ((LS (3 * wN N p + wh N p)).erase p)) ∧ WM N' hz := by
  obtain ⟨c1, c2, c3⟩ := sl_pc hP hG hp
  obtain ⟨g1, g2, g3, g4, g5, g6⟩ := hG.2 p hp
  have hp2 := hp.1
  have w0 := wh_lt (N := N) (p := p)
  have hLm : p ∈ LS (3 * wN N p + wh N p) := ((hR.2 _ (by omega)).2 p).mpr ⟨hp, rfl⟩
  obtain ⟨N1, l1, l2, l3⟩ := leave_eq (p := p) hR.1 g2 w0 hLm (hR.2 _ (by omega)).1
  have hE1 : Ep N N1 := by
    refine ⟨?_, ?_, ?_, ?_, ?_, ?_, ?_, ?_, ?_, ?_, ?_, ?_⟩ <;> exact l3 _ (by decide) (by decide)
  have ev : g_X6_giveSlab N (p : Int) = some (((2 ^ oN N (wN N p) : Nat) : Int), msA (msA (msA N1 18 (zr (N1 18) (U N p) (fun _ => 0) (fN N (wN N p)))) 2 (rg (N1 2) p (2 ^ oN N (wN N p)) (-1))) 1 (gF (6 - oN N (wN N p)) (N1 1) p (oN N (wN N p)))) := by
    unfold g_X6_giveSlab
    rw [q_mg (show p < mlen 14 from hp2), Option.bind_some, g1, wo_eq hP hG hp, Option.bind_some]
    refine Eq.trans (congrArg (fun z => Option.bind z _) l1) ?_
    rw [Option.bind_some]
    have e1 := gs_loop1 hP hG hp hE1 (l3 12 (by decide) (by decide)) (l3 13 (by decide) (by decide)) (fN N (wN N p)) 0 fuel (by omega) (by have := fn_le c1; show _ < 40000; omega)
    rw [show zr (N1 18) (U N p) (fun _ => 0) 0 = N1 18 from rfl, msA_id] at e1
    refine Eq.trans e1 ?_
    have e2 := gs_loop2 (N2 := msA N1 18 (zr (N1 18) (U N p) (fun _ => 0) (fN N (wN N p)))) (p := p) (c := wN N p) (o := oN N (wN N p)) c2 c1.1.2 (by rw [msA_ne (by decide), hE1.2.2.2.2.2.1]; exact c1.1.1) c3 g5 (2 ^ oN N (wN N p)) 0 fuel (by omega) (by have := Nat.pow_le_pow_right (n := 2) (by omega) c1.1.2; show _ < 40000; omega)
    have e3 : rg ((msA N1 18 (zr (N1 18) (U N p) (fun _ => 0) (fN N (wN N p)))) 2) p 0 (-1) = (msA N1 18 (zr (N1 18) (U N p) (fun _ => 0) (fN N (wN N p)))) 2 := by
      funext q
      exact if_neg (by omega)
    rw [e3, msA_id, Nat.add_zero] at e2
    refine Eq.trans e2 ?_
    rw [msA_ne (by decide), msA_ne (by decide)]
  have hb : ∀ b, b ≠ 21 → b ≠ 22 → (msA (msA (msA N1 18 (zr (N1 18) (U N p) (fun _ => 0) (fN N (wN N p)))) 2 (rg (N1 2) p (2 ^ oN N (wN N p)) (-1))) 1 (gF (6 - oN N (wN N p)) (N1 1) p (oN N (wN N p)))) b = (gsS N p) b := fun b h1 h2 => by
    unfold gsS
    rw [l3 18 (by decide) (by decide), l3 2 (by decide) (by decide), l3 1 (by decide) (by decide)]
    funext j
    simp only [msA_ap]
    rw [l3 b h1 h2]
  refine ⟨_, ev, hb, ?_⟩
  generalize hN' : (msA (msA (msA N1 18 (zr (N1 18) (U N p) (fun _ => 0) (fN N (wN N p)))) 2 (rg (N1 2) p (2 ^ oN N (wN N p)) (-1))) 1 (gF (6 - oN N (wN N p)) (N1 1) p (oN N (wN N p)))) = N' at hb
  have hWL' : WL N' (lu LS (3 * wN N p + wh N p) ((LS (3 * wN N p + wh N p)).erase p)) := by
    intro l hl
    have := l2 l hl
    rw [← hN']
    exact this
  have hEs : Es N N' := by
    refine ⟨?_, ?_, ?_, ?_, ?_, ?_, ?_, ?_, ?_, ?_, ?_⟩ <;> exact hb _ (by decide) (by decide)
  have h2' : ∀ q, N' 2 q = if p ≤ q ∧ q < p + 2 ^ oN N (wN N p) then -1 else N 2 q := fun q => by rw [hb 2 (by decide) (by decide)]; exact gs_2 q
  have hsl : ∀ q, Sl N' q ↔ (Sl N q ∧ q ≠ p) := fun q => by
    have := gs_sl hG hp q
    unfold Sl at *
    rw [hb 2 (by decide) (by decide)]
    exact this
  have hinj : ∀ j k, j < fN N (wN N p) → k < fN N (wN N p) → U N p j = U N p k → j = k := fun j k hj hk q => (u_inj hP hG hp hj hp hk q).2
  have e18 : N' 18 = zr (N 18) (U N p) (fun _ => 0) (fN N (wN N p)) := by rw [hb 18 (by decide) (by decide)]; rfl
  have st : ∀ q j, Sl N q → q ≠ p → j < fN N (wN N q) → N' 18 (U N q j) = N 18 (U N q j) := fun q j hq hne hj => by
    rw [e18]
    exact zr_out _ (fun i hi => u_ne hP hG hp hi hq hj (fun z => hne z.1))
  have h7 : 0 < 2 ^ oN N (wN N p) := Nat.pow_pos (by omega)
  refine ⟨es_p hEs (hb 12 (by decide) (by decide)) (hb 13 (by decide) (by decide)) hP, ?_, ⟨fun q hq => ?_, fun q hq => ?_⟩, fun q hq => ?_, fun u hu h => ?_, ⟨hWL', fun l hl => ?_⟩, fun s hs => ?_, fun s s' k k' h1 h2 h3 h4 h5 => ?_⟩
  · have := give_inv (sp := N' 2) (6 - oN N (wN N p)) (oN N (wN N p)) (by have := c1.1.2; omega) p (N 1) hp2 g5 hB.1 hB.2.1 (bs_sp hB.2.2 (fun q b v _ _ _ _ h => by rw [h2' q]; split <;> omega)) (fun q z1 z2 => by rw [h2' q, if_pos ⟨z1, z2⟩]; decide) (fun q b v hb1 e1 z1 z2 z3 => by
      have := hB.2.2 q b v hb1 e1 z1 z2
      have := (g6 q z3.1 z3.2).2
      omega)
    unfold WB
    rw [hb 1 (by decide) (by decide)]
    exact this
  · rw [h2' q]
    by_cases e : p ≤ q ∧ q < p + 2 ^ oN N (wN N p)
    · left; rw [if_pos e]
    · rw [if_neg e]
      rcases hG.1 q hq with h | ⟨p', z1, z2, z3, z4⟩
      · left; exact h
      · right
        have hne : p' ≠ p := fun z => e (z ▸ ⟨z3, z4⟩)
        exact ⟨p', (hsl p').mpr ⟨z1, hne⟩, z2, z3, by rw [es_w hEs, es_o hEs]; exact z4⟩
  · obtain ⟨hq1, hq2⟩ := (hsl q).mp hq
    obtain ⟨z1, z2, z3, z4, z5, z6⟩ := hG.2 q hq1
    unfold SPp
    rw [es_w hEs, es_k hEs, es_o hEs, es_lv hEs, hEs.2.2.2.2.2.2.2.2.2.1, hEs.2.2.2.2.2.2.2.2.2.2, hEs.2.2.2.2.2.2.2.2.1]
    refine ⟨z1, z2, z3, z4, z5, fun x hx1 hx2 => ?_⟩
    have := z6 x hx1 hx2
    refine ⟨this.1, ?_⟩
    rw [h2' x, if_neg (fun z => by have := (g6 x z.1 z.2).2; omega)]
    exact this.2
  · obtain ⟨hq1, hq2⟩ := (hsl q).mp hq
    obtain ⟨a1, a2, a3, a4, a5, a6⟩ := hS q hq1
    unfold WSp
    rw [es_w hEs, es_f hEs, es_ul hEs, hb 16 (by decide) (by decide), hb 17 (by decide) (by decide)]
    refine ⟨a1, a2, a3, a4, es_ch hEs _ (fun j hj => by rw [hb 19 (by decide) (by decide)]; rfl) a5, fun j hj => ?_⟩
    rw [es_u hEs, st q j hq1 hq2 hj]
    exact a6 j hj
  · have hnu : ∀ i, i < fN N (wN N p) → u ≠ U N p i := fun i hi e => by
      rw [e18, e] at h
      exact h (zr_in _ hinj i hi)
    rw [e18, zr_out _ hnu] at h
    obtain ⟨q, j, z1, z2, z3⟩ := hZ u hu h
    have hne : q ≠ p := fun e => by subst e; exact hnu j z2 z3
    exact ⟨q, j, (hsl q).mpr ⟨z1, hne⟩, by rw [es_w hEs, es_f hEs]; exact z2, by rw [es_u hEs]; exact z3⟩
  · have hwh : ∀ q, wh N' q = wh N q := fun q => by unfold wh; rw [hb 16 (by decide) (by decide), hb 10 (by decide) (by decide), es_w hEs]; rfl
    by_cases e : l = 3 * wN N p + wh N p
    · subst e
      rw [lu_same]
      refine ⟨(hR.2 _ hl).1.erase p, fun q => ?_⟩
      rw [(hR.2 _ hl).1.mem_erase_iff, (hR.2 _ hl).2 q, hsl q, es_w hEs, hwh]
      exact ⟨fun h => ⟨⟨h.2.1, h.1⟩, h.2.2⟩, fun h => ⟨h.1.2, h.1.1, h.2⟩⟩
    · rw [lu_ne e]
      refine ⟨(hR.2 _ hl).1, fun q => ?_⟩
      rw [(hR.2 _ hl).2 q, hsl q, es_w hEs, hwh]
      exact ⟨fun h => ⟨⟨h.1, fun z => e (by rw [← h.2, z])⟩, h.2⟩, fun h => ⟨h.1.1, h.2⟩⟩
  · obtain ⟨m1, m2⟩ := hM.1 s hs
    refine ⟨m1, fun k hk => ?_⟩
    obtain ⟨q, j, z1, z2, z3, z4, z5⟩ := m2 k hk
    have hne : q ≠ p := fun e => by subst e; have := h0 s hs z2.symm; omega
    refine ⟨q, j, (hsl q).mpr ⟨z1, hne⟩, by rw [es_w hEs]; exact z2, by rw [es_w hEs, es_f hEs]; exact z3, ?_, by rw [es_u hEs, st q j z1 hne z3]; exact z5⟩
    unfold hv at *
    rw [hb 24 (by decide) (by decide), hb 26 (by decide) (by decide), es_u hEs]
    exact z4
  · refine hM.2 s s' k k' h1 h2 h3 h4 ?_
    unfold hv at *
    rw [hb 24 (by decide) (by decide), hb 26 (by decide) (by decide)] at h5
    exact h5
end
/-- while a cache is dropped: what holds of the others -/
def DI (t : Th) (x b : Nat) (ca la sa mg : Nat → Nat) (N : Mm) (LS FL LT : Nat → List Nat) (hz dz : Nat → Nat) (c : Nat) : Prop :=
  (WW N LS FL ∧ WM N hz ∧ HZ N hz dz ∧ Lv N c) ∧
  (KH t x b ca sa N ∧ KB t b N ∧ KC t ca la N ∧ KI t sa ca N ∧ KL t sa la N LT) ∧
  (GL N LT ∧ (∀ p, Sl N p → ∃ l, l < 24 ∧ p ∈ LT l) ∧ ∀ l, l / 3 ≠ c → LT l = LS l) ∧
  (KV t ca (mup N 4 c 1) ∧ KN t ca (mup N 4 c 1) LS ∧ KP t ca mg dz (mup N 4 c 1) ∧ KM t mg hz (mup N 4 c 1) ∧ KZ t ca (mup N 4 c 1)) ∧
  (∀ p, Sl N p → wN N p ≠ c → KSp t sa N FL p) ∧ (∀ s, s < 88 → cs s = c → hz s = 0) ∧ ∀ a, tC t a ≠ 0 → a < tN t
section
variable {t : Th} {x b : Nat} {ca la sa mg : Nat → Nat} {N N' : Mm} {LS FL LS' FL' LT : Nat → List Nat} {hz dz hz' : Nat → Nat} {p i l c k q d : Nat}
theorem lv_g : Lv (mup N 4 c 1) d ↔ (Lv N d ∧ d ≠ c) := by
  unfold Lv
  show ((d : Int) < N 3 0 ∧ (if 4 = 4 ∧ d = c then (1 : Int) else N 4 d) = 0) ↔ _
  by_cases e : d = c
  · rw [if_pos ⟨rfl, e⟩]
    constructor
    · rintro ⟨_, h⟩; omega
    · rintro ⟨_, h⟩; exact absurd e h
  · rw [if_neg (fun q => e q.2)]
    exact ⟨fun h => ⟨h, e⟩, fun h => h.1⟩
theorem kc_g (h : KC t ca la N) : KC t ca la (mup N 4 c 1) := ⟨fun d hd => h.1 d (lv_g.mp hd).1, fun l l' h1 h2 e => h.2 l l' (lv_g.mp h1).1 (lv_g.mp h2).1 e⟩
theorem di_start (hA : AA t x b ca la sa mg N LS FL hz dz) (hc : Lv N c) (hW : WW N' LS' FL') (hM : WM N' hz') (hH : HZ N' hz' (fz dz c 0)) (hD : DF c N N' LS LS' FL FL') (h0 : ∀ s, s < 88 → cs s = c → hz' s = 0) (h1 : ∀ s, s < 88 → cs s ≠ c → hz' s = hz s) : DI t x b ca la sa mg N' LS' FL' LS hz' (fz dz c 0) c := by
  obtain ⟨hE, d2, d3, d4, d5⟩ := hD
  obtain ⟨⟨hP, hB, hG, hS, hZ, hR⟩, hM0, ⟨kH, kB, kC, kV, kN', kI, kS, kL⟩, kP, kM, kZ, hT⟩ := hA
  have fr : ∀ b, b ≠ 16 ∧ b ≠ 17 ∧ b ≠ 18 ∧ b ≠ 19 ∧ b ≠ 21 ∧ b ≠ 22 ∧ b ≠ 23 ∧ b ≠ 25 → N' b = N b := fun b h => d2 b h.1 h.2.1 h.2.2.1 h.2.2.2.1 h.2.2.2.2.1 h.2.2.2.2.2.1 h.2.2.2.2.2.2.1 h.2.2.2.2.2.2.2
  have hlv : ∀ d, Lv (mup N' 4 c 1) d → Lv N d ∧ d ≠ c := fun d h => by
    have := lv_g.mp h
    rw [ep_lv hE] at this
    exact this
  have hpr : ∀ s, Pr (mup N' 4 c 1) hz' s → Pr N hz s ∧ hz' s = hz s := fun s h => by
    have hne : cs s ≠ c := fun e => by
      rcases h.2 with ⟨_, q⟩ | q
      · exact (hlv _ q).2 e
      · rw [h0 s h.1 e] at q; omega
    have e1 := h1 s h.1 hne
    refine ⟨⟨h.1, ?_⟩, e1⟩
    rcases h.2 with ⟨q1, q2⟩ | q
    · exact Or.inl ⟨q1, (hlv _ q2).1⟩
    · exact Or.inr (by rw [← e1]; exact q)
  have hGL := wr_gl hR
  refine ⟨⟨hW, hM, hH, by rw [ep_lv hE]; exact hc⟩, ⟨kh_ep hE kH, kb_ep hE (fr 1 (by decide)) kB, kc_ep hE kC, ki_ep hE kI, kl_ep hE kL⟩, ⟨fun l hl => ?_, fun p hp => ?_, fun l hl => (d3 l hl).symm⟩, ⟨fun d hd => ?_, fun d hd => ?_, fun d hd => ?_, ⟨fun s hs => ?_, fun s s' hs hs' e => ?_⟩, fun d hd => ?_⟩, fun p hp hw => ?_, h0, hT⟩
  · obtain ⟨g1, g2, g3⟩ := hGL l hl
    exact ⟨g1, fun p hp => by rw [ep_sl hE, ep_w hE]; exact g2 p hp, g3⟩
  · rw [ep_sl hE] at hp
    have hwl := wh_lt (N := N) (p := p)
    have g2 := (hG.2 p hp).2.1
    exact ⟨3 * wN N p + wh N p, by omega, ((hR.2 _ (by omega)).2 p).mpr ⟨hp, rfl⟩⟩
  · obtain ⟨q1, q2⟩ := hlv d hd
    have := kV d q1
    show _ = N' 12 d ∧ _ = N' 13 d
    rw [fr 12 (by decide), fr 13 (by decide)]
    exact this
  · obtain ⟨q1, q2⟩ := hlv d hd
    rw [d3 (3 * d) (by omega), d3 (3 * d + 1) (by omega), d3 (3 * d + 2) (by omega)]
    exact kN' d q1
  · obtain ⟨q1, q2⟩ := hlv d hd
    rw [fz_ne q2]
    exact kP d q1
  · obtain ⟨q1, q2⟩ := hpr s hs
    obtain ⟨a1, a2, a3, a4⟩ := kM.1 s q1
    rw [q2]
    refine ⟨a1, a2, a3, fun k hk => ?_⟩
    rw [a4 k hk]
    unfold hv
    show _ = 8 * (if s < 64 then N' 24 (4 * s + k) else N' 26 (4 * (s - 64) + k))
    rw [fr 24 (by decide), fr 26 (by decide)]
  · exact kM.2 s s' (hpr s hs).1 (hpr s' hs').1 e
  · obtain ⟨q1, q2⟩ := hlv d hd
    rw [kZ d q1]
    suffices h : lc (mup N' 4 c 1) d 32768 = lc N d 32768 by rw [h]
    refine lc_congr 32768 (fun u hu => ?_)
    show (N' 18 u = 2 ∧ N' 14 (N' 2 (u / 128)).toNat = (d : Int)) ↔ _
    rw [d5 u, fr 14 (by decide), fr 2 (by decide)]
  · rw [ep_sl hE] at hp
    rw [ep_w hE] at hw
    obtain ⟨y1, y2, y3⟩ := d4 p hp hw
    exact ksp_congr (kS p hp) (fun _ _ => rfl) (fun _ => rfl) (fun _ => rfl) y2 y1 (ep_w hE p) (ep_f hE _) (fun j => ep_u hE p j) (by rw [hE.2.2.2.2.2.2.1]) y3 (fun j _ => by rw [fr 20 (by decide)])
theorem di_give (hI : DI t x b ca la sa mg N LS FL LT hz dz c) (hp : Sl N p) (hw : wN N p = c) : ∃ t' N' LS' LT', t_X5_giveBack t (x : Int) (sa p : Int) = some (((2 ^ oN N (wN N p) : Nat) : Int), t') ∧ g_X6_giveSlab N (p : Int) = some (((2 ^ oN N (wN N p) : Nat) : Int), N') ∧ DI t' x b ca la sa mg N' LS' FL LT' hz dz c ∧ (∀ q, Sl N' q ↔ (Sl N q ∧ q ≠ p)) ∧ (∀ q, wN N' q = wN N q) ∧ N' 0 = N 0 := by
  obtain ⟨⟨⟨hP, hB, hG, hS, hZ, hR⟩, hM, hH, hc⟩, ⟨kH, kB, kC, kI, kL⟩, ⟨hGL, hcov, hLT⟩, ⟨kV, kN', kP, kM, kZ⟩, kS, h0, hT⟩ := hI
  obtain ⟨N', n1, n2, n3, n4, n5, n6, n7, n8, n9⟩ := giveSlab_eq2 hP hB hG hS hZ hR hM hp (fun s hs e => h0 s hs (e.trans hw))
  obtain ⟨l, hl, hpl⟩ := hcov p hp
  have hlw := ((hGL l hl).2.1 p hpl).2
  obtain ⟨t', r1, r2, r3, r4, r5, r6, r7, r8, r9, r10, r11⟩ := giveT hP hG kH kB kC kI kL hGL hp hl hpl
  have hEg : Ep (gsS N p) N' := by
    refine ⟨?_, ?_, ?_, ?_, ?_, ?_, ?_, ?_, ?_, ?_, ?_, ?_⟩ <;> exact n2 _ (by decide) (by decide)
  have hEs : Es N N' := by
    refine ⟨?_, ?_, ?_, ?_, ?_, ?_, ?_, ?_, ?_, ?_, ?_⟩ <;> exact n2 _ (by decide) (by decide)
  have hEs' : Es (mup N 4 c 1) (mup N' 4 c 1) := by
    obtain ⟨e3, e4, e5, e6, e7, e8, e9, e10, e11, e14, e15⟩ := hEs
    refine ⟨e3, ?_, e5, e6, e7, e8, e9, e10, e11, e14, e15⟩
    funext j
    show (if 4 = 4 ∧ j = c then (1 : Int) else N' 4 j) = (if 4 = 4 ∧ j = c then (1 : Int) else N 4 j)
    rw [e4]
  have kC' := kc_same r5 (kcj _ (by decide)) r7 r8 kC
  have kI' := ki_fe r5 (by decide) (by decide) (by decide) kI
  have hsl : ∀ q, Sl N' q ↔ (Sl N q ∧ q ≠ p) := fun q => by rw [ep_sl hEg]; exact gs_sl hG hp q
  have hb : ∀ b, b ≠ 1 → b ≠ 2 → b ≠ 18 → b ≠ 21 → b ≠ 22 → N' b = N b := fun b h1 h2 h3 h4 h5 => by
    rw [n2 b h4 h5]
    unfold gsS
    rw [msA_ne h1, msA_ne h2, msA_ne h3]
  have hwl := wh_lt (N := N) (p := p)
  obtain ⟨gl1, gl2⟩ := gl_erase hGL hl hpl
  have hoth : ∀ k, k / 3 ≠ c → lu LS (3 * wN N p + wh N p) ((LS (3 * wN N p + wh N p)).erase p) k = LS k := fun k hk => lu_ne (fun z => hk (by omega))
  have hlv' : ∀ d, Lv (mup N' 4 c 1) d → Lv (mup N 4 c 1) d := fun d h => by rw [← es_lv hEs']; exact h
  refine ⟨t', N', lu LS (3 * wN N p + wh N p) ((LS (3 * wN N p + wh N p)).erase p), lu LT l ((LT l).erase p), r1, n1, ⟨⟨⟨n3, n4, n5, n6, n7, n8⟩, n9, ?_, by rw [es_lv hEs]; exact hc⟩, ⟨kh_ep hEg r2, kb_ep hEg (n2 1 (by decide) (by decide)) r3, kc_es hEs kC', fun q hq => ?_, kl_es hEs r4⟩, ⟨fun k hk => ?_, fun q hq => ?_, fun k hk => ?_⟩, ⟨kv_es hEs' (hb 12 (by decide) (by decide) (by decide) (by decide) (by decide)) (hb 13 (by decide) (by decide) (by decide) (by decide) (by decide)) (kv_fe r5 (by decide) (by decide) (kc_g kC) kV), fun d hd => ?_, kp_lv (es_lv hEs') (kp_fe r5 (by decide) (by decide) (by decide) (by decide) (kc_g kC) kP), km_lv (es_lv hEs') (hb 24 (by decide) (by decide) (by decide) (by decide) (by decide)) (hb 26 (by decide) (by decide) (by decide) (by decide) (by decide)) (km_fe r5 (by decide) (by decide) kM), fun d hd => ?_⟩, fun q hq hqw => ?_, h0, r5.2.2 hT⟩, hsl, es_w hEs, hb 0 (by decide) (by decide) (by decide) (by decide) (by decide)⟩
  · unfold HZ
    rw [hb 23 (by decide) (by decide) (by decide) (by decide) (by decide), hb 25 (by decide) (by decide) (by decide) (by decide) (by decide)]
    exact hH
  · obtain ⟨h1, h2⟩ := (hsl q).mp hq
    rw [es_w hEs, hEs.2.2.2.2.2.2.2.2.2.2]
    exact kI' q h1
  · obtain ⟨g1, g2, g3⟩ := gl1 k hk
    refine ⟨g1, fun q hq => ?_, g3⟩
    obtain ⟨z1, z2⟩ := g2 q hq
    exact ⟨(hsl q).mpr ⟨z1, fun e => gl2 k hk (e ▸ hq)⟩, by rw [es_w hEs]; exact z2⟩
  · obtain ⟨h1, h2⟩ := (hsl q).mp hq
    obtain ⟨k, hk, hqk⟩ := hcov q h1
    refine ⟨k, hk, ?_⟩
    by_cases e : k = l
    · subst e
      rw [lu_same]
      exact ((hGL k hk).1.mem_erase_iff).mpr ⟨h2, hqk⟩
    · rw [lu_ne e]; exact hqk
  · rw [hoth k hk, lu_ne (fun z => hk (by rw [z, ← hlw, hw]))]
    exact hLT k hk
  · obtain ⟨q1, q2⟩ := lv_g.mp (hlv' d hd)
    rw [hoth (3 * d) (by omega), hoth (3 * d + 1) (by omega), hoth (3 * d + 2) (by omega), r11 (ca d) (fun z => q2 (by rw [ca_inj kC q1 (hG.2 p hp).2.2.1 z, hw])) (kC.1 d q1).1]
    exact kN' d (hlv' d hd)
  · obtain ⟨q1, q2⟩ := lv_g.mp (hlv' d hd)
    rw [kz_fe r5 (by decide) (kc_g kC) kZ d (hlv' d hd)]
    suffices h : lc (mup N' 4 c 1) d 32768 = lc (mup N 4 c 1) d 32768 by rw [h]
    refine lc_congr 32768 (fun u hu => ?_)
    show (N' 18 u = 2 ∧ N' 14 (N' 2 (u / 128)).toNat = (d : Int)) ↔ (N 18 u = 2 ∧ N 14 (N 2 (u / 128)).toNat = (d : Int))
    have e18 : N' 18 = zr (N 18) (U N p) (fun _ => 0) (fN N (wN N p)) := by rw [n2 18 (by decide) (by decide)]; rfl
    have e2 : ∀ q, N' 2 q = if p ≤ q ∧ q < p + 2 ^ oN N (wN N p) then -1 else N 2 q := fun q => by rw [n2 2 (by decide) (by decide)]; rfl
    have hinj : ∀ j k, j < fN N (wN N p) → k < fN N (wN N p) → U N p j = U N p k → j = k := fun j k hj hk q => (u_inj hP hG hp hj hp hk q).2
    by_cases e : ∃ i, i < fN N (wN N p) ∧ u = U N p i
    · obtain ⟨i, h1, h2⟩ := e
      subst h2
      have z1 : N' 18 (U N p i) = 0 := by rw [e18, zr_in _ hinj i h1]
      have z2 := own_u hP hG hp h1
      constructor
      · rintro ⟨q, _⟩; omega
      · rintro ⟨_, q⟩
        rw [z2] at q
        omega
    · have z1 : N' 18 u = N 18 u := by rw [e18, zr_out _ (fun j hj q => e ⟨j, hj, q⟩)]
      rw [z1, hb 14 (by decide) (by decide) (by decide) (by decide) (by decide)]
      by_cases e3 : N 18 u = 2
      · obtain ⟨q, j, y1, y2, y3⟩ := hZ u hu (by omega)
        have hne : q ≠ p := fun z => e ⟨j, by rw [← z]; exact y2, by rw [← z]; exact y3⟩
        have y4 := (u_pg hP hG y1 y2).1
        rw [← y3] at y4
        have : N' 2 (u / 128) = N 2 (u / 128) := by
          rw [e2, if_neg]
          rintro ⟨w1, w2⟩
          have := ((hG.2 p hp).2.2.2.2.2 _ w1 w2).2
          omega
        rw [this]
      · exact ⟨fun z => absurd z.1 e3, fun z => absurd z.1 e3⟩
  · obtain ⟨h1, h2⟩ := (hsl q).mp hq
    rw [es_w hEs] at hqw
    have c1 := (kI q h1).1
    have kq := kS q h1 hqw
    have kq' : KSp t' sa N FL q := by
      unfold KSp at *
      have e9 : tV t' (sa q) (gf 3 9) = tV t (sa q) (gf 3 9) := by funext i; exact fe_v r5 c1 (by decide) i
      have e10 : tV t' (sa q) (gf 3 10) = tV t (sa q) (gf 3 10) := by funext i; exact fe_v r5 c1 (by decide) i
      rw [fe_v r5 c1 (by decide), fe_v r5 c1 (by decide), fe_v r5 c1 (by decide), e9, e10, r7, r8]
      exact kq
    refine ksp_congr kq' (fun _ _ => rfl) (fun _ => rfl) (fun _ => rfl) (by rw [n2 16 (by decide) (by decide)]; rfl) rfl (es_w hEs q) (es_f hEs _) (fun j => es_u hEs q j) (by rw [hEs.2.2.2.2.2.1]) (fun j hj => ?_) (fun j hj => by rw [n2 20 (by decide) (by decide)]; rfl)
    rw [n2 18 (by decide) (by decide)]
    exact zr_out _ (fun i hi => u_ne hP hG hp hi h1 hj (fun z => h2 z.1))
/-- the cache is gone -/
theorem di_end (hI : DI t x b ca la sa mg N LS FL LT hz dz c) (hno : ∀ p, Sl N p → wN N p ≠ c) : AA (tset t x (gf 5 2) c (-1)) x b ca la sa mg (mup N 4 c 1) LS FL hz dz ∧ HZ (mup N 4 c 1) hz dz := by
  obtain ⟨⟨⟨hP, hB, hG, hS, hZ, hR⟩, hM, hH, hc⟩, ⟨kH, kB, kC, kI, kL⟩, ⟨hGL, hcov, hLT⟩, ⟨kV, kN', kP, kM, kZ⟩, kS, h0, hT⟩ := hI
  have f1 := fe_set t x (gf 5 2) c (-1)
  have kC' : KC (tset t x (gf 5 2) c (-1)) ca la N := kc_same f1 (kcj _ (by decide)) rfl rfl kC
  refine ⟨⟨⟨⟨hP.1, hP.2.1, fun d hd => ?_⟩, hB, ⟨hG.1, fun p hp => ?_⟩, fun p hp => ?_, hZ, hR⟩, hM, ⟨?_, kb_fe f1 (by decide) (by decide) kB, kc_g kC', kv_fe f1 (by decide) (by decide) (kc_g kC) kV, kn_fe f1 (by decide) (kc_g kC) kN', ki_fe f1 (by decide) (by decide) (by decide) kI, fun p hp => ?_, fun l hl hv => ?_⟩, kp_fe f1 (by decide) (by decide) (by decide) (by decide) (kc_g kC) kP, km_fe f1 (by decide) (by decide) kM, kz_fe f1 (by decide) (kc_g kC) kZ, f1.2.2 hT⟩, hH⟩
  · obtain ⟨z1, z2, z3⟩ := hP.2.2 d hd
    refine ⟨?_, z2, z3⟩
    show (if 4 = 4 ∧ d = c then (1 : Int) else N 4 d) = 0
    have hd' : N 3 0 ≤ (d : Int) := hd
    rw [if_neg (fun q => by have := hc.1; rw [q.2] at hd'; omega)]
    exact z1
  · obtain ⟨z1, z2, z3, z4⟩ := hG.2 p hp
    exact ⟨z1, z2, lv_g.mpr ⟨z3, hno p hp⟩, z4⟩
  · obtain ⟨a1, a2, a3, a4, a5, a6⟩ := hS p hp
    exact ⟨a1, a2, a3, a4, ch_q (N := N) (N' := mup N 4 c 1) (fun _ => rfl) _ (fun _ _ => rfl) a5, a6⟩
  · obtain ⟨a1, a2, a3, a4, a5, a6, a7⟩ := kH
    refine ⟨a1, a2, a3, ?_, ?_, fun q hq => ?_, fun d hd => ⟨fun h => ?_, fun h => ?_⟩⟩
    · rw [fe_v f1 a1 (by decide)]; exact a4
    · rw [fe_v f1 a1 (by decide)]; exact a5
    · rw [fe_v f1 a1 (by decide)]; exact a6 q hq
    · obtain ⟨q1, q2⟩ := lv_g.mp h
      rw [tV_set, if_neg (fun z => q2 z.2.2)]
      exact (a7 d hd).1 q1
    · rw [tV_set]
      by_cases e : d = c
      · rw [if_pos ⟨rfl, rfl, e⟩]
      · rw [if_neg (fun z => e z.2.2)]
        exact (a7 d hd).2 (fun z => h (lv_g.mpr ⟨z, e⟩))
  · have c1 := (kI p hp).1
    have hne : sa p ≠ x := fun z => by
      have := kH.1
      rw [z] at c1
      omega
    refine ksp_congr (N' := mup N 4 c 1) (kS p hp (hno p hp)) (fun j i => ?_) (fun _ => rfl) (fun _ => rfl) rfl rfl rfl rfl (fun _ => rfl) rfl (fun _ _ => rfl) (fun _ _ => rfl)
    rw [tV_set, if_neg (fun z => hne z.1)]
  · obtain ⟨q1, q2⟩ := lv_g.mp hv
    have := kl_fe f1 (by decide) (by decide) (by decide) (by decide) kC kI (lsm hGL) kL l hl q1
    unfold KLl at *
    rw [hLT l q2] at this
    exact this
end
