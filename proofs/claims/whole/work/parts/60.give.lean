/-! both sides: a slab is given back -/
theorem sp_loop {x p e : Nat} {v : Int} (he : e ≤ 256) (f : Nat → Int) : ∀ (n i : Nat) (t : Th) (m : Nat), p + i + n = e → tC t x = 5 + 1 → 0 ≤ tI t x 1 → tL t x 1 = 256 → (v < 0 ∨ tC t v.toNat = 4) → tV t x (gf 5 1) = rg f p i v → n < m → t_X5_setPages_b27 m t (x : Int) v (e : Int) ((p + i : Nat) : Int) = some (0, tvA t x (gf 5 1) (rg f p (i + n) v)) := by
  intro n
  induction n with
  | zero =>
    intro i t m hi hC hI hL hv hf hm
    cases m with
    | zero => omega
    | succ m =>
      show t_X5_setPages_s27 _ t (x : Int) v (e : Int) _ = _
      unfold t_X5_setPages_s27
      rw [if_pos (by omega), Nat.add_zero, ← hf, tvA_id]
  | succ n ih =>
    intro i t m hi hC hI hL hv hf hm
    cases m with
    | zero => omega
    | succ m =>
      show t_X5_setPages_s27 _ t (x : Int) v (e : Int) _ = _
      unfold t_X5_setPages_s27
      rw [if_neg (by omega), q_rf 1 hC, Option.bind_some, q_rs hC hI (by omega) hv, Option.bind_some, w1 (by omega), set_tvA, hf]
      have e1 : fu (rg f p i v) (p + i) v = rg f p (i + 1) v := by
        funext q
        unfold fu rg
        by_cases h1 : q = p + i
        · rw [if_pos h1, if_pos (by omega)]
        · rw [if_neg h1]
          by_cases h2 : p ≤ q ∧ q < p + i
          · rw [if_pos h2, if_pos (by omega)]
          · rw [if_neg h2, if_neg (by omega)]
      rw [e1, show p + i + 1 = p + (i + 1) by omega, ih (i + 1) (tvA t x (gf 5 1) (rg f p (i + 1) v)) m (by omega) hC hI hL hv (tV_same _ _ _ _) (by omega), tvA_tvA, show i + 1 + n = i + (n + 1) by omega]
theorem setPages_eq {t : Th} {x s o c p : Nat} {v : Int} (hC : tC t x = 5 + 1) (hI : 0 ≤ tI t x 1) (hL : tL t x 1 = 256) (hs : tC t s = 3 + 1) (h1 : tV t s (gf 3 1) 0 = (p : Int)) (h0 : tV t s (gf 3 0) 0 = (c : Int)) (hc : tC t c = 1 + 1) (h3 : tV t c (gf 1 3) 0 = (o : Int)) (ho : o ≤ 3) (hp : p + 2 ^ o ≤ 256) (hv : v < 0 ∨ tC t v.toNat = 4) : t_X5_setPages t (x : Int) (s : Int) v = some (0, tvA t x (gf 5 1) (rg (tV t x (gf 5 1)) p (2 ^ o) v)) := by
  unfold t_X5_setPages
  have h8 : 2 ^ o ≤ 8 := Nat.pow_le_pow_right (n := 2) (by omega) ho
  rw [q_gt 1 hs, Option.bind_some, h1, q_gt 0 hs, Option.bind_some, h0, q_gt 3 hc, Option.bind_some, h3, Option.bind_some, ish1 o (by omega), wa (by omega)]
  have e1 : imn ((p + 2 ^ o : Nat) : Int) 256 = ((p + 2 ^ o : Nat) : Int) := by
    unfold imn
    rw [if_neg]
    intro q
    have q2 : (256 : Nat) < p + 2 ^ o := Int.ofNat_lt.mp q
    omega
  rw [e1]
  have e2 : rg (tV t x (gf 5 1)) p 0 v = tV t x (gf 5 1) := by
    funext q
    exact if_neg (by omega)
  have := sp_loop (x := x) (p := p) (e := p + 2 ^ o) (v := v) hp (tV t x (gf 5 1)) (2 ^ o) 0 t fuel (by omega) hC hI hL hv e2.symm (by show _ < 40000; omega)
  rw [Nat.add_zero, Nat.zero_add] at this
  exact this
section
variable {t : Th} {x b : Nat} {ca la sa : Nat → Nat} {N N' : Mm} {LS FL : Nat → List Nat} {hz : Nat → Nat} {p i l : Nat}
theorem ca_inj (kC : KC t ca la N) {c d : Nat} (hc : Lv N c) (hd : Lv N d) (h : ca c = ca d) : c = d := by
  have h1 := (kC.1 c hc).2.1.1
  have h2 := (kC.1 d hd).2.1.1
  rw [h] at h1
  omega
theorem giveT (hP : WP N) (hG : WG N) (kH : KH t x b ca sa N) (kB : KB t b N) (kC : KC t ca la N) (kI : KI t sa ca N) (kL : KL t sa la N LS) (hGL : GL N LS) (hp : Sl N p) (hl : l < 24) (hpl : p ∈ LS l) : ∃ t', t_X5_giveBack t (x : Int) (sa p : Int) = some (((2 ^ oN N (wN N p) : Nat) : Int), t') ∧ KH t' x b ca sa (gsS N p) ∧ KB t' b (gsS N p) ∧ KL t' sa la N (lu LS l ((LS l).erase p)) ∧ Fe t t' [gf 3 4, gf 3 5, gf 3 6, gf 4 0, gf 1 9, gf 5 1, gf 0 0, gf 0 1] ∧ tC t' = tC t ∧ tI t' = tI t ∧ tL t' = tL t ∧ tN t' = tN t ∧ tV t' (ca (wN N p)) (gf 1 9) 0 = wr (tV t (ca (wN N p)) (gf 1 9) 0 - 1) ∧ ∀ a, a ≠ ca (wN N p) → tC t a = 1 + 1 → tV t' a (gf 1 9) 0 = tV t a (gf 1 9) 0 := by
  obtain ⟨k1, c1, c2, c3, c4⟩ := sl_c hG kC kI hp
  obtain ⟨d1, d2, d3⟩ := sl_pc hP hG hp
  obtain ⟨g1, g2, g3, g4, g5, g6⟩ := hG.2 p hp
  have hp2 := hp.1
  have hlw := ((hGL l hl).2.1 p hpl).2
  obtain ⟨t1, u1, u2, u3, u4, u5, u6, u7, u8⟩ := unlist_eq kC kI kL hGL hl (by rw [← hlw]; exact g3) hpl
  rw [← hlw] at u1
  have kC1 := kc_same u3 (kcj _ (by decide)) u6 u7 kC
  have kI1 := ki_fe u3 (by decide) (by decide) (by decide) kI
  have hCa1 := (kC1.1 _ g3).1
  have e19 : tV t1 (ca (wN N p)) (gf 1 9) 0 = tV t (ca (wN N p)) (gf 1 9) 0 := fe_v u3 k1.1 (by decide) 0
  have f2 := fe_set t1 (ca (wN N p)) (gf 1 9) 0 (wr (tV t (ca (wN N p)) (gf 1 9) 0 - 1))
  generalize ht2 : tset t1 (ca (wN N p)) (gf 1 9) 0 (wr (tV t (ca (wN N p)) (gf 1 9) 0 - 1)) = t2 at f2
  have t2C : tC t2 = tC t := by rw [← ht2]; exact u5
  have t2I : tI t2 = tI t := by rw [← ht2]; exact u6
  have t2L : tL t2 = tL t := by rw [← ht2]; exact u7
  have t2N : tN t2 = tN t := by rw [← ht2]; exact u8
  have kC2 := kc_same f2 (kcj _ (by decide)) (by rw [t2I, u6]) (by rw [t2L, u7]) kC1
  have kI2 := ki_fe f2 (by decide) (by decide) (by decide) kI1
  have kH2 := kh_fe f2 (by decide) (by decide) (by decide) (by decide) (kh_fe u3 (by decide) (by decide) (by decide) (by decide) kH)
  have kB2 := kb_fe f2 (by decide) (by decide) (kb_fe u3 (by decide) (by decide) kB)
  have hGL2 := gl_erase hGL hl hpl
  have kL2 := kl_fe f2 (by decide) (by decide) (by decide) (by decide) kC1 kI1 (lsm hGL2.1) u2
  have hset := setPages_eq (t := t2) (x := x) (s := sa p) (o := oN N (wN N p)) (c := ca (wN N p)) (p := p) (v := -1) kH2.1 kH2.2.1.1 kH2.2.1.2 (kI2 p hp).1 (kI2 p hp).2.2.1 (kI2 p hp).2.1 (kC2.1 _ g3).1 (by rw [(kC2.1 _ g3).2.1.2.2.2.1]; exact d1.1.1) d1.1.2 d3 (Or.inl (by decide))
  generalize ht3 : tvA t2 x (gf 5 1) (rg (tV t2 x (gf 5 1)) p (2 ^ oN N (wN N p)) (-1)) = t3 at hset
  have f3 : Fe t2 t3 [gf 5 1] := by rw [← ht3]; exact fe_tvA _ _ _ _
  have t3C : tC t3 = tC t := by rw [← ht3]; exact t2C
  have t3I : tI t3 = tI t := by rw [← ht3]; exact t2I
  have t3L : tL t3 = tL t := by rw [← ht3]; exact t2L
  have t3N : tN t3 = tN t := by rw [← ht3]; exact t2N
  have kC3 := kc_same f3 (kcj _ (by decide)) (by rw [t3I, t2I]) (by rw [t3L, t2L]) kC2
  have kI3 := ki_fe f3 (by decide) (by decide) (by decide) kI2
  have kB3 := kb_fe f3 (by decide) (by decide) kB2
  have kL3 := kl_fe f3 (by decide) (by decide) (by decide) (by decide) kC2 kI2 (lsm hGL2.1) kL2
  have x0 : tV t3 x (gf 5 0) 0 = (b : Int) := by rw [fe_v f3 kH2.1 (by decide)]; exact kH2.2.2.2.1
  have hgb := gb_eq (t := t3) (b := b) (o := oN N (wN N p)) (p := p) kB3.1 kB3.2.1.1 kB3.2.1.2 (by have := d1.1.2; omega) hp2 g5
  generalize ht4 : tset (tvA t3 b (gf 0 0) (gF (6 - oN N (wN N p)) (tV t3 b (gf 0 0)) p (oN N (wN N p)))) b (gf 0 1) 0 (wr (tV t3 b (gf 0 1) 0 + ((2 ^ oN N (wN N p) : Nat) : Int))) = t4 at hgb
  have f4 : Fe t3 t4 [gf 0 0, gf 0 1] := by rw [← ht4]; exact fe_sub (fe_trans (fe_tvA _ _ _ _) (fe_set _ _ _ _ _)) (by decide)
  have t4C : tC t4 = tC t := by rw [← ht4]; exact t3C
  have t4I : tI t4 = tI t := by rw [← ht4]; exact t3I
  have t4L : tL t4 = tL t := by rw [← ht4]; exact t3L
  have t4N : tN t4 = tN t := by rw [← ht4]; exact t3N
  have kC4 := kc_same f4 (kcj _ (by decide)) (by rw [t4I, t3I]) (by rw [t4L, t3L]) kC3
  have kI4 := ki_fe f4 (by decide) (by decide) (by decide) kI3
  have kL4 := kl_fe f4 (by decide) (by decide) (by decide) (by decide) kC3 kI3 (lsm hGL2.1) kL3
  have ff : Fe t t4 [gf 3 4, gf 3 5, gf 3 6, gf 4 0, gf 1 9, gf 5 1, gf 0 0, gf 0 1] := fe_sub (fe_trans (fe_trans (fe_trans u3 f2) f3) f4) (by decide)
  have hEs := gs_es (N := N) (p := p)
  refine ⟨t4, ?_, ?_, ?_, kL4, ff, t4C, t4I, t4L, t4N, ?_, fun a ha hCa => ?_⟩
  · unfold t_X5_giveBack
    rw [q_gt 0 c1, Option.bind_some, c2, q_ck k1.1, Option.bind_some, u1, Option.bind_some]
    dsimp only
    rw [q_gt 0 (kI1 p hp).1, Option.bind_some, (kI1 p hp).2.1, q_gt 9 hCa1, Option.bind_some, e19, q_pt 9 _ hCa1, Option.bind_some, ht2, q_ck kH2.1, Option.bind_some, hset, Option.bind_some]
    dsimp only
    rw [q_gt 0 (show tC t3 x = 5 + 1 by rw [t3C]; exact kH.1), Option.bind_some, x0, q_gt 1 (kI3 p hp).1, Option.bind_some, (kI3 p hp).2.2.1, q_gt 0 (kI3 p hp).1, Option.bind_some, (kI3 p hp).2.1, q_gt 3 (kC3.1 _ g3).1, Option.bind_some, (kC3.1 _ g3).2.1.2.2.2.1, d1.1.1, q_ck kB3.1, Option.bind_some, hgb, Option.bind_some]
    dsimp only
    rw [q_gt 0 (kI4 p hp).1, Option.bind_some, (kI4 p hp).2.1, q_gt 3 (kC4.1 _ g3).1, Option.bind_some, (kC4.1 _ g3).2.1.2.2.2.1, d1.1.1, ish1 _ (by have := d1.1.2; omega)]
  · obtain ⟨a1, a2, a3, a4, a5, a6, a7⟩ := kH2
    have hx4 : tC t4 x = 5 + 1 := by rw [t4C]; exact kH.1
    have hxx : ∀ k, k < 4 → k ≠ 1 → ∀ i, tV t4 x (gf 5 k) i = tV t2 x (gf 5 k) i := fun k hk h1 i => by
      have hn : gf 5 k ∉ [gf 5 1] ++ [gf 0 0, gf 0 1] := by
        unfold gf
        intro q
        rcases List.mem_append.mp q with q | q
        · have := List.mem_singleton.mp q; omega
        · rcases List.mem_cons.mp q with q | q
          · omega
          · have := List.mem_singleton.mp q; omega
      exact fe_v (fe_trans f3 f4) a1 hn i
    refine ⟨hx4, by rw [t4I, t4L]; exact kH.2.1, by rw [t4I, t4L]; exact kH.2.2.1, by rw [hxx 0 (by decide) (by decide)]; exact a4, by rw [hxx 3 (by decide) (by decide)]; exact a5, fun q hq => ?_, fun c hc => ?_⟩
    · have e5 : tV t4 x (gf 5 1) q = rg (tV t2 x (gf 5 1)) p (2 ^ oN N (wN N p)) (-1) q := by
        rw [fe_v f4 (show tC t3 x = 5 + 1 by rw [t3C]; exact kH.1) (by decide), ← ht3, tV_same]
      rw [e5, gs_2]
      unfold rg
      by_cases e : p ≤ q ∧ q < p + 2 ^ oN N (wN N p)
      · rw [if_pos e, if_pos e, if_pos (by decide)]
      · rw [if_neg e, if_neg e]; exact a6 q hq
    · rw [es_lv hEs, hxx 2 (by decide) (by decide)]; exact a7 c hc
  · have hcn : cn (N 2) 256 = cn ((gsS N p) 2) 256 + 2 ^ oN N (wN N p) := by
      have := cn_add (f := (gsS N p) 2) (g := N 2) (p := p) (m := 2 ^ oN N (wN N p)) 256 (fun q _ hq => by rw [gs_2, if_neg hq]) (fun q h1 h2 => by
        rw [gs_2, if_pos ⟨h1, h2⟩]
        have := (g6 q h1 h2).2
        omega)
      rw [this, if_neg (by omega)]
      split <;> omega
    have hle := cn_le (N 2) 256
    refine ⟨by rw [t4C]; exact kB.1, by rw [t4I, t4L]; exact kB.2.1, fun q hq => ?_, ?_⟩
    · have : tV t4 b (gf 0 0) q = gF (6 - oN N (wN N p)) (tV t3 b (gf 0 0)) p (oN N (wN N p)) q := by
        rw [← ht4, tV_set, if_neg (fun q => by have := q.2.1; revert this; decide), tV_same]
      rw [this]
      exact gF_congr _ _ (by have := d1.1.2; omega) p _ _ hp2 g5 (fun j hj => kB3.2.2.1 j hj) q hq
    · rw [← ht4, tV_set, if_pos ⟨rfl, rfl, rfl⟩, kB3.2.2.2, wr_eq ⟨by omega, by omega⟩]
      omega
  · rw [fe_v (fe_trans f3 f4) (show tC t2 (ca (wN N p)) = 1 + 1 by rw [t2C]; exact k1.1) (by decide), ← ht2, tV_set, if_pos ⟨rfl, rfl, rfl⟩]
  · rw [fe_v (fe_trans f3 f4) (show tC t2 a = 1 + 1 by rw [t2C]; exact hCa) (by decide), ← ht2, tV_set, if_neg (fun q => ha q.1)]
    exact fe_v u3 hCa (by decide) 0
theorem kc_es (hE : Es N N') (h : KC t ca la N) : KC t ca la N' := by
  have := kc_ep (es_ep hE) h
  exact this
theorem kv_es (hE : Es N N') (h12 : N' 12 = N 12) (h13 : N' 13 = N 13) (h : KV t ca N) : KV t ca N' := by
  have := kv_ep (es_ep hE) (by rw [msA_ne (by decide)]; exact h12) (by rw [msA_ne (by decide)]; exact h13) h
  exact this
theorem kl_es (hE : Es N N') (h : KL t sa la N LS) : KL t sa la N' LS := by
  have := kl_ep (es_ep hE) h
  exact this
/-- a slab all of whose objects are free is given back on both sides -/
theorem give_pair (hW : WW N LS FL) (hM : WM N hz) (hK : KK t x b ca la sa N LS FL) (hp : Sl N p) (hf : ∀ i, i < fN N (wN N p) → N 18 (U N p i) = 1) : ∃ t' N', t_X5_giveBack t (x : Int) (sa p : Int) = some (((2 ^ oN N (wN N p) : Nat) : Int), t') ∧ g_X6_giveSlab N (p : Int) = some (((2 ^ oN N (wN N p) : Nat) : Int), N') ∧ WW N' (lu LS (3 * wN N p + wh N p) ((LS (3 * wN N p + wh N p)).erase p)) FL ∧ WM N' hz ∧ KK t' x b ca la sa N' (lu LS (3 * wN N p + wh N p) ((LS (3 * wN N p + wh N p)).erase p)) FL ∧ (∀ b, b ≠ 21 → b ≠ 22 → N' b = (gsS N p) b) ∧ Fe t t' [gf 3 4, gf 3 5, gf 3 6, gf 4 0, gf 1 9, gf 5 1, gf 0 0, gf 0 1] ∧ tC t' = tC t ∧ tI t' = tI t ∧ tL t' = tL t ∧ tN t' = tN t := by
  obtain ⟨hP, hB, hG, hS, hZ, hR⟩ := hW
  obtain ⟨kH, kB, kC, kV, kN', kI, kS, kL⟩ := hK
  obtain ⟨N', n1, n2, n3, n4, n5, n6, n7, n8, n9⟩ := giveSlab_eq hP hB hG hS hZ hR hM hp hf
  have hwl := wh_lt (N := N) (p := p)
  have g2 := (hG.2 p hp).2.1
  have g3 := (hG.2 p hp).2.2.1
  have hGL := wr_gl hR
  have hpl : p ∈ LS (3 * wN N p + wh N p) := ((hR.2 _ (by omega)).2 p).mpr ⟨hp, rfl⟩
  obtain ⟨t', r1, r2, r3, r4, r5, r6, r7, r8, r9, r10, r11⟩ := giveT hP hG kH kB kC kI kL hGL hp (by omega) hpl
  have hEg : Ep (gsS N p) N' := by
    refine ⟨?_, ?_, ?_, ?_, ?_, ?_, ?_, ?_, ?_, ?_, ?_, ?_⟩ <;> exact n2 _ (by decide) (by decide)
  have hEs : Es N N' := by
    refine ⟨?_, ?_, ?_, ?_, ?_, ?_, ?_, ?_, ?_, ?_, ?_⟩ <;> exact n2 _ (by decide) (by decide)
  have kC' := kc_same r5 (kcj _ (by decide)) r7 r8 kC
  have kI' := ki_fe r5 (by decide) (by decide) (by decide) kI
  have hsl : ∀ q, Sl N' q ↔ (Sl N q ∧ q ≠ p) := fun q => by rw [ep_sl hEg]; exact gs_sl hG hp q
  have hinj : ∀ j k, j < fN N (wN N p) → k < fN N (wN N p) → U N p j = U N p k → j = k := fun j k hj hk q => (u_inj hP hG hp hj hp hk q).2
  refine ⟨t', N', r1, n1, ⟨n3, n4, n5, n6, n7, n8⟩, n9, ⟨kh_ep hEg r2, kb_ep hEg (n2 1 (by decide) (by decide)) r3, kc_es hEs kC', kv_es hEs (n2 12 (by decide) (by decide)) (n2 13 (by decide) (by decide)) (kv_fe r5 (by decide) (by decide) kC kV), fun c hc => ?_, fun q hq => ?_, fun q hq => ?_, kl_es hEs r4⟩, n2, r5, r6, r7, r8, r9⟩
  · rw [es_lv hEs] at hc
    have hold := kN' c hc
    have hlen : ((LS (3 * wN N p + wh N p)).erase p).length = (LS (3 * wN N p + wh N p)).length - 1 := List.length_erase_of_mem hpl
    have hpos : 0 < (LS (3 * wN N p + wh N p)).length := List.length_pos_of_mem hpl
    have step : ∀ k, ((lu LS (3 * wN N p + wh N p) ((LS (3 * wN N p + wh N p)).erase p) k).length : Int) = ((LS k).length : Int) - (if k = 3 * wN N p + wh N p then 1 else 0) := fun k => by
      by_cases e2 : k = 3 * wN N p + wh N p
      · rw [e2, lu_same, if_pos rfl, hlen]; omega
      · rw [lu_ne e2, if_neg e2]; omega
    rw [step, step, step]
    by_cases e : c = wN N p
    · have hb : ∀ l, l < 24 → (LS l).length ≤ 256 := fun l hl => (hR.1 l hl).2.1
      have h1 := hb (3 * wN N p) (by omega)
      have h2 := hb (3 * wN N p + 1) (by omega)
      have h3 := hb (3 * wN N p + 2) (by omega)
      subst e
      rw [r10, hold, wr_eq ⟨by omega, by omega⟩]
      repeat' split
      all_goals omega
    · rw [r11 (ca c) (fun z => e (ca_inj kC hc g3 z)) (kC.1 c hc).1, hold, if_neg (by omega), if_neg (by omega), if_neg (by omega)]
      omega
  · obtain ⟨h1, h2⟩ := (hsl q).mp hq
    rw [es_w hEs, hEs.2.2.2.2.2.2.2.2.2.2]
    exact kI' q h1
  · obtain ⟨h1, h2⟩ := (hsl q).mp hq
    have kS' := ks_fe r5 (by decide) (by decide) (by decide) (by decide) (by decide) kI kS
    refine ksp_congr (kS' q h1) (fun _ _ => rfl) (fun _ => rfl) (fun _ => rfl) (by rw [n2 16 (by decide) (by decide)]; rfl) rfl (es_w hEs q) (es_f hEs _) (fun j => es_u hEs q j) (by rw [hEs.2.2.2.2.2.1]) (fun j hj => ?_) (fun j hj => by rw [n2 20 (by decide) (by decide)]; rfl)
    rw [n2 18 (by decide) (by decide)]
    exact zr_out _ (fun i hi => u_ne hP hG hp hi h1 hj (fun z => h2 z.1))
end
