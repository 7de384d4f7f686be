section
variable {t : Th} {x b : Nat} {ca la sa mg : Nat → Nat} {N N' : Mm} {LS FL : Nat → List Nat} {hz dz : Nat → Nat} {p i l c k : Nat}
theorem sh_loop (hP : WP N) (hG : WG N) (hS : WS N FL) (hp : Sl N p) : ∀ (n i m : Nat), i + n = fN N (wN N p) → (∀ j r, FL p = j :: r → i ≤ j) → n < m → g_X6_slab_b78 m N (p : Int) (i : Int) = some (hdA (FL p), N) := by
  obtain ⟨d1, d2, d3⟩ := sl_pc hP hG hp
  have hfl := fn_le d1
  obtain ⟨a1, a2, a3, a4, a5, a6⟩ := hS p hp
  have hp2 := hp.1
  have g1 := (hG.2 p hp).1
  intro n
  induction n with
  | zero =>
    intro i m hi hj hm
    cases m with
    | zero => omega
    | succ m =>
      show g_X6_slab_s78 _ N (p : Int) (i : Int) = _
      unfold g_X6_slab_s78 g_X6_slab_j116 g_X6_slab_j138
      rw [q_mg (show p < mlen 14 from hp2), Option.bind_some, g1, q_mg (show wN N p < mlen 10 from d2), Option.bind_some, d1.2.2.2.1.1, if_pos (by omega), Option.bind_some, q_mg (show wN N p < mlen 10 from d2), Option.bind_some, d1.2.2.2.1.1, if_pos (by omega)]
      cases hF : FL p with
      | nil => rfl
      | cons j r =>
        exfalso
        have := hj j r hF
        have := a3 j (by rw [hF]; exact List.mem_cons_self)
        omega
  | succ n ih =>
    intro i m hi hj hm
    cases m with
    | zero => omega
    | succ m =>
      have hif : i < fN N (wN N p) := by omega
      show g_X6_slab_s78 _ N (p : Int) (i : Int) = _
      unfold g_X6_slab_s78 g_X6_slab_j116 g_X6_slab_j138
      rw [q_mg (show p < mlen 14 from hp2), Option.bind_some, g1, q_mg (show wN N p < mlen 10 from d2), Option.bind_some, d1.2.2.2.1.1, if_neg (by omega), un_eq hP hG hp hif, Option.bind_some]
      dsimp only
      rw [q_mg (show p < mlen 17 from hp2), Option.bind_some, a4]
      by_cases e : (U N p i : Int) = UL N p (FL p)
      · rw [if_pos e, q_mg (show p < mlen 14 from hp2), Option.bind_some, g1, q_mg (show wN N p < mlen 10 from d2), Option.bind_some, d1.2.2.2.1.1, if_neg (by omega)]
        cases hF : FL p with
        | nil => rw [hF] at e; have : (U N p i : Int) = -1 := e; omega
        | cons j r =>
          rw [hF] at e
          have e' : (U N p i : Int) = (U N p j : Int) := e
          have := (u_inj hP hG hp hif hp (a3 j (by rw [hF]; exact List.mem_cons_self)) (by omega)).2
          subst this
          rfl
      · rw [if_neg e, w1 (by omega)]
        refine ih (i + 1) m (by omega) (fun j r hF => ?_) (by omega)
        have := hj j r hF
        rcases Nat.lt_or_ge i j with q | q
        · omega
        · exfalso
          have : j = i := by omega
          subst this
          exact e (by rw [hF]; rfl)
theorem o_slab (h : CR x t N) (p0 p1 : Int) : ∃ code rv t' bb N', t_X5_slab t (x : Int) p0 p1 = some (code, rv, t') ∧ (code = 0 ∨ code = 1 ∨ code = 2) ∧ g_X6_slab N p0 p1 = some (bb, N') ∧ N' 0 0 = kL_slab code ∧ (code = 0 → bb = rv) ∧ CR x t' N' := by
  obtain ⟨b, ca, la, sa, mg, LS, FL, hz, dz, hA, hH⟩ := id h
  obtain ⟨⟨hP, hB, hG, hS, hZ, hR⟩, hM, ⟨kH, kB, kC, kV, kN', kI, kS, kL⟩, -⟩ := hA
  rcases sat_cs hG kH p0 with ⟨h1, h2, -⟩ | ⟨X, p, h0, hX, h1, hp, h3, h4⟩
  · refine ⟨1, 0, t, 0, mup N 0 0 1, ?_, Or.inr (Or.inl rfl), ?_, rfl, fun q => (by omega), cr_0 h 1⟩
    · unfold t_X5_slab
      rw [q_ck kH.1, Option.bind_some, h1, Option.bind_some]
      dsimp only
      rw [if_neg (by decide)]
    · unfold g_X6_slab g_X6_slab_j29
      rw [h2, Option.bind_some]
      dsimp only
      rw [if_neg (by decide), rf_p _ (by decide), Option.bind_some]
      dsimp only
      rw [if_neg (by decide)]
  · have hp2 := hp.1
    obtain ⟨k1, c1, c2, c3, c4⟩ := sl_c hG kC kI hp
    obtain ⟨d1, d2, d3⟩ := sl_pc hP hG hp
    have evT : t_X5_slab t (x : Int) p0 p1 = if p1 = 0 then some (0, ((1024 * p : Nat) : Int), t) else if p1 = 1 then some (0, N 15 p, t) else if p1 = 2 then some (0, N 16 p, t) else if p1 = 3 then some (0, hdA (FL p), t) else some (2, 0, t) := by
      unfold t_X5_slab
      rw [q_ck kH.1, Option.bind_some, h3, Option.bind_some]
      dsimp only
      rw [if_pos (by omega), q_ck c1, Option.bind_some, fb_eq kI hp, Option.bind_some, q_gt 2 c1, Option.bind_some, c4, q_gt 3 c1, Option.bind_some, (kS p hp).1, Option.bind_some, ff_eq hG hP kC kI kS hp, Option.bind_some]
    by_cases hw : 0 ≤ p1 ∧ p1 ≤ 3
    · have hE : Ep N (mup N 0 0 0) := ⟨rfl, rfl, rfl, rfl, rfl, rfl, rfl, rfl, rfl, rfl, rfl, rfl⟩
      have hS0 : WS (mup N 0 0 0) FL := fun q hq => by
        obtain ⟨a1, a2, a3, a4, a5, a6⟩ := hS q hq
        exact ⟨a1, a2, a3, a4, ch_congr hE _ (fun _ _ => rfl) a5, a6⟩
      have e3 := sh_loop (ep_p hE rfl rfl hP) (ep_g hE hG) hS0 (p := p) hp (fN N (wN N p)) 0 fuel (by show _ = fN N (wN N p); omega) (fun j r _ => by omega) (by have := fn_le d1; show _ < 40000; omega)
      have evG : g_X6_slab N p0 p1 = if 3 ≤ p1 then some (hdA (FL p), mup N 0 0 0) else if p1 ≠ 0 then (if p1 ≠ 1 then some (N 16 p, mup N 0 0 0) else some (N 15 p, mup N 0 0 0)) else some (((1024 * p : Nat) : Int), mup N 0 0 0) := by
        unfold g_X6_slab g_X6_slab_j29 g_X6_slab_j74
        rw [h4, Option.bind_some]
        dsimp only
        rw [if_pos (by omega), in_y hw, Option.bind_some]
        dsimp only
        rw [if_pos (by decide), rf_0, Option.bind_some]
        dsimp only
        rw [if_pos rfl, q_mg (show p < mlen 16 from hp2), Option.bind_some, q_mg (show p < mlen 15 from hp2), Option.bind_some, show (1024 : Int) * (p : Int) = ((1024 * p : Nat) : Int) by omega, wn (by omega)]
        rw [show g_X6_slab_b78 fuel (mup N 0 0 0) (p : Int) 0 = some (hdA (FL p), mup N 0 0 0) from e3]
        rfl
      rw [evT, evG]
      have hcs : p1 = 0 ∨ p1 = 1 ∨ p1 = 2 ∨ p1 = 3 := by omega
      rcases hcs with rfl | rfl | rfl | rfl
      · exact ⟨0, _, t, _, mup N 0 0 0, by rw [if_pos rfl], Or.inl rfl, by rw [if_neg (by decide), if_neg (by decide)], rfl, fun _ => rfl, cr_0 h 0⟩
      · exact ⟨0, _, t, _, mup N 0 0 0, by rw [if_neg (by decide), if_pos rfl], Or.inl rfl, by rw [if_neg (by decide), if_pos (by decide), if_neg (by decide)], rfl, fun _ => rfl, cr_0 h 0⟩
      · exact ⟨0, _, t, _, mup N 0 0 0, by rw [if_neg (by decide), if_neg (by decide), if_pos rfl], Or.inl rfl, by rw [if_neg (by decide), if_pos (by decide), if_pos (by decide)], rfl, fun _ => rfl, cr_0 h 0⟩
      · exact ⟨0, _, t, _, mup N 0 0 0, by rw [if_neg (by decide), if_neg (by decide), if_neg (by decide), if_pos rfl], Or.inl rfl, by rw [if_pos (by decide)], rfl, fun _ => rfl, cr_0 h 0⟩
    · refine ⟨2, 0, t, 0, mup N 0 0 2, ?_, Or.inr (Or.inr rfl), ?_, rfl, fun q => (by omega), cr_0 h 2⟩
      · rw [evT, if_neg (by omega), if_neg (by omega), if_neg (by omega), if_neg (by omega)]
      · unfold g_X6_slab g_X6_slab_j29
        rw [h4, Option.bind_some]
        dsimp only
        rw [if_pos (by omega), in_n hw, Option.bind_some]
        dsimp only
        rw [if_neg (by decide), rf_p _ (by decide), Option.bind_some]
        dsimp only
        rw [if_neg (by decide)]
/-- a live object begins at an address: on both sides or on none -/
theorem live_cs (hW : WW N LS FL) (hK : KK t x b ca la sa N LS FL) (z : Int) : (∃ p i, Sl N p ∧ i < fN N (wN N p) ∧ z = ((8 * U N p i : Nat) : Int) ∧ N 18 (U N p i) = 2 ∧ g_X6_isLive N z = some (1, N) ∧ t_X5_slabAt t (x : Int) z = some ((sa p : Int), t) ∧ t_X3_liveBeginsAt t (sa p : Int) z = some (1, t) ∧ t_X3_numberOver t (sa p : Int) z = some ((i : Int), t)) ∨ (g_X6_isLive N z = some (0, N) ∧ (t_X5_slabAt t (x : Int) z = some (-1, t) ∨ ∃ p, Sl N p ∧ t_X5_slabAt t (x : Int) z = some ((sa p : Int), t) ∧ t_X3_liveBeginsAt t (sa p : Int) z = some (0, t))) := by
  obtain ⟨hP, hB, hG, hS, hZ, hR⟩ := hW
  obtain ⟨kH, kB, kC, kV, kN', kI, kS, kL⟩ := hK
  have j0 : ∀ N, g_X6_isLive_j34 N = some (0, N) := fun N => by unfold g_X6_isLive_j34 g_X6_isLive_j35 rtM; rw [if_pos (Or.inl rfl)]
  have j1 : ∀ N, g_X6_isLive_j35 N 1 = some (1, N) := fun N => by unfold g_X6_isLive_j35 rtM; rw [if_pos (Or.inr rfl)]
  have evG : ∀ X : Nat, X < 262144 → g_X6_isLive N (X : Int) = if X % 8 = 0 ∧ N 18 (X / 8) = 2 then some (1, N) else some (0, N) := fun X hX => by
    unfold g_X6_isLive
    have er : irm (X : Int) 8 = some ((X % 8 : Nat) : Int) := by
      unfold irm
      rw [if_neg (by decide)]
      rfl
    rw [in_y ⟨by omega, by omega⟩, Option.bind_some]
    dsimp only
    rw [if_neg (by decide), er, Option.bind_some, show (8 : Int) = ((8 : Nat) : Int) from rfl, idn (by decide) (by omega), Option.bind_some, q_mg (show X / 8 < mlen 18 by show _ < 32768; omega), Option.bind_some, j0, j1]
    by_cases e : X % 8 = 0
    · rw [if_neg (by omega)]
      by_cases e2 : N 18 (X / 8) = 2
      · rw [if_neg (by simpa using e2), if_pos ⟨e, e2⟩]
      · rw [if_pos e2, if_neg (fun q => e2 q.2)]
    · rw [if_pos (by omega), if_neg (fun q => e q.1)]
  rcases sat_cs hG kH z with ⟨h1, h2, h3⟩ | ⟨X, p, h0, hX, h1, hp, h3, h4⟩
  · right
    refine ⟨?_, Or.inl h1⟩
    by_cases e : 0 ≤ z ∧ z < 262144
    · obtain ⟨X, rfl⟩ : ∃ X : Nat, z = (X : Int) := ⟨z.toNat, by omega⟩
      have hX : X < 262144 := by omega
      rw [evG X hX, if_neg]
      rintro ⟨q1, q2⟩
      obtain ⟨p, i, y1, y2, y3⟩ := hZ (X / 8) (by omega) (by omega)
      have := (u_ad hP hG y1 y2).2.1
      rw [← y3, show 8 * (X / 8) = X by omega] at this
      have := h3 X rfl hX
      omega
    · unfold g_X6_isLive
      rw [in_n (by omega), Option.bind_some]
      dsimp only
      rw [if_pos rfl, j0]
  · subst h0
    rcases lb_eq hP hG hS kC kI kS hp hX with ⟨i, y1, y2, y3, y4, y5⟩ | ⟨y1, y2⟩
    · left
      refine ⟨p, i, hp, y1, by rw [y2], y3, ?_, h3, y5, ?_⟩
      · rw [evG X hX, if_pos ⟨by omega, by rw [y2, show 8 * U N p i / 8 = U N p i by omega]; exact y3⟩]
      · rw [no_eq hP hG kC kI hp hX, y4]
    · right
      refine ⟨?_, Or.inr ⟨p, hp, h3, y2⟩⟩
      rw [evG X hX, if_neg]
      rintro ⟨q1, q2⟩
      obtain ⟨p', i, z1, z2, z3⟩ := hZ (X / 8) (by omega) (by omega)
      have hX8 : X = 8 * U N p' i := by omega
      have := (u_ad hP hG z1 z2).2.1
      rw [← hX8] at this
      have hpp : p' = p := by omega
      subst hpp
      exact y1 i z2 hX8 (by rw [← z3]; exact q2)
/-- what is not of slabs and objects stays when marks change -/
theorem aa_mark {v : Int} (hA : AA t x b ca la sa mg N LS FL hz dz) (hp : Sl N p) (hi : i < fN N (wN N p)) (hf : i ∉ FL p) : AA (tset t (sa p) (gf 3 10) i v) x b ca la sa mg (mup N 20 (U N p i) v) LS FL hz dz := by
  obtain ⟨hW, hM, hK, kP, kM, kZ, hT⟩ := hA
  obtain ⟨m1, m2, m3⟩ := mark_pair (v := v) hW hK hp hi hf
  have kC := hK.2.2.1
  have f1 := fe_set t (sa p) (gf 3 10) i v
  refine ⟨m2, hM, m3, kp_fe f1 (by decide) (by decide) (by decide) (by decide) kC kP, km_fe f1 (by decide) (by decide) kM, fun c hc => ?_, hT⟩
  rw [kz_fe f1 (by decide) kC kZ c hc]
  suffices q : lc (mup N 20 (U N p i) v) c 32768 = lc N c 32768 by rw [q]
  exact lc_congr 32768 (fun _ _ => Iff.rfl)
theorem nf_st (hS : WS N FL) (hp : Sl N p) (hi : i < fN N (wN N p)) (h : N 18 (U N p i) ≠ 1) : i ∉ FL p := by
  rcases (hS p hp).2.2.2.2.2 i hi with ⟨_, z⟩ | ⟨z, _⟩
  · exact absurd z h
  · exact z
theorem o_mark (h : CR x t N) (p0 p1 : Int) : ∃ code rv t' bb N', t_X5_mark t (x : Int) p0 p1 = some (code, rv, t') ∧ (code = 0 ∨ code = 1) ∧ g_X6_mark N p0 p1 = some (bb, N') ∧ N' 0 0 = kL_mark code ∧ (code = 0 → bb = rv) ∧ CR x t' N' := by
  obtain ⟨b, ca, la, sa, mg, LS, FL, hz, dz, hA, hH⟩ := id h
  have kH := hA.2.2.1.1
  rcases live_cs hA.1 hA.2.2.1 p0 with ⟨p, i, y1, y2, y3, y4, y5, y6, y7, y8⟩ | ⟨y1, y2⟩
  · have hf := nf_st hA.1.2.2.2.1 y1 y2 (by omega)
    have hc1 := (hA.2.2.1.2.2.2.2.2.1 p y1).1
    obtain ⟨m1, -⟩ := mark_pair (v := p1) hA.1 hA.2.2.1 y1 y2 hf
    have hu := (u_rng hA.1.1 hA.1.2.2.1 y1 y2).2.2.1
    have hA2 := aa_0 (aa_mark (v := p1) hA y1 y2 hf) 0
    refine ⟨0, N 20 (U N p i), tset t (sa p) (gf 3 10) i p1, N 20 (U N p i), mup (mup N 20 (U N p i) p1) 0 0 0, ?_, Or.inl rfl, ?_, rfl, fun _ => rfl, b, ca, la, sa, mg, LS, FL, hz, dz, hA2, hH⟩
    · unfold t_X5_mark
      rw [q_ck kH.1, Option.bind_some, y6, Option.bind_some]
      dsimp only
      rw [if_neg (by omega), q_ck hc1, Option.bind_some, y7, Option.bind_some]
      dsimp only
      rw [if_pos (by decide), q_ck hc1, Option.bind_some, y8, Option.bind_some]
      dsimp only
      rw [q_ck hc1, Option.bind_some, m1, Option.bind_some]
    · unfold g_X6_mark g_X6_mark_j14
      rw [y5, Option.bind_some]
      dsimp only
      rw [if_neg (by decide), rf_0, Option.bind_some]
      dsimp only
      rw [if_pos rfl, y3, show (8 : Int) = ((8 : Nat) : Int) from rfl, idn (by decide) (by omega), Option.bind_some, show 8 * U N p i / 8 = U N p i by omega, q_mg (show U N p i < mlen 20 from hu), Option.bind_some, Option.bind_some, q_ms (show U N p i < mlen 20 from hu), Option.bind_some]
      congr 2
      funext k j
      simp only [mup_ap]
      by_cases e1 : k = 20
      · subst e1; simp
      · by_cases e2 : k = 0
        · subst e2; simp
        · simp [e1, e2]
  · refine ⟨1, 0, t, 0, mup N 0 0 1, ?_, Or.inr rfl, ?_, rfl, fun q => (by omega), cr_0 h 1⟩
    · unfold t_X5_mark t_X5_mark_j18
      rw [q_ck kH.1, Option.bind_some]
      rcases y2 with q | ⟨p, q1, q2, q3⟩
      · rw [q, Option.bind_some]
        dsimp only
        rw [if_pos (by decide)]
      · rw [q2, Option.bind_some]
        dsimp only
        rw [if_neg (by omega), q_ck (hA.2.2.1.2.2.2.2.2.1 p q1).1, Option.bind_some, q3, Option.bind_some]
        dsimp only
        rw [if_neg (fun z => z rfl)]
    · unfold g_X6_mark g_X6_mark_j14
      rw [y1, Option.bind_some]
      dsimp only
      rw [if_pos rfl, rf_p _ (by decide), Option.bind_some]
      dsimp only
      rw [if_neg (by decide)]
theorem o_reap (h : CR x t N) : ∃ r t' N', t_X5_reap t (x : Int) = some (r, t') ∧ g_X6_reap N = some (r, N') ∧ CR x t' N' := by
  obtain ⟨b, ca, la, sa, mg, LS, FL, hz, dz, hA, hH⟩ := h
  obtain ⟨r, t', N', LS', y1, y2, y3, y4, y5⟩ := reap_pair (aa_0 hA 0)
  refine ⟨r, t', N', y1, ?_, b, ca, la, sa, mg, LS', FL, hz, dz, y3, ?_⟩
  · unfold g_X6_reap
    rw [Option.bind_some, y2, Option.bind_some]
  · unfold HZ
    rw [y4 23 (by decide) (by decide) (by decide) (by decide) (by decide), y4 25 (by decide) (by decide) (by decide) (by decide) (by decide)]
    exact hH
end
