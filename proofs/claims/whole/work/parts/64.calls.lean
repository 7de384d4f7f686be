/-! the calls: helpers -/
def CR (x : Nat) (t : Th) (N : Mm) : Prop := ∃ (b : Nat) (ca la sa mg : Nat → Nat) (LS FL : Nat → List Nat) (hz dz : Nat → Nat), AA t x b ca la sa mg N LS FL hz dz ∧ HZ N hz dz
theorem kz_0 {t : Th} {ca : Nat → Nat} {N : Mm} (h : KZ t ca N) (v : Int) : KZ t ca (mup N 0 0 v) := fun c hc => by
  rw [h c hc]
  suffices q : lc (mup N 0 0 v) c 32768 = lc N c 32768 by rw [q]
  exact lc_congr 32768 (fun _ _ => Iff.rfl)
theorem aa_0 {t : Th} {x b : Nat} {ca la sa mg : Nat → Nat} {N : Mm} {LS FL : Nat → List Nat} {hz dz : Nat → Nat} (h : AA t x b ca la sa mg N LS FL hz dz) (v : Int) : AA t x b ca la sa mg (mup N 0 0 v) LS FL hz dz := by
  have hE : Ep N (mup N 0 0 v) := ⟨rfl, rfl, rfl, rfl, rfl, rfl, rfl, rfl, rfl, rfl, rfl, rfl⟩
  obtain ⟨⟨hP, hB, hG, hS, hZ, hR⟩, hM, ⟨kH, kB, kC, kV, kN', kI, kS, kL⟩, kP, kM, kZ, hT⟩ := h
  refine ⟨⟨ep_p hE rfl rfl hP, hB, ep_g hE hG, fun p hp => ?_, hZ, hR⟩, hM, ⟨kh_ep hE kH, kb_ep hE rfl kB, kc_ep hE kC, kv_ep hE rfl rfl kV, kn_ep hE kN', ki_ep hE kI, kS, kl_ep hE kL⟩, kP, kM, kz_0 kZ v, hT⟩
  obtain ⟨a1, a2, a3, a4, a5, a6⟩ := hS p hp
  exact ⟨a1, a2, a3, a4, ch_congr hE _ (fun _ _ => rfl) a5, a6⟩
theorem cr_0 {x : Nat} {t : Th} {N : Mm} (h : CR x t N) (v : Int) : CR x t (mup N 0 0 v) := by
  obtain ⟨b, ca, la, sa, mg, LS, FL, hz, dz, hA, hH⟩ := h
  exact ⟨b, ca, la, sa, mg, LS, FL, hz, dz, aa_0 hA v, hH⟩
theorem in_y {N : Mm} {v lo hi : Int} (h : lo ≤ v ∧ v ≤ hi) : g_X6_isIn N v lo hi = some (1, N) := by
  unfold g_X6_isIn g_X6_isIn_j14 g_X6_isIn_j15 rtM
  rw [if_neg (by omega), if_neg (by omega), if_pos (Or.inr rfl)]
theorem in_n {N : Mm} {v lo hi : Int} (h : ¬ (lo ≤ v ∧ v ≤ hi)) : g_X6_isIn N v lo hi = some (0, N) := by
  unfold g_X6_isIn g_X6_isIn_j14 g_X6_isIn_j15 rtM
  by_cases e : v < lo
  · rw [if_pos e, if_pos (Or.inl rfl)]
  · rw [if_neg e, if_pos (by omega), if_pos (Or.inl rfl)]
theorem rf_0 (N : Mm) : g_X6_refused N 0 = some (0, mup N 0 0 0) := by
  unfold g_X6_refused g_X6_refused_j14 rtM
  rw [Option.bind_some, if_pos (by decide), if_pos (Or.inl rfl)]
theorem rf_p (N : Mm) {v : Int} (h : 0 < v) : g_X6_refused N v = some (1, mup N 0 0 v) := by
  unfold g_X6_refused g_X6_refused_j14 rtM
  rw [Option.bind_some, if_neg (by omega), if_pos (Or.inr rfl)]
theorem rp_y {t : Th} {z : Int} (h : 0 ≤ z ∧ z < 4) : t_X5_requireProcessor t z = some (0, 0, t) := by
  unfold t_X5_requireProcessor
  rw [if_neg (by omega), if_pos (by omega)]
theorem rp_n {t : Th} {z : Int} (h : ¬ (0 ≤ z ∧ z < 4)) : t_X5_requireProcessor t z = some (2, 0, t) := by
  unfold t_X5_requireProcessor t_X5_requireProcessor_j9
  by_cases e : z < 0
  · rw [if_pos e]
  · rw [if_neg e, if_neg (by omega)]
section
variable {t : Th} {x b : Nat} {ca la sa mg : Nat → Nat} {N N' : Mm} {LS FL : Nat → List Nat} {hz dz : Nat → Nat} {p i l c k : Nat}
theorem ic_y (hP : WP N) (hc : Lv N c) : g_X6_isCache N (c : Int) = some (1, N) := by
  have h8 := hP.1
  have := hc.1
  unfold g_X6_isCache g_X6_isCache_j28 g_X6_isCache_j27 rtM
  rw [Option.bind_some, wr_eq (z := N 3 0 - 1) ⟨by omega, by omega⟩, in_y ⟨by omega, by omega⟩, Option.bind_some]
  dsimp only
  rw [if_neg (by decide), q_mg (show c < mlen 4 by show c < 8; omega), Option.bind_some, if_neg (by rw [hc.2]; decide), if_pos (Or.inr rfl)]
theorem ic_n (hP : WP N) {z : Int} (h : ¬ ∃ c : Nat, z = (c : Int) ∧ Lv N c) : g_X6_isCache N z = some (0, N) := by
  have h8 := hP.1
  unfold g_X6_isCache g_X6_isCache_j27 g_X6_isCache_j28 rtM
  rw [Option.bind_some, wr_eq (z := N 3 0 - 1) ⟨by omega, by omega⟩]
  by_cases e : 0 ≤ z ∧ z ≤ N 3 0 - 1
  · obtain ⟨c, rfl⟩ : ∃ c : Nat, z = (c : Int) := ⟨z.toNat, by omega⟩
    rw [in_y e, Option.bind_some]
    dsimp only
    rw [if_neg (by decide), q_mg (show c < mlen 4 by show c < 8; omega), Option.bind_some, if_pos (fun q => h ⟨c, rfl, by omega, q⟩), if_pos (Or.inl rfl)]
  · rw [in_n e, Option.bind_some]
    dsimp only
    rw [if_pos rfl, if_pos (Or.inl rfl)]
theorem kc_y (hP : WP N) (kH : KH t x b ca sa N) (hc : Lv N c) : t_X5_knownCache t (x : Int) (c : Int) = some (0, (ca c : Int), t) := by
  have h8 := hP.1
  have := hc.1
  unfold t_X5_knownCache
  rw [if_neg (by omega), if_neg (by omega), q_rf 2 kH.1, Option.bind_some, q_al kH.1 kH.2.2.1.1 (by rw [kH.2.2.1.2]; omega), Option.bind_some, (kH.2.2.2.2.2.2 c (by omega)).1 hc, if_pos (by omega), Option.bind_some, q_al kH.1 kH.2.2.1.1 (by rw [kH.2.2.1.2]; omega), Option.bind_some, (kH.2.2.2.2.2.2 c (by omega)).1 hc]
theorem kc_n (kH : KH t x b ca sa N) {z : Int} (h : ¬ ∃ c : Nat, z = (c : Int) ∧ Lv N c) : t_X5_knownCache t (x : Int) z = some (1, 0, t) := by
  unfold t_X5_knownCache t_X5_knownCache_j19
  by_cases e : z < 0
  · rw [if_pos e]
  · rw [if_neg e]
    by_cases e2 : 8 ≤ z
    · rw [if_pos e2]
    · obtain ⟨c, rfl⟩ : ∃ c : Nat, z = (c : Int) := ⟨z.toNat, by omega⟩
      rw [if_neg e2, q_rf 2 kH.1, Option.bind_some, q_al kH.1 kH.2.2.1.1 (by rw [kH.2.2.1.2]; omega), Option.bind_some, (kH.2.2.2.2.2.2 c (by omega)).2 (fun q => h ⟨c, rfl, q⟩), if_neg (by decide)]
theorem sat_no {z : Int} (h : ¬ (0 ≤ z ∧ z < 262144)) : t_X5_slabAt t (x : Int) z = some (-1, t) ∧ g_X6_slabAt N z = some (-1, N) := by
  constructor
  · unfold t_X5_slabAt t_X5_slabAt_j10 t_X5_slabAt_j24
    by_cases e : z < 0
    · rw [if_pos e]
    · rw [if_neg e, if_neg (by omega)]
  · unfold g_X6_slabAt g_X6_slabAt_j24
    rw [in_n (by omega), Option.bind_some]
    dsimp only
    rw [if_pos rfl]
theorem sat_m {X : Nat} (hX : X < 262144) : g_X6_slabAt N (X : Int) = some (N 2 (X / 1024), N) := by
  unfold g_X6_slabAt g_X6_slabAt_j24
  rw [in_y ⟨by omega, by omega⟩, Option.bind_some]
  dsimp only
  rw [if_neg (by decide), show (1024 : Int) = ((1024 : Nat) : Int) from rfl, idn (by decide) (by omega), Option.bind_some, q_mg (show X / 1024 < mlen 2 by show _ < 256; omega), Option.bind_some]
/-- the slab over any address, on both sides: none, or the same -/
theorem sat_cs (hG : WG N) (kH : KH t x b ca sa N) (z : Int) : (t_X5_slabAt t (x : Int) z = some (-1, t) ∧ g_X6_slabAt N z = some (-1, N) ∧ ∀ X : Nat, z = (X : Int) → X < 262144 → N 2 (X / 1024) = -1) ∨ ∃ X p : Nat, z = (X : Int) ∧ X < 262144 ∧ N 2 (X / 1024) = (p : Int) ∧ Sl N p ∧ t_X5_slabAt t (x : Int) z = some ((sa p : Int), t) ∧ g_X6_slabAt N z = some ((p : Int), N) := by
  by_cases e : 0 ≤ z ∧ z < 262144
  · obtain ⟨X, rfl⟩ : ∃ X : Nat, z = (X : Int) := ⟨z.toNat, by omega⟩
    have hX : X < 262144 := by omega
    rw [sat_eq kH hX, sat_m hX]
    rcases hG.1 (X / 1024) (by omega) with h | ⟨p, h1, h2, h3, h4⟩
    · left
      rw [h, if_pos (by decide)]
      refine ⟨rfl, rfl, fun Y hY _ => ?_⟩
      have : Y = X := by omega
      subst this; exact h
    · right
      refine ⟨X, p, rfl, hX, h2, h1, ?_, ?_⟩
      · rw [h2, if_neg (by omega), Int.toNat_natCast]
      · rw [h2]
  · left
    obtain ⟨h1, h2⟩ := sat_no (t := t) (x := x) (N := N) e
    exact ⟨h1, h2, fun X hX h => absurd ⟨by omega, by omega⟩ e⟩
end
/-! the calls that only read -/
theorem pg_loop {N : Mm} {w : Int} : ∀ (n i m : Nat), i + n = 256 → n < m → g_X6_pages_b9 m N w (cn (N 2) i : Int) (i : Int) = some (if w ≠ 0 then (if w ≠ 1 then -1 else (cn (N 2) 256 : Int)) else 256 - (cn (N 2) 256 : Int), N) := by
  intro n
  induction n with
  | zero =>
    intro i m hi hm
    cases m with
    | zero => omega
    | succ m =>
      show g_X6_pages_s9 _ N w _ (i : Int) = _
      unfold g_X6_pages_s9 g_X6_pages_j61
      have : i = 256 := by omega
      subst this
      have hle := cn_le (N 2) 256
      rw [if_pos (by omega), wr_eq (z := 256 - (cn (N 2) 256 : Int)) ⟨by omega, by omega⟩]
      by_cases e : w ≠ 0
      · rw [if_pos e, if_pos e]
        by_cases e2 : w ≠ 1
        · rw [if_pos e2, if_pos e2]
        · rw [if_neg e2, if_neg e2]
      · rw [if_neg e, if_neg e]
  | succ n ih =>
    intro i m hi hm
    cases m with
    | zero => omega
    | succ m =>
      show g_X6_pages_s9 _ N w _ (i : Int) = _
      unfold g_X6_pages_s9 g_X6_pages_j32
      have hle := cn_le (N 2) i
      rw [if_neg (by omega), q_mg (show i < mlen 2 by show i < 256; omega), Option.bind_some, w1 (by omega), w1 (by omega)]
      have := ih (i + 1) m (by omega) (by omega)
      unfold cn at this
      by_cases e : N 2 i < 0
      · rw [if_neg (show ¬ 0 ≤ N 2 i by omega)] at this
        rw [if_pos e]
        exact this
      · rw [if_pos (show 0 ≤ N 2 i by omega)] at this
        rw [if_neg e]
        exact this
theorem o_pages {x : Nat} {t : Th} {N : Mm} (h : CR x t N) (p0 : Int) : ∃ r t' N', t_X5_pages t (x : Int) p0 = some (r, t') ∧ g_X6_pages N p0 = some (r, N') ∧ CR x t' N' := by
  obtain ⟨b, ca, la, sa, mg, LS, FL, hz, dz, hA, hH⟩ := id h
  obtain ⟨kH, kB, -⟩ := hA.2.2.1
  have hle := cn_le (N 2) 256
  have e1 := pg_loop (N := mup N 0 0 0) (w := p0) 256 0 fuel (by omega) (by decide)
  refine ⟨_, t, mup N 0 0 0, ?_, (by unfold g_X6_pages; rw [Option.bind_some]; exact e1), cr_0 h 0⟩
  unfold t_X5_pages t_X5_pages_j32
  rw [q_gt 0 kH.1, Option.bind_some, kH.2.2.2.1, q_gt 1 kB.1, Option.bind_some, kB.2.2.2, Option.bind_some, q_gt 1 kB.1, Option.bind_some, kB.2.2.2, wr_eq (z := 256 - (256 - (cn (N 2) 256 : Int))) ⟨by omega, by omega⟩]
  show _ = some (if p0 ≠ 0 then (if p0 ≠ 1 then -1 else (cn (N 2) 256 : Int)) else 256 - (cn (N 2) 256 : Int), t)
  by_cases e : p0 ≠ 0
  · rw [if_pos e, if_pos e]
    by_cases e2 : p0 ≠ 1
    · rw [if_pos e2, if_pos e2]
    · rw [if_neg e2, if_neg e2]
      congr 2
      omega
  · rw [if_neg e, if_neg e]
theorem o_block {x : Nat} {t : Th} {N : Mm} (h : CR x t N) (p0 p1 : Int) : ∃ code rv t' bb N', t_X5_block t (x : Int) p0 p1 = some (code, rv, t') ∧ (code = 0 ∨ code = 2) ∧ g_X6_block N p0 p1 = some (bb, N') ∧ N' 0 0 = kL_block code ∧ (code = 0 → bb = rv) ∧ CR x t' N' := by
  obtain ⟨b, ca, la, sa, mg, LS, FL, hz, dz, hA, hH⟩ := id h
  obtain ⟨kH, kB, -⟩ := hA.2.2.1
  by_cases e : 0 ≤ p0 ∧ p0 ≤ 6
  · refine ⟨0, sc2 (N 1) p0 p1 256 0 0, t, sc2 (N 1) p0 p1 256 0 0, mup N 0 0 0, ?_, Or.inl rfl, ?_, rfl, fun _ => rfl, cr_0 h 0⟩
    · unfold t_X5_block
      rw [if_neg (by omega), if_pos (by omega), q_gt 0 kH.1, Option.bind_some, kH.2.2.2.1, q_ck kB.1, Option.bind_some, fp_eq kB.1 kB.2.1.1 kB.2.1.2, Option.bind_some]
      dsimp only
      rw [sc2_congr (f := tV t b (gf 0 0)) (g := N 1) 256 0 0 (fun j hj => kB.2.2.1 j (by omega))]
    · unfold g_X6_block g_X6_block_j16
      rw [in_y e, Option.bind_some]
      dsimp only
      rw [if_neg (by decide), rf_0, Option.bind_some]
      dsimp only
      rw [if_pos rfl]
      exact mb_loop (mup N 0 0 0) p0 p1 256 0 0 fuel (by omega) (by decide)
  · refine ⟨2, 0, t, 0, mup N 0 0 1, ?_, Or.inr rfl, ?_, rfl, fun q => (by omega), cr_0 h 1⟩
    · unfold t_X5_block t_X5_block_j10
      by_cases e2 : p0 < 0
      · rw [if_pos e2]
      · rw [if_neg e2, if_neg (by omega)]
    · unfold g_X6_block g_X6_block_j16
      rw [in_n e, Option.bind_some]
      dsimp only
      rw [if_pos rfl, rf_p _ (by decide), Option.bind_some]
      dsimp only
      rw [if_neg (by decide)]
theorem o_cacheOf {x : Nat} {t : Th} {N : Mm} (h : CR x t N) (p0 : Int) : ∃ r t' N', t_X5_cacheOf t (x : Int) p0 = some (r, t') ∧ g_X6_cacheOf N p0 = some (r, N') ∧ CR x t' N' := by
  obtain ⟨b, ca, la, sa, mg, LS, FL, hz, dz, hA, hH⟩ := id h
  obtain ⟨kH, kB, kC, kV, kN', kI, kS, kL⟩ := hA.2.2.1
  have hG := hA.1.2.2.1
  unfold t_X5_cacheOf t_X5_cacheOf_j21 g_X6_cacheOf g_X6_cacheOf_j25
  rw [q_ck kH.1, Option.bind_some, Option.bind_some]
  rcases sat_cs (N := mup N 0 0 0) (t := t) (x := x) (b := b) (ca := ca) (sa := sa) hG kH p0 with ⟨h1, h2, -⟩ | ⟨X, p, h0, hX, h1, h2, h3, h4⟩
  · rw [h1, h2, Option.bind_some, Option.bind_some]
    exact ⟨_, _, _, rfl, rfl, cr_0 h 0⟩
  · have hp : Sl N p := h2
    obtain ⟨k1, c1, c2, c3, c4⟩ := sl_c hG kC kI hp
    rw [h3, h4, Option.bind_some, Option.bind_some]
    dsimp only
    rw [if_pos (by omega), if_pos (by omega), q_gt 0 c1, Option.bind_some, c2, q_gt 0 k1.1, Option.bind_some, k1.2.1.1, q_mg (show p < mlen 14 from hp.1), Option.bind_some]
    refine ⟨_, t, mup N 0 0 0, rfl, ?_, cr_0 h 0⟩
    show some (N 14 p, _) = _
    rw [(hG.2 p hp).1]
