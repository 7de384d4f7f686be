/-! drop: the reference empties the magazines of a cache -/
def DF (c : Nat) (N N' : Mm) (LS LS' FL FL' : Nat → List Nat) : Prop := Ep N N' ∧ (∀ b, b ≠ 16 → b ≠ 17 → b ≠ 18 → b ≠ 19 → b ≠ 21 → b ≠ 22 → b ≠ 23 → b ≠ 25 → N' b = N b) ∧ (∀ l, l / 3 ≠ c → LS' l = LS l) ∧ (∀ q, Sl N q → wN N q ≠ c → FL' q = FL q ∧ N' 16 q = N 16 q ∧ ∀ j, j < fN N (wN N q) → N' 18 (U N q j) = N 18 (U N q j)) ∧ ∀ u, N' 18 u = 2 ↔ N 18 u = 2
theorem fz_id {f : Nat → Nat} {i v : Nat} (h : f i = v) : fz f i v = f := by
  funext j
  by_cases e : j = i
  · rw [e, fz_same, h]
  · rw [fz_ne e]
theorem fz_fz (f : Nat → Nat) (i v w : Nat) : fz (fz f i v) i w = fz f i w := by
  funext j
  by_cases e : j = i
  · rw [e, fz_same, fz_same]
  · rw [fz_ne e, fz_ne e, fz_ne e]
section
variable {N N' N'' : Mm} {LS LS' LS'' FL FL' FL'' : Nat → List Nat} {hz dz : Nat → Nat} {p i l c k s n q : Nat}
theorem ep_tr (a : Ep N N') (b : Ep N' N'') : Ep N N'' := by
  obtain ⟨a1, a2, a3, a4, a5, a6, a7, a8, a9, a10, a11, a12⟩ := a
  obtain ⟨b1, b2, b3, b4, b5, b6, b7, b8, b9, b10, b11, b12⟩ := b
  exact ⟨b1.trans a1, b2.trans a2, b3.trans a3, b4.trans a4, b5.trans a5, b6.trans a6, b7.trans a7, b8.trans a8, b9.trans a9, b10.trans a10, b11.trans a11, b12.trans a12⟩
theorem df_refl : DF c N N LS LS FL FL := ⟨⟨rfl, rfl, rfl, rfl, rfl, rfl, rfl, rfl, rfl, rfl, rfl, rfl⟩, fun _ _ _ _ _ _ _ _ _ => rfl, fun _ _ => rfl, fun _ _ _ => ⟨rfl, rfl, fun _ _ => rfl⟩, fun _ => Iff.rfl⟩
theorem df_trans (h : DF c N N' LS LS' FL FL') (h' : DF c N' N'' LS' LS'' FL' FL'') : DF c N N'' LS LS'' FL FL'' := by
  obtain ⟨a1, a2, a3, a4, a5⟩ := h
  obtain ⟨b1, b2, b3, b4, b5⟩ := h'
  refine ⟨ep_tr a1 b1, fun b h1 h2 h3 h4 h5 h6 h7 h8 => (b2 b h1 h2 h3 h4 h5 h6 h7 h8).trans (a2 b h1 h2 h3 h4 h5 h6 h7 h8), fun l hl => (b3 l hl).trans (a3 l hl), fun q hq hw => ?_, fun u => (b5 u).trans (a5 u)⟩
  obtain ⟨x1, x2, x3⟩ := a4 q hq hw
  obtain ⟨y1, y2, y3⟩ := b4 q (by rw [ep_sl a1]; exact hq) (by rw [ep_w a1]; exact hw)
  refine ⟨y1.trans x1, y2.trans x2, fun j hj => ?_⟩
  have := y3 j (by rw [ep_w a1, ep_f a1]; exact hj)
  rw [ep_u a1] at this
  exact this.trans (x3 j hj)
theorem df_23 {j : Nat} {v : Int} : DF c N (mup N 23 j v) LS LS FL FL := ⟨⟨rfl, rfl, rfl, rfl, rfl, rfl, rfl, rfl, rfl, rfl, rfl, rfl⟩, fun b _ _ _ _ _ _ h _ => by
  funext i
  exact if_neg (fun q => h q.1), fun _ _ => rfl, fun _ _ _ => ⟨rfl, rfl, fun _ _ => rfl⟩, fun _ => Iff.rfl⟩
theorem df_25 {j : Nat} {v : Int} : DF c N (mup N 25 j v) LS LS FL FL := ⟨⟨rfl, rfl, rfl, rfl, rfl, rfl, rfl, rfl, rfl, rfl, rfl, rfl⟩, fun b _ _ _ _ _ _ _ h => by
  funext i
  exact if_neg (fun q => h q.1), fun _ _ => rfl, fun _ _ _ => ⟨rfl, rfl, fun _ _ => rfl⟩, fun _ => Iff.rfl⟩
theorem mo_23 {j : Nat} {v : Int} : Mo N (mup N 23 j v) := fun b h _ _ _ => by
  funext i
  exact if_neg (fun q => h q.1)
theorem mo_25 {j : Nat} {v : Int} : Mo N (mup N 25 j v) := fun b _ _ h _ => by
  funext i
  exact if_neg (fun q => h q.1)
theorem dm_step (hW : WW N LS FL) (hM : WM N hz) (hs : s < 88) (hn : hz s = n + 1) : ∃ N' LS' FL', g_X6_toSlab N (hv N s n) = some (0, N') ∧ WW N' LS' FL' ∧ WM N' (fz hz s n) ∧ DF (cs s) N N' LS LS' FL FL' ∧ (∀ b, b ≠ 16 → b ≠ 17 → b ≠ 18 → b ≠ 19 → b ≠ 21 → b ≠ 22 → N' b = N b) := by
  obtain ⟨hP, hB, hG, hS, hZ, hR⟩ := id hW
  obtain ⟨m1, m2⟩ := hM.1 s hs
  obtain ⟨p, i, z1, z2, z3, z4, z5⟩ := m2 n (by omega)
  have hf := nf_st hS z1 z3 (by omega)
  obtain ⟨N', n1, n2, n3, n4, n5, n6, n7, n8, n9⟩ := toSlab_eq hP hG hS hZ hR z1 z3 hf
  have hwl := wh_lt (N := N) (p := p)
  have hwl' := wh_lt (N := N') (p := p)
  have e1 : N' 1 = N 1 := n4 1 (by decide) (by decide) (by decide) (by decide) (by decide) (by decide)
  have e24 : N' 24 = N 24 := n4 24 (by decide) (by decide) (by decide) (by decide) (by decide) (by decide)
  have e26 : N' 26 = N 26 := n4 26 (by decide) (by decide) (by decide) (by decide) (by decide) (by decide)
  have ehv : ∀ s k, hv N' s k = hv N s k := fun s k => by unfold hv; rw [e24, e26]
  have hlt : ∀ s' k', k' < fz hz s n s' → k' < hz s' ∧ ¬ (s' = s ∧ k' = n) := fun s' k' h => by
    unfold fz at h
    by_cases e : s' = s
    · rw [if_pos e] at h
      exact ⟨by rw [e]; omega, fun q => by omega⟩
    · rw [if_neg e] at h
      exact ⟨h, fun q => e q.1⟩
  refine ⟨N', mvL LS p (3 * wN N p + wh N p) (3 * wN N p + wh N' p), lu FL p (i :: FL p), by rw [z4]; exact n1, ⟨ep_p n5 (n4 12 (by decide) (by decide) (by decide) (by decide) (by decide) (by decide)) (n4 13 (by decide) (by decide) (by decide) (by decide) (by decide) (by decide)) hP, ?_, ep_g n5 hG, n7, n8, n9⟩, ⟨fun s' hs' => ⟨?_, fun k' hk' => ?_⟩, fun s1 s2 k1 k2 h1 h2 h3 h4 h5 => ?_⟩, ⟨n5, fun b h1 h2 h3 h4 h5 h6 _ _ => n4 b h1 h2 h3 h4 h5 h6, fun l hl => ?_, fun q hq hw => ⟨lu_ne (fun z => hw (by rw [z, z2])), by rw [n2, fu_ne (fun z => hw (by rw [z, z2]))], fun j hj => by rw [n3, fu_ne (u_ne hP hG z1 z3 hq hj (fun z => hw (by rw [z.1, z2])))]⟩, fun u => ?_⟩, n4⟩
  · unfold WB; rw [e1, n5.1]; exact hB
  · have h1 := (hM.1 s' hs').1
    unfold fz
    split <;> omega
  · obtain ⟨a1, a2⟩ := hlt s' k' hk'
    obtain ⟨q, j, y1, y2, y3, y4, y5⟩ := (hM.1 s' hs').2 k' a1
    have hne : U N q j ≠ U N p i := fun e => a2 (hM.2 s' s k' n hs' hs a1 (by omega) (by rw [y4, z4, e]))
    refine ⟨q, j, by rw [ep_sl n5]; exact y1, by rw [ep_w n5]; exact y2, by rw [ep_w n5, ep_f n5]; exact y3, by rw [ehv, ep_u n5]; exact y4, ?_⟩
    rw [ep_u n5, n3, fu_ne hne]
    exact y5
  · rw [ehv, ehv] at h5
    exact hM.2 s1 s2 k1 k2 h1 h2 (hlt _ _ h3).1 (hlt _ _ h4).1 h5
  · unfold mvL
    split
    · rfl
    · rw [lu_ne (fun z => hl (by omega)), lu_ne (fun z => hl (by omega))]
  · rw [n3]
    by_cases e : u = U N p i
    · rw [e, fu_same, z5]
      constructor <;> (intro q; omega)
    · rw [fu_ne e]
theorem dm_lp (hs : s < 88) : ∀ (n : Nat) (N : Mm) (LS FL : Nat → List Nat) (hz : Nat → Nat), WW N LS FL → WM N hz → hz s = n → ∃ N' LS' FL', dr s n N = some N' ∧ WW N' LS' FL' ∧ WM N' (fz hz s 0) ∧ DF (cs s) N N' LS LS' FL FL' ∧ (∀ b, b ≠ 16 → b ≠ 17 → b ≠ 18 → b ≠ 19 → b ≠ 21 → b ≠ 22 → N' b = N b) := by
  intro n
  induction n with
  | zero =>
    intro N LS FL hz hW hM h0
    refine ⟨N, LS, FL, rfl, hW, ?_, df_refl, fun _ _ _ _ _ _ _ => rfl⟩
    rw [fz_id h0]; exact hM
  | succ n ih =>
    intro N LS FL hz hW hM h0
    obtain ⟨N1, LS1, FL1, q1, q2, q3, q4, q5⟩ := dm_step hW hM hs h0
    obtain ⟨N', LS', FL', y1, y2, y3, y4, y5⟩ := ih N1 LS1 FL1 (fz hz s n) q2 q3 (fz_same _ _ _)
    refine ⟨N', LS', FL', ?_, y2, by rw [fz_fz] at y3; exact y3, df_trans q4 y4, fun b h1 h2 h3 h4 h5 h6 => (y5 b h1 h2 h3 h4 h5 h6).trans (q5 b h1 h2 h3 h4 h5 h6)⟩
    show Option.bind (g_X6_toSlab N (hv N s n)) _ = _
    rw [q1, Option.bind_some]
    exact y1
theorem dm_held (hW : WW N LS FL) (hM : WM N hz) (hH : HZ N hz dz) (hs : s < 64) : ∃ r N' LS' FL', g_X6_emptyHeld N (s : Int) = some (r, N') ∧ WW N' LS' FL' ∧ WM N' (fz hz s 0) ∧ HZ N' (fz hz s 0) dz ∧ DF (cs s) N N' LS LS' FL FL' := by
  obtain ⟨N', LS', FL', y1, y2, y3, y4, y5⟩ := dm_lp (s := s) (by omega) (hz s) N LS FL hz hW hM rfl
  have h4 := (hM.1 s (by omega)).1
  have e23 : N' 23 = N 23 := y5 23 (by decide) (by decide) (by decide) (by decide) (by decide) (by decide)
  have e25 : N' 25 = N 25 := y5 25 (by decide) (by decide) (by decide) (by decide) (by decide) (by decide)
  refine ⟨(hz s : Int), mup N' 23 s 0, LS', FL', ?_, mo_w mo_23 y2, y3, ⟨fun s' hs' => ?_, fun c hc => ⟨?_, fun d hd => ?_⟩⟩, df_trans y4 df_23⟩
  · unfold g_X6_emptyHeld
    rw [q_mg (show s < mlen 23 from hs), Option.bind_some, hH.1 s hs, wr_eq (z := (hz s : Int) - 1) ⟨by omega, by omega⟩]
    exact eh_lp hs (hz s) N N' fuel h4 (by show _ < 40000; omega) y1
  · show (if 23 = 23 ∧ s' = s then (0 : Int) else N' 23 s') = _
    by_cases e : s' = s
    · rw [if_pos ⟨rfl, e⟩, e, fz_same]; rfl
    · rw [if_neg (fun q => e q.2), fz_ne e, e23]; exact hH.1 s' hs'
  · show N' 25 c = _
    rw [e25]; exact (hH.2 c hc).1
  · rw [fz_ne (by omega)]; exact (hH.2 c hc).2 d hd
theorem dm_dlp (hc8 : c < 8) {tot : Int} : ∀ (n : Nat) (N : Mm) (LS FL : Nat → List Nat) (hz : Nat → Nat) (m' : Nat), WW N LS FL → WM N hz → n ≤ 3 → (∀ d, d < n → hz (64 + 3 * c + d) = 4) → (∀ d, n ≤ d → d < 3 → hz (64 + 3 * c + d) = 0) → 4 * n < m' → ∃ N' LS' FL', g_X6_emptyDepot_b13 m' N (c : Int) tot (((4 * n : Nat) : Int) - 1) = some (tot, mup N' 25 c 0) ∧ WW N' LS' FL' ∧ WM N' (fun s => if 64 + 3 * c ≤ s ∧ s < 64 + 3 * c + 3 then 0 else hz s) ∧ DF c N N' LS LS' FL FL' ∧ (∀ b, b ≠ 16 → b ≠ 17 → b ≠ 18 → b ≠ 19 → b ≠ 21 → b ≠ 22 → N' b = N b) := by
  intro n
  induction n with
  | zero =>
    intro N LS FL hz m' hW hM h3 h4 h0 hm'
    cases m' with
    | zero => omega
    | succ m' =>
      refine ⟨N, LS, FL, ?_, hW, ?_, df_refl, fun _ _ _ _ _ _ _ => rfl⟩
      · show g_X6_emptyDepot_s13 _ N (c : Int) tot _ = _
        unfold g_X6_emptyDepot_s13
        rw [if_pos (by omega), q_ms (show c < mlen 25 from hc8), Option.bind_some]
      · have e1 : (fun s => if 64 + 3 * c ≤ s ∧ s < 64 + 3 * c + 3 then 0 else hz s) = hz := by
          funext s
          by_cases e : 64 + 3 * c ≤ s ∧ s < 64 + 3 * c + 3
          · rw [if_pos e]
            have := h0 (s - (64 + 3 * c)) (by omega) (by omega)
            rw [show 64 + 3 * c + (s - (64 + 3 * c)) = s by omega] at this
            exact this.symm
          · rw [if_neg e]
        rw [e1]; exact hM
  | succ n ih =>
    intro N LS FL hz m' hW hM h3 h4 h0 hm'
    have hz4 := h4 n (by omega)
    have hcs : cs (64 + 3 * c + n) = c := by unfold cs; rw [if_neg (by omega)]; omega
    obtain ⟨N2, LS2, FL2, y2, y3, y4, y5, y6⟩ := dm_lp (s := 64 + 3 * c + n) (by omega) 4 N LS FL hz hW hM hz4
    rw [hcs] at y5
    obtain ⟨N', LS', FL', q1, q2, q3, q4, q5⟩ := ih N2 LS2 FL2 _ (m' - 4) y3 y4 (by omega) (fun d hd => by rw [fz_ne (by omega)]; exact h4 d (by omega)) (fun d h1 h2 => by
      by_cases e : d = n
      · rw [e, fz_same]
      · rw [fz_ne (by omega)]; exact h0 d (by omega) h2) (by omega)
    refine ⟨N', LS', FL', ?_, q2, ?_, df_trans y5 q4, fun b h1 h2 h3 h4 h5 h6 => (q5 b h1 h2 h3 h4 h5 h6).trans (y6 b h1 h2 h3 h4 h5 h6)⟩
    · have := ed_sg (n := n) hc8 (by omega) (tot := tot) 4 N N2 (m' - 4) (by omega) y2
      rw [show m' - 4 + 4 = m' by omega] at this
      rw [show 4 * (n + 1) = 4 * n + 4 by omega, this]
      exact q1
    · have e1 : (fun s => if 64 + 3 * c ≤ s ∧ s < 64 + 3 * c + 3 then 0 else fz hz (64 + 3 * c + n) 0 s) = (fun s => if 64 + 3 * c ≤ s ∧ s < 64 + 3 * c + 3 then 0 else hz s) := by
        funext s
        by_cases e : 64 + 3 * c ≤ s ∧ s < 64 + 3 * c + 3
        · rw [if_pos e, if_pos e]
        · rw [if_neg e, if_neg e, fz_ne (by omega)]
      rw [e1] at q3
      exact q3
/-- all magazines of a cache are empty -/
theorem dm_all (hc8 : c < 8) : ∀ (n q : Nat) (N : Mm) (LS FL : Nat → List Nat) (hz : Nat → Nat) (m : Nat), q + n = 4 → n < m → WW N LS FL → WM N hz → HZ N hz dz → dz c ≤ 3 → (∀ s, s < 64 → cs s = c → s / 16 < q → hz s = 0) → ∃ N' LS' FL' hz', g_X6_drop_b36 m N (c : Int) (q : Int) = g_X6_drop_b85 fuel N' (c : Int) 0 0 ∧ WW N' LS' FL' ∧ WM N' hz' ∧ HZ N' hz' (fz dz c 0) ∧ DF c N N' LS LS' FL FL' ∧ (∀ s, s < 88 → cs s = c → hz' s = 0) ∧ ∀ s, s < 88 → cs s ≠ c → hz' s = hz s := by
  intro n
  induction n with
  | zero =>
    intro q N LS FL hz m hq hm hW hM hH hd h0
    cases m with
    | zero => omega
    | succ m =>
      obtain ⟨z1, z2⟩ := hH.2 c hc8
      obtain ⟨N', LS', FL', q1, q2, q3, q4, q5⟩ := dm_dlp hc8 (tot := ((4 * dz c : Nat) : Int)) (dz c) N LS FL hz fuel hW hM hd (fun d hd => by rw [z2 d (by omega), if_pos hd]) (fun d h1 h2 => by rw [z2 d h2, if_neg (by omega)]) (by show _ < 40000; omega)
      have e23 : N' 23 = N 23 := q5 23 (by decide) (by decide) (by decide) (by decide) (by decide) (by decide)
      have e25 : N' 25 = N 25 := q5 25 (by decide) (by decide) (by decide) (by decide) (by decide) (by decide)
      refine ⟨mup N' 25 c 0, LS', FL', _, ?_, mo_w mo_25 q2, q3, ⟨fun s hs => ?_, fun d hd => ⟨?_, fun e he => ?_⟩⟩, df_trans q4 df_25, fun s hs hcs => ?_, fun s hs hcs => ?_⟩
      · show g_X6_drop_s36 _ N (c : Int) (q : Int) = _
        unfold g_X6_drop_s36 g_X6_emptyDepot
        have w4 : wr (4 * (dz c : Int)) = ((4 * dz c : Nat) : Int) := by
          rw [show 4 * (dz c : Int) = ((4 * dz c : Nat) : Int) by omega]; exact wn (by omega)
        rw [if_pos (by omega), q_mg (show c < mlen 25 from hc8), Option.bind_some, z1, w4, wr_eq (z := ((4 * dz c : Nat) : Int) - 1) ⟨by omega, by omega⟩, q1, Option.bind_some]
      · show N' 23 s = (((if 64 + 3 * c ≤ s ∧ s < 64 + 3 * c + 3 then 0 else hz s) : Nat) : Int)
        rw [e23, if_neg (by omega)]; exact hH.1 s hs
      · show (if 25 = 25 ∧ d = c then (0 : Int) else N' 25 d) = _
        by_cases e : d = c
        · rw [if_pos ⟨rfl, e⟩, e, fz_same]; rfl
        · rw [if_neg (fun q => e q.2), fz_ne e, e25]; exact (hH.2 d hd).1
      · show (if 64 + 3 * c ≤ 64 + 3 * d + e ∧ 64 + 3 * d + e < 64 + 3 * c + 3 then 0 else hz (64 + 3 * d + e)) = _
        by_cases e1 : d = c
        · rw [if_pos (by omega), e1, fz_same, if_neg (by omega)]
        · rw [if_neg (by omega), fz_ne e1]; exact (hH.2 d hd).2 e he
      · show (if 64 + 3 * c ≤ s ∧ s < 64 + 3 * c + 3 then 0 else hz s) = 0
        by_cases e : s < 64
        · rw [if_neg (by omega)]; exact h0 s e hcs (by omega)
        · unfold cs at hcs
          rw [if_neg e] at hcs
          rw [if_pos (by omega)]
      · show (if 64 + 3 * c ≤ s ∧ s < 64 + 3 * c + 3 then 0 else hz s) = _
        rw [if_neg]
        intro z
        apply hcs
        unfold cs
        rw [if_neg (by omega)]
        omega
  | succ n ih =>
    intro q N LS FL hz m hq hm hW hM hH hd h0
    cases m with
    | zero => omega
    | succ m =>
      obtain ⟨c0, l0⟩ := cs_m (q := q) (c := c) (e := 0) (by omega) hc8 (by omega)
      obtain ⟨c1, l1⟩ := cs_m (q := q) (c := c) (e := 1) (by omega) hc8 (by omega)
      rw [Nat.add_zero] at c0 l0
      obtain ⟨r1, N1, LS1, FL1, a1, a2, a3, a4, a5⟩ := dm_held hW hM hH l0
      obtain ⟨r2, N2, LS2, FL2, b1, b2, b3, b4, b5⟩ := dm_held a2 a3 a4 l1
      rw [c0] at a5
      rw [c1] at b5
      obtain ⟨N', LS', FL', hz', g1, g2, g3, g4, g5, g6, g7⟩ := ih (q + 1) N2 LS2 FL2 _ m (by omega) (by omega) b2 b3 b4 hd (fun s hs hcs hq' => by
        by_cases e1 : s = 2 * (8 * q + c) + 1
        · rw [e1, fz_same]
        · rw [fz_ne e1]
          by_cases e2 : s = 2 * (8 * q + c)
          · rw [e2, fz_same]
          · rw [fz_ne e2]
            refine h0 s hs hcs ?_
            unfold cs at hcs
            rw [if_pos hs] at hcs
            omega)
      refine ⟨N', LS', FL', hz', ?_, g2, g3, g4, df_trans (df_trans a5 b5) g5, g6, fun s hs hcs => ?_⟩
      · show g_X6_drop_s36 _ N (c : Int) (q : Int) = _
        unfold g_X6_drop_s36
        rw [if_neg (by omega), wm2 (by omega) hc8, a1, Option.bind_some, wm2' (by omega) hc8]
        dsimp only
        rw [b1, Option.bind_some, w1 (by omega)]
        exact g1
      · rw [g7 s hs hcs, fz_ne (fun z => hcs (by rw [z]; exact c1)), fz_ne (fun z => hcs (by rw [z]; exact c0))]
end
