/-! both sides: an object from the slabs of a cache -/
section
variable {t : Th} {x b : Nat} {ca la sa mg : Nat → Nat} {N N' : Mm} {LS FL : Nat → List Nat} {hz dz : Nat → Nat} {p i l c k : Nat}
theorem ba_cg {f g : Nat → Int} (h : ∀ p, p < 256 → f p = g p) (hA : BA g) : BA f := fun p hp => by rw [h p hp]; exact hA p hp
theorem take_cs (hA : AA t x b ca la sa mg N LS FL hz dz) (hc : Lv N c) : (t_X0_take t (b : Int) (N 7 c) = some (-1, t) ∧ g_X6_takeBlock N (N 7 c) = some (-1, N)) ∨ ∃ p k : Nat, p < 256 ∧ N 1 p = (k : Int) ∧ oN N c ≤ k ∧ t_X0_take t (b : Int) (N 7 c) = some ((p : Int), tset (tvA t b (gf 0 0) (hl (fu (tV t b (gf 0 0)) p (-1)) p (oN N c) (k - oN N c))) b (gf 0 1) 0 (wr (tV t b (gf 0 1) 0 - ((2 ^ oN N c : Nat) : Int)))) ∧ g_X6_takeBlock N (N 7 c) = some ((p : Int), msA N 1 (hl (fu (N 1) p (-1)) p (oN N c) (k - oN N c))) := by
  obtain ⟨⟨hP, hB, hG, hS, hZ, hR⟩, hM, ⟨kH, kB, kC, kV, kN', kI, kS, kL⟩, kP, kM, kZ, hT⟩ := hA
  have hPc := hP.2.1 c hc.1
  have e1 := tk_eq (t := t) (b := b) (o := oN N c) kB.1 kB.2.1.1 kB.2.1.2 (ba_cg kB.2.2.1 hB.1) (by have := hPc.1.2; omega)
  have e2 := mt_eq (N := N) (o := oN N c) hB.1 (by have := hPc.1.2; omega)
  rw [← hPc.1.1] at e1 e2
  have e3 := tks_congr kB.2.2.1 (7 - oN N c) (oN N c)
  unfold tkT at e1
  unfold tkM at e2
  rw [e3] at e1
  cases hk : tks (N 1) (7 - oN N c) (oN N c) with
  | none =>
    rw [hk] at e1 e2
    exact Or.inl ⟨e1, e2⟩
  | some pk =>
    obtain ⟨p, k⟩ := pk
    rw [hk] at e1 e2
    obtain ⟨z1, z2, z3, z4⟩ := tks_spec _ _ _ _ hk
    exact Or.inr ⟨p, k, z3, z4, z1, e1, e2⟩
/-- the end of a try to make a slab -/
def MK (T : Option (Int × Th)) (G : Option (Int × Mm)) (x b : Nat) (ca la mg : Nat → Nat) (hz dz : Nat → Nat) (N : Mm) (LS : Nat → List Nat) (c : Nat) : Prop := ∃ t' N' sa' LS' FL', AA t' x b ca la sa' mg N' LS' FL' hz dz ∧ (∀ b, b ≠ 1 → b ≠ 2 → b ≠ 12 → b ≠ 14 → b ≠ 15 → b ≠ 16 → b ≠ 17 → b ≠ 18 → b ≠ 19 → b ≠ 20 → b ≠ 21 → b ≠ 22 → N' b = N b) ∧ (∀ l, l % 3 ≠ 2 → LS' l = LS l) ∧ ((T = some (-1, t') ∧ G = some (0, N')) ∨ ∃ p r, T = some ((sa' p : Int), t') ∧ G = some (1, N') ∧ LS' (3 * c + 2) = p :: r ∧ wh N' p = 2)
theorem make_ok (hA : AA t x b ca la sa mg N LS FL hz dz) (hc : Lv N c) (hp : p < 256) (hk : N 1 p = (k : Int)) (hok : oN N c ≤ k) {N0 : Mm} {LS0 : Nat → List Nat} (h0 : ∀ b, b ≠ 1 → b ≠ 2 → b ≠ 12 → b ≠ 14 → b ≠ 15 → b ≠ 16 → b ≠ 17 → b ≠ 18 → b ≠ 19 → b ≠ 20 → b ≠ 21 → b ≠ 22 → N b = N0 b) (hL0 : ∀ l, l % 3 ≠ 2 → LS l = LS0 l) : MK (t_X5_makeSlab_j34 (tset (tvA t b (gf 0 0) (hl (fu (tV t b (gf 0 0)) p (-1)) p (oN N c) (k - oN N c))) b (gf 0 1) 0 (wr (tV t b (gf 0 1) 0 - ((2 ^ oN N c : Nat) : Int)))) (x : Int) (ca c : Int) (p : Int)) (g_X6_makeSlab_j31 (msA N 1 (hl (fu (N 1) p (-1)) p (oN N c) (k - oN N c))) (c : Int) (p : Int)) x b ca la mg hz dz N0 LS0 c := by
  obtain ⟨t', N', m1, m2, m3, m4, m5, m6⟩ := make_on hA hc hp hk hok
  refine ⟨t', N', _, _, _, m3, fun b h1 h2 h3 h4 h5 h6 h7 h8 h9 h10 h11 h12 => (m6 b h1 h2 h3 h4 h5 h6 h7 h8 h9 h10 h11 h12).trans (h0 b h1 h2 h3 h4 h5 h6 h7 h8 h9 h10 h11 h12), fun l hl => (lu_ne (by omega)).trans (hL0 l hl), Or.inr ⟨p, LS (3 * c + 2), ?_, m2, lu_same _ _ _, m5⟩⟩
  rw [fz_same]
  exact m1
theorem make_pair (hA : AA t x b ca la sa mg N LS FL hz dz) (hc : Lv N c) : MK (t_X5_makeSlab t (x : Int) (ca c : Int)) (g_X6_makeSlab N (c : Int)) x b ca la mg hz dz N LS c := by
  have hc8 : c < 8 := by have := hA.1.1.1; have := hc.1; omega
  have kH := hA.2.2.1.1
  have kB := hA.2.2.1.2.1
  have kCc := hA.2.2.1.2.2.1.1 c hc
  have evT : t_X5_makeSlab t (x : Int) (ca c : Int) = Option.bind (t_X0_take t (b : Int) (N 7 c)) fun r3 => if r3.1 ≠ (-1) then t_X5_makeSlab_j34 r3.2 (x : Int) (ca c : Int) r3.1 else Option.bind (tck r3.2 5 (x : Int)) fun u6 => Option.bind (t_X5_reap r3.2 (x : Int)) fun r5 => Option.bind (tgt r5.2 5 0 (x : Int)) fun v7 => Option.bind (tgt r5.2 1 3 (ca c : Int)) fun v8 => Option.bind (tck r5.2 0 v7) fun u10 => Option.bind (t_X0_take r5.2 v7 v8) fun r9 => t_X5_makeSlab_j34 r9.2 (x : Int) (ca c : Int) r9.1 := by
    unfold t_X5_makeSlab
    rw [q_gt 0 kH.1, Option.bind_some, kH.2.2.2.1, q_gt 3 kCc.1, Option.bind_some, kCc.2.1.2.2.2.1, q_ck kB.1, Option.bind_some]
  have evG : g_X6_makeSlab N (c : Int) = Option.bind (g_X6_takeBlock N (N 7 c)) fun r3 => if 0 ≤ r3.1 then g_X6_makeSlab_j31 r3.2 (c : Int) r3.1 else Option.bind (g_X6_reapAll r3.2) fun r5 => Option.bind (mgt 7 r5.2 (c : Int)) fun v8 => Option.bind (g_X6_takeBlock r5.2 v8) fun r9 => g_X6_makeSlab_j31 r9.2 (c : Int) r9.1 := by
    unfold g_X6_makeSlab
    rw [q_mg (show c < mlen 7 from hc8), Option.bind_some]
  rw [evT, evG]
  rcases take_cs hA hc with ⟨h1, h2⟩ | ⟨p, k, h1, h2, h3, h4, h5⟩
  · rw [h1, h2, Option.bind_some, Option.bind_some]
    dsimp only
    obtain ⟨r, t', N', LS', y1, y2, y3, y4, y5⟩ := reap_pair hA
    rw [if_neg (fun q => q rfl), if_neg (by decide), q_ck kH.1, Option.bind_some, y1, Option.bind_some, y2, Option.bind_some]
    dsimp only
    have hc' : Lv N' c := by unfold Lv; rw [y4 3 (by decide) (by decide) (by decide) (by decide) (by decide), y4 4 (by decide) (by decide) (by decide) (by decide) (by decide)]; exact hc
    have kH' := y3.2.2.1.1
    have kCc' := y3.2.2.1.2.2.1.1 c hc'
    rw [q_gt 0 kH'.1, Option.bind_some, kH'.2.2.2.1, q_gt 3 kCc'.1, Option.bind_some, kCc'.2.1.2.2.2.1, q_ck y3.2.2.1.2.1.1, Option.bind_some, q_mg (show c < mlen 7 from hc8), Option.bind_some]
    rcases take_cs y3 hc' with ⟨h1, h2⟩ | ⟨p, k, h1, h2, h3, h4, h5⟩
    · rw [h1, h2, Option.bind_some, Option.bind_some]
      dsimp only
      refine ⟨t', N', _, _, _, y3, fun b h1 h2 _ _ _ _ _ h8 _ _ h11 h12 => y4 b h1 h2 h8 h11 h12, y5, Or.inl ⟨?_, ?_⟩⟩
      · unfold t_X5_makeSlab_j34
        rw [if_neg (fun q => q rfl)]
      · unfold g_X6_makeSlab_j31 rtM
        rw [if_neg (by decide), if_pos (Or.inl rfl)]
    · rw [h4, h5, Option.bind_some, Option.bind_some]
      dsimp only
      exact make_ok y3 hc' h1 h2 h3 (fun b h1 h2 _ _ _ _ _ h8 _ _ h11 h12 => y4 b h1 h2 h8 h11 h12) y5
  · rw [h4, h5, Option.bind_some, Option.bind_some]
    dsimp only
    rw [if_pos (by omega), if_pos (by omega)]
    exact make_ok hA hc h1 h2 h3 (fun _ _ _ _ _ _ _ _ _ _ _ _ _ => rfl) (fun _ _ => rfl)
/-- what an object taken from the slabs ends in: it lives once its state is set on both sides -/
def FS (T : Option (Int × Th)) (G : Option (Int × Mm)) (x b : Nat) (ca la mg : Nat → Nat) (hz dz : Nat → Nat) (N : Mm) (c : Nat) : Prop := (∃ t' N' sa' LS' FL', AA t' x b ca la sa' mg N' LS' FL' hz dz ∧ (∀ b, b ≠ 1 → b ≠ 2 → b ≠ 12 → b ≠ 14 → b ≠ 15 → b ≠ 16 → b ≠ 17 → b ≠ 18 → b ≠ 19 → b ≠ 20 → b ≠ 21 → b ≠ 22 → N' b = N b) ∧ T = some (-1, t') ∧ G = some (-1, N')) ∨ ∃ (t2 : Th) (N1 N2 : Mm) (sa' : Nat → Nat) (LS' FL' LS1 FL1 : Nat → List Nat) (p i nt : Nat) (t1 : Th), AA t1 x b ca la sa' mg N1 LS1 FL1 hz dz ∧ (∀ b, b ≠ 1 → b ≠ 2 → b ≠ 12 → b ≠ 14 → b ≠ 15 → b ≠ 16 → b ≠ 17 → b ≠ 18 → b ≠ 19 → b ≠ 20 → b ≠ 21 → b ≠ 22 → N1 b = N b) ∧ Sl N1 p ∧ wN N1 p = c ∧ i < fN N1 (wN N1 p) ∧ N1 18 (U N1 p i) = 1 ∧ T = some (((8 * U N1 p i : Nat) : Int), t2) ∧ G = some ((U N1 p i : Int), N2) ∧ WW (mup N2 18 (U N1 p i) 2) LS' FL' ∧ KK (tset t2 (sa' p) (gf 3 9) i (-2)) x b ca la sa' (mup N2 18 (U N1 p i) 2) LS' FL' ∧ (mup N2 18 (U N1 p i) 2) 18 = fu (N1 18) (U N1 p i) 2 ∧ (∀ b, b ≠ 16 → b ≠ 17 → b ≠ 18 → b ≠ 19 → b ≠ 21 → b ≠ 22 → (mup N2 18 (U N1 p i) 2) b = N1 b) ∧ Ep N1 (mup N2 18 (U N1 p i) 2) ∧ Fe t1 t2 [gf 3 3, gf 3 4, gf 3 5, gf 3 6, gf 3 7, gf 3 8, gf 3 9, gf 3 10, gf 4 0] ∧ tC t2 = tC t1 ∧ (∀ a k, tC t1 a = 1 + 1 → tI t2 a k = tI t1 a k ∧ tL t2 a k = tL t1 a k) ∧ (tV t2 (sa' p) (gf 3 7) 0 = (nt : Int) ∧ i < nt) ∧ 0 ≤ tI t2 (sa' p) 9 ∧ i < tL t2 (sa' p) 9
theorem fs_row {r : List Nat} {N0 : Mm} (hA : AA t x b ca la sa mg N LS FL hz dz) (h0 : ∀ b, b ≠ 1 → b ≠ 2 → b ≠ 12 → b ≠ 14 → b ≠ 15 → b ≠ 16 → b ≠ 17 → b ≠ 18 → b ≠ 19 → b ≠ 20 → b ≠ 21 → b ≠ 22 → N b = N0 b) (hl : l < 24) (hlc : l / 3 = c) (hL : LS l = p :: r) (hw : wh N p ≠ 0) : FS (t_X5_takeFromSlabs_j34 t (ca c : Int) (sa p : Int)) (g_X6_fromSlabs_j62 N (l : Int)) x b ca la mg hz dz N0 c := by
  obtain ⟨i, N', t2, nt, LS', FL', y1, y2, y3, y4, y5, y6, y7⟩ := take_pair hA.1 hA.2.2.1 hl hL hw
  rw [hlc] at y6
  exact Or.inr ⟨t2, N, N', sa, LS', FL', LS, FL, p, i, nt, t, hA, h0, y1, by omega, y3, y4, y6, y5, y7⟩
theorem wh_row (hR : WR N LS) (hl : l < 24) (hp : p ∈ LS l) (h : l % 3 ≠ 0) : wh N p ≠ 0 := by
  have := ((hR.2 l hl).2 p).mp hp
  have := wh_lt (N := N) (p := p)
  omega
theorem from_pair (hA : AA t x b ca la sa mg N LS FL hz dz) (hc : Lv N c) : FS (t_X5_takeFromSlabs t (x : Int) (ca c : Int)) (g_X6_fromSlabs N (c : Int)) x b ca la mg hz dz N c := by
  have hc8 : c < 8 := by have := hA.1.1.1; have := hc.1; omega
  have kH := hA.2.2.1.1
  have kCc := hA.2.2.1.2.2.1.1 c hc
  have hR := hA.1.2.2.2.2.2
  have kL1 := hA.2.2.1.2.2.2.2.2.2.2 (3 * c + 1) (by omega) (by rw [show (3 * c + 1) / 3 = c by omega]; exact hc)
  have kL2 := hA.2.2.1.2.2.2.2.2.2.2 (3 * c + 2) (by omega) (by rw [show (3 * c + 2) / 3 = c by omega]; exact hc)
  have l1 := (hR.1 (3 * c + 1) (by omega)).1
  have l2 := (hR.1 (3 * c + 2) (by omega)).1
  have w31 : wr (wr (3 * (c : Int)) + 1) = ((3 * c + 1 : Nat) : Int) := w3 hc8 (by decide)
  have w32 : wr (wr (3 * (c : Int)) + 2) = ((3 * c + 2 : Nat) : Int) := w3 hc8 (by decide)
  have evT : t_X5_takeFromSlabs t (x : Int) (ca c : Int) = if 0 ≤ hdA ((LS (3 * c + 1)).map sa) then t_X5_takeFromSlabs_j24 t (x : Int) (ca c : Int) (hdA ((LS (3 * c + 1)).map sa)) else t_X5_takeFromSlabs_j24 t (x : Int) (ca c : Int) (hdA ((LS (3 * c + 2)).map sa)) := by
    unfold t_X5_takeFromSlabs
    rw [q_rf 12 kCc.1, Option.bind_some, show (1 : Int) = ((1 : Nat) : Int) from rfl, q_al kCc.1 kCc.2.2.1.1.1 (by rw [kCc.2.2.1.1.2]; decide), Option.bind_some, (kCc.2.2.2 1 (by decide)).1, q_gt 0 (kCc.2.2.2 1 (by decide)).2, Option.bind_some, kL1.1, Option.bind_some, show (2 : Int) = ((2 : Nat) : Int) from rfl, q_al kCc.1 kCc.2.2.1.1.1 (by rw [kCc.2.2.1.1.2]; decide), Option.bind_some, (kCc.2.2.2 2 (by decide)).1, q_gt 0 (kCc.2.2.2 2 (by decide)).2, Option.bind_some, kL2.1]
  have evG : g_X6_fromSlabs N (c : Int) = if ((LS (3 * c + 1)).length : Int) ≠ 0 then g_X6_fromSlabs_j36 N (c : Int) else if ((LS (3 * c + 2)).length : Int) ≠ 0 then g_X6_fromSlabs_j36 N (c : Int) else Option.bind (g_X6_makeSlab N (c : Int)) fun r5 => if r5.1 ≠ 0 then g_X6_fromSlabs_j36 r5.2 (c : Int) else some (-1, r5.2) := by
    unfold g_X6_fromSlabs
    rw [w31, w32, q_mg (show 3 * c + 1 < mlen 21 by show _ < 24; omega), Option.bind_some, l1, q_mg (show 3 * c + 2 < mlen 21 by show _ < 24; omega), Option.bind_some, l2]
  have ev36 : ∀ {N : Mm} {LS : Nat → List Nat}, WR N LS → g_X6_fromSlabs_j36 N (c : Int) = if ((LS (3 * c + 1)).length : Int) ≤ 0 then g_X6_fromSlabs_j62 N ((3 * c + 2 : Nat) : Int) else g_X6_fromSlabs_j62 N ((3 * c + 1 : Nat) : Int) := fun {N LS} hR => by
    unfold g_X6_fromSlabs_j36
    rw [w31, w32, q_mg (show 3 * c + 1 < mlen 21 by show _ < 24; omega), Option.bind_some, (hR.1 (3 * c + 1) (by omega)).1]
  rw [evT, evG]
  have e24 : ∀ z : Nat, t_X5_takeFromSlabs_j24 t (x : Int) (ca c : Int) (z : Int) = t_X5_takeFromSlabs_j34 t (ca c : Int) (z : Int) := fun z => by
    unfold t_X5_takeFromSlabs_j24
    rw [if_pos (by omega)]
  cases h1 : LS (3 * c + 1) with
  | cons p r =>
    rw [ev36 hR, h1, if_pos (show 0 ≤ hdA (List.map sa (p :: r)) by show (0 : Int) ≤ (sa p : Int); omega), if_pos (by rw [List.length_cons]; omega), if_neg (by rw [List.length_cons]; omega)]
    show FS (t_X5_takeFromSlabs_j24 t (x : Int) (ca c : Int) (sa p : Int)) _ _ _ _ _ _ _ _ _ _
    rw [e24]
    exact fs_row hA (fun _ _ _ _ _ _ _ _ _ _ _ _ _ => rfl) (by omega) (by omega) h1 (wh_row hR (l := 3 * c + 1) (by omega) (by rw [h1]; exact List.mem_cons_self) (by omega))
  | nil =>
    rw [if_neg (show ¬ 0 ≤ hdA (List.map sa []) from (by decide : ¬ (0 : Int) ≤ -1)), if_neg (fun q => q rfl)]
    cases h2 : LS (3 * c + 2) with
    | cons p r =>
      rw [ev36 hR, h1, if_pos (by rw [List.length_cons]; omega), if_pos (by decide)]
      show FS (t_X5_takeFromSlabs_j24 t (x : Int) (ca c : Int) (sa p : Int)) _ _ _ _ _ _ _ _ _ _
      rw [e24]
      exact fs_row hA (fun _ _ _ _ _ _ _ _ _ _ _ _ _ => rfl) (by omega) (by omega) h2 (wh_row hR (l := 3 * c + 2) (by omega) (by rw [h2]; exact List.mem_cons_self) (by omega))
    | nil =>
      rw [if_neg (fun q => q rfl)]
      have e24' : t_X5_takeFromSlabs_j24 t (x : Int) (ca c : Int) (hdA (List.map sa [])) = Option.bind (t_X5_makeSlab t (x : Int) (ca c : Int)) fun r7 => t_X5_takeFromSlabs_j34 r7.2 (ca c : Int) r7.1 := by
        unfold t_X5_takeFromSlabs_j24
        rw [if_neg (show ¬ 0 ≤ hdA (List.map sa []) from (by decide : ¬ (0 : Int) ≤ -1)), q_ck kH.1, Option.bind_some]
      rw [e24']
      obtain ⟨t', N', sa', LS', FL', y1, y2, y3, y4⟩ := make_pair hA hc
      rcases y4 with ⟨z1, z2⟩ | ⟨p, r, z1, z2, z3, z4⟩
      · rw [z1, z2, Option.bind_some, Option.bind_some]
        dsimp only
        rw [if_neg (fun q => q rfl)]
        refine Or.inl ⟨t', N', sa', LS', FL', y1, y2, ?_, rfl⟩
        unfold t_X5_takeFromSlabs_j34
        rw [if_neg (by decide)]
      · rw [z1, z2, Option.bind_some, Option.bind_some]
        dsimp only
        rw [if_pos (by decide), ev36 y1.1.2.2.2.2.2, y3 (3 * c + 1) (by omega), h1, if_pos (by decide)]
        exact fs_row y1 y2 (by omega) (by omega) z3 (by omega)
end
