/-! the reference: a slab changes -/
def mvL (LS : Nat → List Nat) (p l l' : Nat) : Nat → List Nat := if l = l' then LS else lu (lu LS l ((LS l).erase p)) l' (p :: LS l')
theorem idn {a b : Nat} (hb : b ≠ 0) (ha : a < 1000000) : idv (a : Int) (b : Int) = some ((a / b : Nat) : Int) := by
  unfold idv
  rw [if_neg (by omega), ← Int.ofNat_tdiv, wn (Nat.lt_of_le_of_lt (Nat.div_le_self a b) ha)]
section
variable {N : Mm} {LS FL : Nat → List Nat} {p i : Nat}
theorem fn_le {c : Nat} (h : WPc N c) : fN N c ≤ 1024 ∧ sN N c ≤ 1024 ∧ N 11 c ≤ 1025 := by
  obtain ⟨d1, d2, d3, d4, d5, d6, d7⟩ := h
  have e1 := d7 0 (by omega)
  have e3 : 2 ^ oN N c ≤ 8 := Nat.pow_le_pow_right (n := 2) (by omega) d1.2
  have e4 : fN N c ≤ fN N c * sN N c := Nat.le_mul_of_pos_right _ (by omega)
  have e5 : sN N c ≤ fN N c * sN N c := Nat.le_mul_of_pos_left _ (by omega)
  refine ⟨by omega, by omega, ?_⟩
  have e6 := d7 (N 11 c - 1).toNat (by omega)
  have e7 : (N 11 c - 1).toNat ≤ (N 11 c - 1).toNat * aN N c := Nat.le_mul_of_pos_right _ (by omega)
  omega
theorem ws_b (hP : WP N) (hG : WG N) (hp : Sl N p) (h : WSp N FL p) : 0 ≤ N 16 p ∧ N 16 p ≤ (fN N (wN N p) : Int) ∧ N 16 p ≤ 1024 ∧ N 10 (wN N p) = (fN N (wN N p) : Int) := by
  obtain ⟨c1, c2, c3⟩ := sl_pc hP hG hp
  have h1 := nodup_len _ _ h.2.1 h.2.2.1
  have h2 := h.1
  have h3 := fn_le c1
  have h4 := c1.2.2.2.1
  refine ⟨by omega, by omega, by omega, h4.1⟩
theorem change_eq (hP : WP N) (hG : WG N) (hp : Sl N p) (hR : WR N LS) {d : Int} (hd : d = 1 ∨ d = -1) (hb : 0 ≤ N 16 p ∧ N 16 p ≤ 1024) : ∃ N', g_X6_change N (p : Int) d = some (0, N') ∧ N' 16 = fu (N 16) p (N 16 p + d) ∧ (∀ b, b ≠ 16 → b ≠ 21 → b ≠ 22 → N' b = N b) ∧ WR N' (mvL LS p (3 * wN N p + wh N p) (3 * wN N p + wh N' p)) := by
  obtain ⟨g1, g2, g3, g4, g5, g6⟩ := hG.2 p hp
  have hp2 := hp.1
  have hE : Ep N (mup N 16 p (N 16 p + d)) := ⟨rfl, rfl, rfl, rfl, rfl, rfl, rfl, rfl, rfl, rfl, rfl, rfl⟩
  have hG1 := ep_g hE hG
  have hP1 := ep_p hE rfl rfl hP
  have hp1 : Sl (mup N 16 p (N 16 p + d)) p := hp
  have eq16 : (mup N 16 p (N 16 p + d)) 16 = fu (N 16) p (N 16 p + d) := by rw [mup_msA, msA_same]
  have whq : ∀ N', N' 16 = fu (N 16) p (N 16 p + d) → (∀ b, b ≠ 16 → b ≠ 21 → b ≠ 22 → N' b = N b) → ∀ q, wh N' q = if q = p then wh (mup N 16 p (N 16 p + d)) p else wh N q := by
    intro N' h16 hb' q
    have e10 : N' 10 = N 10 := hb' 10 (by decide) (by decide) (by decide)
    have ew : wN N' q = wN N q := by unfold wN; rw [hb' 14 (by decide) (by decide) (by decide)]
    by_cases e : q = p
    · subst e
      rw [if_pos rfl]
      unfold wh
      rw [h16, e10, ew, eq16]
      rfl
    · rw [if_neg e]
      unfold wh
      rw [h16, e10, ew, fu_ne e]
  have hLm : p ∈ LS (3 * wN N p + wh N p) := ((hR.2 _ (by have := wh_lt (N := N) (p := p); omega)).2 p).mpr ⟨hp, rfl⟩
  have w0 := wh_lt (N := N) (p := p)
  have w2 := wh_lt (N := mup N 16 p (N 16 p + d)) (p := p)
  have ev : g_X6_change N (p : Int) d = if ((wh (mup N 16 p (N 16 p + d)) p : Nat) : Int) = ((wh N p : Nat) : Int) then some (0, mup N 16 p (N 16 p + d)) else Option.bind (g_X6_leave (mup N 16 p (N 16 p + d)) ((wN N p : Nat) : Int) ((wh N p : Nat) : Int) (p : Int)) fun r11 => Option.bind (mgt 14 r11.2 (p : Int)) fun v14 => Option.bind (g_X6_enter r11.2 v14 ((wh (mup N 16 p (N 16 p + d)) p : Nat) : Int) (p : Int)) fun r15 => some (0, r15.2) := by
    unfold g_X6_change g_X6_change_j58
    rw [wo_eq hP hG hp, Option.bind_some, q_mg (show p < mlen 16 from hp2), Option.bind_some, wr_eq (z := N 16 p + d) (by rcases hd with rfl | rfl <;> constructor <;> omega), q_ms (show p < mlen 16 from hp2), Option.bind_some, wo_eq hP1 hG1 hp1, Option.bind_some, q_mg (show p < mlen 14 from hp2), Option.bind_some]
    show (if _ then _ else Option.bind (g_X6_leave _ (N 14 p) _ _) _) = _
    rw [g1]
  by_cases e : wh (mup N 16 p (N 16 p + d)) p = wh N p
  · refine ⟨mup N 16 p (N 16 p + d), by rw [ev, if_pos (by rw [e])], eq16, fun b h1 _ _ => by rw [mup_msA, msA_ne h1], ?_⟩
    unfold mvL
    rw [if_pos (by rw [e])]
    refine ⟨hR.1, fun l hl => ⟨(hR.2 l hl).1, fun q => ?_⟩⟩
    rw [(hR.2 l hl).2 q, whq _ eq16 (fun b h1 _ _ => by rw [mup_msA, msA_ne h1]) q]
    show _ ↔ Sl N q ∧ 3 * wN N q + _ = l
    by_cases e2 : q = p
    · subst e2
      rw [if_pos rfl, e]
    · rw [if_neg e2]
  · obtain ⟨N2, l1, l2, l3⟩ := leave_eq (N := mup N 16 p (N 16 p + d)) (LS := LS) (p := p) hR.1 g2 w0 hLm (hR.2 _ (by omega)).1
    have hne : 3 * wN N p + wh (mup N 16 p (N 16 p + d)) p ≠ 3 * wN N p + wh N p := by omega
    have hnm : p ∉ LS (3 * wN N p + wh (mup N 16 p (N 16 p + d)) p) := fun q => by
      have := ((hR.2 _ (by omega)).2 p).mp q
      omega
    have hnd : (p :: LS (3 * wN N p + wh (mup N 16 p (N 16 p + d)) p)).Nodup := List.nodup_cons.mpr ⟨hnm, (hR.2 _ (by omega)).1⟩
    have hlen : (LS (3 * wN N p + wh (mup N 16 p (N 16 p + d)) p)).length < 256 := by
      have := nodup_len 256 _ hnd (fun x hx => by
        rcases List.mem_cons.mp hx with rfl | hx
        · exact hp2
        · exact (((hR.2 _ (by omega)).2 x).mp hx).1.1)
      rw [List.length_cons] at this
      omega
    obtain ⟨N3, k1, k2, k3⟩ := enter_eq (N := N2) (p := p) (c := wN N p) (w := wh (mup N 16 p (N 16 p + d)) p) l2 g2 w2 (by rw [lu_ne hne]; exact hlen)
    have h16 : N3 16 = fu (N 16) p (N 16 p + d) := by rw [k3 16 (by decide) (by decide), l3 16 (by decide) (by decide), eq16]
    have hoth : ∀ b, b ≠ 16 → b ≠ 21 → b ≠ 22 → N3 b = N b := fun b h1 h2 h3 => by rw [k3 b h2 h3, l3 b h2 h3, mup_msA, msA_ne h1]
    refine ⟨N3, ?_, h16, hoth, ?_⟩
    · rw [ev, if_neg (by omega), l1, Option.bind_some, q_mg (show p < mlen 14 from hp2), Option.bind_some]
      show Option.bind (g_X6_enter N2 (N2 14 p) _ _) _ = _
      rw [show N2 14 p = N 14 p by rw [l3 14 (by decide) (by decide)]; rfl, g1, k1]
      rfl
    · have hwp := whq N3 h16 hoth p
      rw [if_pos rfl] at hwp
      rw [hwp]
      unfold mvL
      rw [if_neg (fun q => hne q.symm)]
      rw [lu_ne hne] at k2
      refine ⟨k2, fun l hl => ?_⟩
      have hS : ∀ q, Sl N3 q = Sl N q := fun q => by unfold Sl; rw [hoth 2 (by decide) (by decide) (by decide)]
      have hw : ∀ q, wN N3 q = wN N q := fun q => by unfold wN; rw [hoth 14 (by decide) (by decide) (by decide)]
      have mem : ∀ q, (Sl N3 q ∧ 3 * wN N3 q + wh N3 q = l) ↔ (Sl N q ∧ 3 * wN N q + (if q = p then wh (mup N 16 p (N 16 p + d)) p else wh N q) = l) := fun q => by rw [hS, hw, whq N3 h16 hoth q]
      by_cases e1 : l = 3 * wN N p + wh (mup N 16 p (N 16 p + d)) p
      · subst e1
        rw [lu_same]
        refine ⟨hnd, fun q => ?_⟩
        rw [mem q, List.mem_cons, (hR.2 _ hl).2 q]
        by_cases e2 : q = p
        · subst e2
          rw [if_pos rfl]
          exact ⟨fun _ => ⟨hp, rfl⟩, fun _ => Or.inl rfl⟩
        · rw [if_neg e2]
          exact ⟨fun h => h.resolve_left e2, Or.inr⟩
      · rw [lu_ne e1]
        by_cases e3 : l = 3 * wN N p + wh N p
        · subst e3
          rw [lu_same]
          refine ⟨(hR.2 _ hl).1.erase p, fun q => ?_⟩
          rw [mem q, (hR.2 _ hl).1.mem_erase_iff, (hR.2 _ hl).2 q]
          by_cases e2 : q = p
          · subst e2
            rw [if_pos rfl]
            exact ⟨fun h => absurd rfl h.1, fun h => absurd h.2 hne⟩
          · rw [if_neg e2]
            exact ⟨fun h => h.2, fun h => ⟨e2, h⟩⟩
        · rw [lu_ne e3]
          refine ⟨(hR.2 _ hl).1, fun q => ?_⟩
          rw [mem q, (hR.2 _ hl).2 q]
          by_cases e2 : q = p
          · subst e2
            rw [if_pos rfl]
            exact ⟨fun h => absurd h.2.symm e3, fun h => absurd h.2.symm e1⟩
          · rw [if_neg e2]
theorem ch_congr {N' : Mm} (hE : Ep N N') : ∀ (xs : List Nat), (∀ j, j ∈ xs → N' 19 (U N p j) = N 19 (U N p j)) → chN N p xs → chN N' p xs := by
  intro xs
  induction xs with
  | nil => intro _ _; trivial
  | cons i r ih =>
    intro h1 h2
    refine ⟨?_, ih (fun j hj => h1 j (List.mem_cons_of_mem _ hj)) h2.2⟩
    rw [ep_u hE, h1 i List.mem_cons_self, ep_ul hE]
    exact h2.1
/-- the slabs but p stay as they are -/
theorem ws_oth {N' : Mm} {xs : List Nat} (hP : WP N) (hG : WG N) (hE : Ep N N') (hS : WS N FL) (hp : Sl N p) (h16 : ∀ q, q ≠ p → N' 16 q = N 16 q) (h17 : ∀ q, q ≠ p → N' 17 q = N 17 q) (h18 : ∀ q j, Sl N q → q ≠ p → j < fN N (wN N q) → N' 18 (U N q j) = N 18 (U N q j)) (h19 : ∀ q j, Sl N q → q ≠ p → j < fN N (wN N q) → N' 19 (U N q j) = N 19 (U N q j)) (hpp : WSp N' (lu FL p xs) p) : WS N' (lu FL p xs) := by
  intro q hq
  rw [ep_sl hE] at hq
  by_cases e : q = p
  · rw [e]; exact hpp
  · obtain ⟨a1, a2, a3, a4, a5, a6⟩ := hS q hq
    unfold WSp
    rw [lu_ne e, h16 q e, h17 q e, ep_w hE, ep_f hE, ep_ul hE]
    refine ⟨a1, a2, a3, a4, ch_congr hE _ (fun j hj => h19 q j hq e (a3 j hj)) a5, fun j hj => ?_⟩
    rw [ep_u hE, h18 q j hq e hj]
    exact a6 j hj
theorem u_ne (hP : WP N) (hG : WG N) (hp : Sl N p) (hi : i < fN N (wN N p)) {q j : Nat} (hq : Sl N q) (hj : j < fN N (wN N q)) (h : ¬ (q = p ∧ j = i)) : U N q j ≠ U N p i := fun e => h (u_inj hP hG hq hj hp hi e)
/-- an object comes back to its slab -/
theorem toSlab_eq (hP : WP N) (hG : WG N) (hS : WS N FL) (hZ : WZ N) (hR : WR N LS) (hp : Sl N p) (hi : i < fN N (wN N p)) (hf : i ∉ FL p) : ∃ N', g_X6_toSlab N (U N p i : Int) = some (0, N') ∧ N' 16 = fu (N 16) p (N 16 p - 1) ∧ N' 18 = fu (N 18) (U N p i) 1 ∧ (∀ b, b ≠ 16 → b ≠ 17 → b ≠ 18 → b ≠ 19 → b ≠ 21 → b ≠ 22 → N' b = N b) ∧ Ep N N' ∧ 0 < N 16 p ∧ WS N' (lu FL p (i :: FL p)) ∧ WZ N' ∧ WR N' (mvL LS p (3 * wN N p + wh N p) (3 * wN N p + wh N' p)) := by
  obtain ⟨b1, b2, b3, b4⟩ := ws_b hP hG hp (hS p hp)
  obtain ⟨r1, r2, r3, r4⟩ := u_rng hP hG hp hi
  obtain ⟨p1, p2, p3, p4⟩ := u_pg hP hG hp hi
  obtain ⟨a1, a2, a3, a4, a5, a6⟩ := hS p hp
  have hp2 := hp.1
  have hnd : (i :: FL p).Nodup := List.nodup_cons.mpr ⟨hf, a2⟩
  have hbd : ∀ x, x ∈ i :: FL p → x < fN N (wN N p) := fun x hx => by
    rcases List.mem_cons.mp hx with rfl | hx
    · exact hi
    · exact a3 x hx
  have hlen := nodup_len _ _ hnd hbd
  rw [List.length_cons] at hlen
  have hE0 : Ep N (mup (mup (mup N 18 (U N p i) 1) 19 (U N p i) (N 17 p)) 17 p (U N p i)) := ⟨rfl, rfl, rfl, rfl, rfl, rfl, rfl, rfl, rfl, rfl, rfl, rfl⟩
  have hR0 : WR (mup (mup (mup N 18 (U N p i) 1) 19 (U N p i) (N 17 p)) 17 p (U N p i)) LS := hR
  obtain ⟨N', k1, k2, k3, k4⟩ := change_eq (d := -1) (ep_p hE0 rfl rfl hP) (ep_g hE0 hG) (p := p) hp hR0 (Or.inr rfl) (show 0 ≤ N 16 p ∧ N 16 p ≤ 1024 from ⟨b1, b3⟩)
  have k3' : ∀ b, b ≠ 16 → b ≠ 17 → b ≠ 18 → b ≠ 19 → b ≠ 21 → b ≠ 22 → N' b = N b := fun b h1 h2 h3 h4 h5 h6 => by
    rw [k3 b h1 h5 h6, mup_msA, msA_ne h2, mup_msA, msA_ne h4, mup_msA, msA_ne h3]
  have e17 : N' 17 = fu (N 17) p (U N p i) := by
    rw [k3 17 (by decide) (by decide) (by decide), mup_msA, msA_same]; rfl
  have e18 : N' 18 = fu (N 18) (U N p i) 1 := by
    rw [k3 18 (by decide) (by decide) (by decide), mup_msA, msA_ne (by decide), mup_msA, msA_ne (by decide), mup_msA, msA_same]
  have e19 : N' 19 = fu (N 19) (U N p i) (N 17 p) := by
    rw [k3 19 (by decide) (by decide) (by decide), mup_msA, msA_ne (by decide), mup_msA, msA_same]; rfl
  have hE : Ep N N' := by
    refine ⟨?_, ?_, ?_, ?_, ?_, ?_, ?_, ?_, ?_, ?_, ?_, ?_⟩ <;> exact k3' _ (by decide) (by decide) (by decide) (by decide) (by decide) (by decide)
  refine ⟨N', ?_, k2, e18, k3', hE, by omega, ?_, ?_, k4⟩
  · unfold g_X6_toSlab
    rw [show (128 : Int) = ((128 : Nat) : Int) from rfl, idn (by decide) (by omega), Option.bind_some, q_mg (show U N p i / 128 < mlen 2 from p4), Option.bind_some, p1, q_ms (show U N p i < mlen 18 from r3), Option.bind_some, q_mg (show p < mlen 17 from hp2), Option.bind_some, q_ms (show U N p i < mlen 19 from r3), Option.bind_some, q_ms (show p < mlen 17 from hp2), Option.bind_some]
    refine Eq.trans (congrArg (fun z => Option.bind z _) k1) ?_
    rfl
  · refine ws_oth hP hG hE hS hp (fun q e => by rw [k2]; exact fu_ne e) (fun q e => by rw [e17, fu_ne e]) (fun q j hq e hj => ?_) (fun q j hq e hj => ?_) ?_
    · rw [e18, fu_ne (u_ne hP hG hp hi hq hj (fun z => e z.1))]
    · rw [e19, fu_ne (u_ne hP hG hp hi hq hj (fun z => e z.1))]
    · unfold WSp
      rw [lu_same, ep_w hE, ep_f hE, ep_ul hE, k2, e17, fu_same, fu_same]
      refine ⟨?_, hnd, hbd, rfl, ⟨?_, ch_congr hE _ (fun j hj => ?_) a5⟩, fun j hj => ?_⟩
      · show N 16 p + -1 + _ = _
        rw [List.length_cons]; omega
      · rw [ep_u hE, ep_ul hE, e19, fu_same, a4]
      · rw [e19, fu_ne (u_ne hP hG hp hi hp (a3 j hj) (fun z => hf (z.2 ▸ hj)))]
      · rw [ep_u hE, e18]
        by_cases ej : j = i
        · subst ej
          left
          exact ⟨List.mem_cons_self, fu_same _ _ _⟩
        · rw [fu_ne (u_ne hP hG hp hi hp hj (fun z => ej z.2))]
          rcases a6 j hj with ⟨z1, z2⟩ | ⟨z1, z2⟩
          · left; exact ⟨List.mem_cons_of_mem _ z1, z2⟩
          · right; exact ⟨fun z => by rcases List.mem_cons.mp z with z | z; exact ej z; exact z1 z, z2⟩
  · intro u hu h
    rw [e18] at h
    by_cases e : u = U N p i
    · exact ⟨p, i, by rw [ep_sl hE]; exact hp, by rw [ep_w hE, ep_f hE]; exact hi, by rw [ep_u hE]; exact e⟩
    · rw [fu_ne e] at h
      obtain ⟨q, j, z1, z2, z3⟩ := hZ u hu h
      exact ⟨q, j, by rw [ep_sl hE]; exact z1, by rw [ep_w hE, ep_f hE]; exact z2, by rw [ep_u hE]; exact z3⟩
/-- the first free object of the first slab of a row is taken, and lives -/
theorem takeRow_eq {l : Nat} {r : List Nat} (hP : WP N) (hG : WG N) (hS : WS N FL) (hZ : WZ N) (hR : WR N LS) (hl : l < 24) (hLl : LS l = p :: r) (hw : wh N p ≠ 0) : ∃ i fr N', FL p = i :: fr ∧ Sl N p ∧ 3 * wN N p + wh N p = l ∧ i < fN N (wN N p) ∧ g_X6_fromSlabs_j62 N (l : Int) = some ((U N p i : Int), N') ∧ (mup N' 18 (U N p i) 2) 16 = fu (N 16) p (N 16 p + 1) ∧ (mup N' 18 (U N p i) 2) 18 = fu (N 18) (U N p i) 2 ∧ (∀ b, b ≠ 16 → b ≠ 17 → b ≠ 18 → b ≠ 19 → b ≠ 21 → b ≠ 22 → (mup N' 18 (U N p i) 2) b = N b) ∧ Ep N (mup N' 18 (U N p i) 2) ∧ WS (mup N' 18 (U N p i) 2) (lu FL p fr) ∧ WZ (mup N' 18 (U N p i) 2) ∧ WR (mup N' 18 (U N p i) 2) (mvL LS p l (3 * wN N p + wh (mup N' 18 (U N p i) 2) p)) := by
  obtain ⟨hp, hwl⟩ := ((hR.2 l hl).2 p).mp (by rw [hLl]; exact List.mem_cons_self)
  obtain ⟨b1, b2, b3, b4⟩ := ws_b hP hG hp (hS p hp)
  obtain ⟨a1, a2, a3, a4, a5, a6⟩ := hS p hp
  have hp2 := hp.1
  have hlt : N 16 p < (fN N (wN N p) : Int) := by
    have : N 16 p ≠ (fN N (wN N p) : Int) := fun q => by
      apply hw
      have hf1 := (sl_pc hP hG hp).1.2.2.2.1.2
      unfold wh
      rw [if_neg (by omega), if_pos (by rw [q, b4])]
    omega
  cases hF : FL p with
  | nil => rw [hF, List.length_nil] at a1; omega
  | cons i fr =>
    rw [hF] at a1 a2 a3 a4 a5 a6
    rw [List.length_cons] at a1
    have hi : i < fN N (wN N p) := a3 i List.mem_cons_self
    obtain ⟨r1, r2, r3, r4⟩ := u_rng hP hG hp hi
    have hE0 : Ep N (mup N 17 p (N 19 (U N p i))) := ⟨rfl, rfl, rfl, rfl, rfl, rfl, rfl, rfl, rfl, rfl, rfl, rfl⟩
    have hR0 : WR (mup N 17 p (N 19 (U N p i))) LS := hR
    obtain ⟨N', k1, k2, k3, k4⟩ := change_eq (d := 1) (ep_p hE0 rfl rfl hP) (ep_g hE0 hG) (p := p) hp hR0 (Or.inl rfl) (show 0 ≤ N 16 p ∧ N 16 p ≤ 1024 from ⟨b1, b3⟩)
    have e0 : ∀ b, b ≠ 18 → (mup N' 18 (U N p i) 2) b = N' b := fun b h => by rw [mup_msA, msA_ne h]
    have k3' : ∀ b, b ≠ 16 → b ≠ 17 → b ≠ 18 → b ≠ 19 → b ≠ 21 → b ≠ 22 → (mup N' 18 (U N p i) 2) b = N b := fun b h1 h2 h3 h4 h5 h6 => by
      rw [e0 b h3, k3 b h1 h5 h6, mup_msA, msA_ne h2]
    have e17 : (mup N' 18 (U N p i) 2) 17 = fu (N 17) p (N 19 (U N p i)) := by
      rw [e0 17 (by decide), k3 17 (by decide) (by decide) (by decide), mup_msA, msA_same]
    have e18 : (mup N' 18 (U N p i) 2) 18 = fu (N 18) (U N p i) 2 := by
      rw [mup_msA, msA_same, k3 18 (by decide) (by decide) (by decide), mup_msA, msA_ne (by decide)]
    have e19 : (mup N' 18 (U N p i) 2) 19 = N 19 := by
      rw [e0 19 (by decide), k3 19 (by decide) (by decide) (by decide), mup_msA, msA_ne (by decide)]
    have e16 : (mup N' 18 (U N p i) 2) 16 = fu (N 16) p (N 16 p + 1) := by
      rw [e0 16 (by decide), k2]; rfl
    have hE : Ep N (mup N' 18 (U N p i) 2) := by
      refine ⟨?_, ?_, ?_, ?_, ?_, ?_, ?_, ?_, ?_, ?_, ?_, ?_⟩ <;> exact k3' _ (by decide) (by decide) (by decide) (by decide) (by decide) (by decide)
    have hnd := List.nodup_cons.mp a2
    refine ⟨i, fr, N', rfl, hp, hwl, hi, ?_, e16, e18, k3', hE, ?_, ?_, ?_⟩
    · unfold g_X6_fromSlabs_j62
      obtain ⟨l1, l2, l3⟩ := hR.1 l hl
      have h22 := l3 0 (by rw [hLl]; exact Nat.succ_pos _)
      simp only [hLl, List.getElem_cons_zero, Nat.add_zero] at h22
      rw [w256 hl, q_mg (show 256 * l < mlen 22 by show _ < 6144; omega), Option.bind_some, h22, q_mg (show p < mlen 17 from hp2), Option.bind_some, a4]
      show Option.bind (mgt 19 N (U N p i : Int)) _ = _
      rw [q_mg (show U N p i < mlen 19 from r3), Option.bind_some, q_ms (show p < mlen 17 from hp2), Option.bind_some]
      refine Eq.trans (congrArg (fun z => Option.bind z _) k1) ?_
      rfl
    · refine ws_oth hP hG hE hS hp (fun q e => by rw [e16]; exact fu_ne e) (fun q e => by rw [e17, fu_ne e]) (fun q j hq e hj => ?_) (fun q j hq e hj => by rw [e19]) ?_
      · rw [e18, fu_ne (u_ne hP hG hp hi hq hj (fun z => e z.1))]
      · unfold WSp
        rw [lu_same, ep_w hE, ep_f hE, ep_ul hE, e16, e17, fu_same, fu_same]
        refine ⟨by omega, hnd.2, fun x hx => a3 x (List.mem_cons_of_mem _ hx), a5.1, ch_congr hE _ (fun j hj => by rw [e19]) a5.2, fun j hj => ?_⟩
        rw [ep_u hE, e18]
        by_cases ej : j = i
        · subst ej
          right
          exact ⟨hnd.1, Or.inl (fu_same _ _ _)⟩
        · rw [fu_ne (u_ne hP hG hp hi hp hj (fun z => ej z.2))]
          rcases a6 j hj with ⟨z1, z2⟩ | ⟨z1, z2⟩
          · left; exact ⟨(List.mem_cons.mp z1).resolve_left ej, z2⟩
          · right; exact ⟨fun z => z1 (List.mem_cons_of_mem _ z), z2⟩
    · intro u hu h
      rw [e18] at h
      by_cases e : u = U N p i
      · exact ⟨p, i, by rw [ep_sl hE]; exact hp, by rw [ep_w hE, ep_f hE]; exact hi, by rw [ep_u hE]; exact e⟩
      · rw [fu_ne e] at h
        obtain ⟨q, j, z1, z2, z3⟩ := hZ u hu h
        exact ⟨q, j, by rw [ep_sl hE]; exact z1, by rw [ep_w hE, ep_f hE]; exact z2, by rw [ep_u hE]; exact z3⟩
    · have hwh : wh (mup N' 18 (U N p i) 2) p = wh N' p := rfl
      rw [hwh, ← hwl]
      exact k4
end
