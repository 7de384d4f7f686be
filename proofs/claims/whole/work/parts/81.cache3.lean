/-! the call cache -/
theorem ru_dec : ∀ k : Fin 4, ∀ z : Fin 512, ian (((8 * (z.val + 1) + 8 * 2 ^ k.val - 1 : Nat)) : Int) (-((8 * 2 ^ k.val : Nat) : Int)) = ((8 * ((z.val + 2 ^ k.val) / 2 ^ k.val * 2 ^ k.val) : Nat) : Int) := by decide +kernel
theorem ish_b : ∀ o : Nat, o < 4 → ish 1024 (o : Int) = ((1024 * 2 ^ o : Nat) : Int) := by decide
theorem irn {a b : Nat} (hb : b ≠ 0) : irm (a : Int) (b : Int) = some ((a % b : Nat) : Int) := by
  unfold irm
  rw [if_neg (by omega), ← Int.ofNat_tmod]
/-- the stride in units -/
def stU (n k : Nat) : Nat := (n / 8 - 1 + 2 ^ k) / 2 ^ k * 2 ^ k
section
variable {n k o : Nat}
theorem st_b (hn : 8 ≤ n ∧ n ≤ 4096) (h8 : n % 8 = 0) (hk : k < 4) : 1 ≤ stU n k ∧ stU n k ≤ 600 ∧ n ≤ 8 * stU n k ∧ (n + 8 * 2 ^ k - 1) / (8 * 2 ^ k) * (8 * 2 ^ k) = 8 * stU n k ∧ 1 ≤ 2 ^ k ∧ 2 ^ k ≤ 8 := by
  have : k = 0 ∨ k = 1 ∨ k = 2 ∨ k = 3 := by omega
  unfold stU
  rcases this with rfl | rfl | rfl | rfl <;> simp only [Nat.reducePow, Nat.reduceMul] <;> omega
theorem st_c (hn : 8 ≤ n ∧ n ≤ 4096) (h8 : n % 8 = 0) (hk : k < 4) : ian (wr ((wr ((n : Int) + ((8 * 2 ^ k : Nat) : Int))) - 1)) (wr (-((8 * 2 ^ k : Nat) : Int))) = ((8 * stU n k : Nat) : Int) := by
  obtain ⟨-, -, -, -, b5, b6⟩ := st_b hn h8 hk
  have h := ru_dec ⟨k, hk⟩ ⟨n / 8 - 1, by omega⟩
  dsimp only at h
  rw [show 8 * (n / 8 - 1 + 1) + 8 * 2 ^ k - 1 = n + 8 * 2 ^ k - 1 by omega] at h
  rw [wa (by omega), wr_eq (z := ((n + 8 * 2 ^ k : Nat) : Int) - 1) ⟨by omega, by omega⟩, wr_eq (z := -((8 * 2 ^ k : Nat) : Int)) ⟨by omega, by omega⟩, show ((n + 8 * 2 ^ k : Nat) : Int) - 1 = ((n + 8 * 2 ^ k - 1 : Nat) : Int) by omega]
  exact h
theorem st_m (hn : 8 ≤ n ∧ n ≤ 4096) (h8 : n % 8 = 0) (hk : k < 4) : ∃ v4, idv (wr ((wr ((n : Int) + ((8 * 2 ^ k : Nat) : Int))) - 1)) ((8 * 2 ^ k : Nat) : Int) = some v4 ∧ wr (v4 * ((8 * 2 ^ k : Nat) : Int)) = ((8 * stU n k : Nat) : Int) := by
  obtain ⟨b1, b2, b3, b4, b5, b6⟩ := st_b hn h8 hk
  refine ⟨(((n + 8 * 2 ^ k - 1) / (8 * 2 ^ k) : Nat) : Int), ?_, ?_⟩
  · rw [wa (by omega), wr_eq (z := ((n + 8 * 2 ^ k : Nat) : Int) - 1) ⟨by omega, by omega⟩, show ((n + 8 * 2 ^ k : Nat) : Int) - 1 = ((n + 8 * 2 ^ k - 1 : Nat) : Int) by omega, idn (by omega) (by omega)]
  · rw [← Int.natCast_mul, b4, wn (by omega)]
theorem fit_eq {B S A : Nat} (hS : 1 ≤ S) (hSB : S ≤ B) (hA : 1 ≤ A) : 1 ≤ 8 * B / (8 * S) ∧ (8 * B / (8 * S)) * (8 * S) + 8 * B % (8 * S) = 8 * B ∧ ∀ k' : Nat, k' < 8 * B % (8 * S) / (8 * A) + 1 → k' * A + 8 * B / (8 * S) * S ≤ B := by
  rw [Nat.mul_div_mul_left B S (by omega), Nat.mul_mod_mul_left, Nat.mul_div_mul_left (B % S) A (by omega)]
  have h1 : B / S * S + B % S = B := Nat.div_add_mod' B S
  refine ⟨Nat.div_pos hSB hS, ?_, fun k' hk => ?_⟩
  · rw [← Nat.mul_assoc, Nat.mul_comm (B / S) 8, Nat.mul_assoc, ← Nat.mul_add, h1]
  · have h2 : k' * A ≤ B % S / A * A := Nat.mul_le_mul_right A (by omega)
    have h3 := Nat.div_mul_le_self (B % S) A
    omega
end
section
variable {t : Th} {x : Nat} {N : Mm} {n k o c : Nat} {p0 p1 p2 p3 : Int}
theorem mc_no (N : Mm) (x1 x2 x3 x4 : Int) : g_X6_cache_j56 N x1 x2 x3 x4 = some (0, mup N 0 0 1) := by
  unfold g_X6_cache_j56 g_X6_cache_j57
  rw [if_pos rfl]
  unfold g_X6_cache_j77
  rw [if_pos rfl]
  unfold g_X6_cache_j93
  rw [if_pos rfl]
  unfold g_X6_cache_j108 g_X6_cache_j113
  rw [rf_p _ (by decide), Option.bind_some]
  dsimp only
  rw [if_neg (by decide)]
theorem m_3 {M : Mm} {j : Nat} {v : Int} (hk : j ≠ 3) (h : M 3 0 = (c : Int)) : (mup M j c v) 3 0 = (c : Int) := by
  rw [mup_ap, if_neg (fun q => hk q.1.symm)]; exact h
theorem mc_yes {M : Mm} {v25 v29 v30 x6 x7 : Int} (h : N 3 0 = (c : Int)) (hM : M = mup N 0 0 0) (hc : c < 8) (h1 : idv x7 x6 = some v25) (h2 : irm x7 x6 = some v29) (h3 : idv v29 p1 = some v30) : g_X6_cache_j113 N p0 p1 p2 p3 x6 x7 0 = some ((c : Int), mc M c p0 p1 p2 p3 x6 v25 (wr (v30 + 1))) := by
  have m0 : M 3 0 = (c : Int) := by rw [hM]; exact h
  have m5 := m_3 (j := 5) (v := p0) (by decide) m0
  have m6 := m_3 (j := 6) (v := p1) (by decide) m5
  have m7 := m_3 (j := 7) (v := p2) (by decide) m6
  have m8 := m_3 (j := 8) (v := p3) (by decide) m7
  have m9 := m_3 (j := 9) (v := x6) (by decide) m8
  have m10 := m_3 (j := 10) (v := v25) (by decide) m9
  have m11 := m_3 (j := 11) (v := wr (v30 + 1)) (by decide) m10
  unfold g_X6_cache_j113
  rw [rf_0, Option.bind_some, ← hM]
  dsimp only
  rw [if_pos rfl, Option.bind_some, m0, if_pos (by omega), Option.bind_some, q_ms (show c < mlen 5 from hc), Option.bind_some, Option.bind_some, m5, q_ms (show c < mlen 6 from hc), Option.bind_some, Option.bind_some, m6, q_ms (show c < mlen 7 from hc), Option.bind_some, Option.bind_some, m7, q_ms (show c < mlen 8 from hc), Option.bind_some, Option.bind_some, m8, q_ms (show c < mlen 9 from hc), Option.bind_some, Option.bind_some, m9, h1, Option.bind_some, q_ms (show c < mlen 10 from hc), Option.bind_some, Option.bind_some, m10, h2, Option.bind_some, h3, Option.bind_some, q_ms (show c < mlen 11 from hc), Option.bind_some, Option.bind_some, m11, w1 (by omega), Option.bind_some, Option.bind_some]
  rw [show (mup (mup (mup (mup (mup (mup (mup (mup M 5 c p0) 6 c p1) 7 c p2) 8 c p3) 9 c x6) 10 c v25) 11 c (wr (v30 + 1))) 3 0 ((c + 1 : Nat) : Int)) 3 0 = ((c + 1 : Nat) : Int) from rfl, wr_eq (z := ((c + 1 : Nat) : Int) - 1) ⟨by omega, by omega⟩, show ((c + 1 : Nat) : Int) - 1 = (c : Int) by omega]
  rfl
theorem oc_no (h : CR x t N) (hT : t_X5_cache t (x : Int) p0 p1 p2 p3 = some (2, 0, t)) (hG : g_X6_cache N p0 p1 p2 p3 = some (0, mup N 0 0 1)) : ∃ code rv t' bb N', t_X5_cache t (x : Int) p0 p1 p2 p3 = some (code, rv, t') ∧ (code = 0 ∨ code = 2) ∧ g_X6_cache N p0 p1 p2 p3 = some (bb, N') ∧ N' 0 0 = kL_cache code ∧ (code = 0 → bb = rv) ∧ CR x t' N' :=
  ⟨2, 0, t, 0, mup N 0 0 1, hT, Or.inr rfl, hG, rfl, fun q => (by omega), cr_0 h 1⟩
theorem o_cache (h : CR x t N) (p0 p1 p2 p3 : Int) : ∃ code rv t' bb N', t_X5_cache t (x : Int) p0 p1 p2 p3 = some (code, rv, t') ∧ (code = 0 ∨ code = 2) ∧ g_X6_cache N p0 p1 p2 p3 = some (bb, N') ∧ N' 0 0 = kL_cache code ∧ (code = 0 → bb = rv) ∧ CR x t' N' := by
  by_cases hs : 8 ≤ p0 ∧ p0 ≤ 4096
  rotate_left
  · refine oc_no h ?_ ?_
    · unfold t_X5_cache t_X5_cache_j20
      by_cases e : p0 < 8
      · rw [if_pos e]
      · rw [if_neg e, if_pos (by omega)]
    · unfold g_X6_cache
      rw [in_n hs, Option.bind_some]
      dsimp only
      rw [if_pos rfl]
      exact mc_no N p0 p1 p2 p3
  obtain ⟨n, rfl⟩ : ∃ n : Nat, p0 = (n : Int) := ⟨p0.toNat, by omega⟩
  have hn : 8 ≤ n ∧ n ≤ 4096 := by omega
  have h8i : irm (n : Int) 8 = some ((n % 8 : Nat) : Int) := irn (b := 8) (by decide)
  by_cases h8 : n % 8 = 0
  rotate_left
  · refine oc_no h ?_ ?_
    · unfold t_X5_cache t_X5_cache_j20
      rw [if_neg (by omega), if_neg (by omega), h8i, Option.bind_some, if_neg (by omega)]
    · unfold g_X6_cache
      rw [in_y hs, Option.bind_some]
      dsimp only
      rw [if_neg (by decide), h8i, Option.bind_some, if_pos (by omega)]
      exact mc_no N _ p1 p2 p3
  rw [h8] at h8i
  by_cases ha : p1 = 8 ∨ p1 = 16 ∨ p1 = 32 ∨ p1 = 64
  rotate_left
  · have a1 : ¬ p1 = 8 := fun q => ha (Or.inl q)
    have a2 : ¬ p1 = 16 := fun q => ha (Or.inr (Or.inl q))
    have a3 : ¬ p1 = 32 := fun q => ha (Or.inr (Or.inr (Or.inl q)))
    have a4 : ¬ p1 = 64 := fun q => ha (Or.inr (Or.inr (Or.inr q)))
    refine oc_no h ?_ ?_
    · unfold t_X5_cache
      rw [if_neg (by omega), if_neg (by omega), h8i, Option.bind_some, if_pos (by omega), if_neg a1, if_neg a2, if_neg a3, if_neg a4]
    · unfold g_X6_cache
      rw [in_y hs, Option.bind_some]
      dsimp only
      rw [if_neg (by decide), h8i, Option.bind_some, if_neg (by omega), if_neg a1, if_neg a2, if_neg a3, if_pos a4]
      exact mc_no N _ p1 p2 p3
  obtain ⟨k, hk, hp1⟩ : ∃ k : Nat, k < 4 ∧ p1 = ((8 * 2 ^ k : Nat) : Int) := by
    rcases ha with q | q | q | q
    · exact ⟨0, by decide, q⟩
    · exact ⟨1, by decide, q⟩
    · exact ⟨2, by decide, q⟩
    · exact ⟨3, by decide, q⟩
  have eT : t_X5_cache t (x : Int) (n : Int) p1 p2 p3 = t_X5_cache_j64 t (x : Int) (n : Int) p1 p2 p3 := by
    unfold t_X5_cache
    rw [if_neg (by omega), if_neg (by omega), h8i, Option.bind_some, if_pos (by omega)]
    by_cases a1 : p1 = 8
    · rw [if_pos a1]
    · rw [if_neg a1]
      by_cases a2 : p1 = 16
      · rw [if_pos a2]
      · rw [if_neg a2]
        by_cases a3 : p1 = 32
        · rw [if_pos a3]
        · rw [if_neg a3, if_pos (by omega)]
  have eG : g_X6_cache N (n : Int) p1 p2 p3 = g_X6_cache_j43 N (n : Int) p1 p2 p3 := by
    unfold g_X6_cache
    rw [in_y hs, Option.bind_some]
    dsimp only
    rw [if_neg (by decide), h8i, Option.bind_some, if_neg (by omega)]
    by_cases a1 : p1 = 8
    · rw [if_pos a1]
    · rw [if_neg a1]
      by_cases a2 : p1 = 16
      · rw [if_pos a2]
      · rw [if_neg a2]
        by_cases a3 : p1 = 32
        · rw [if_pos a3]
        · rw [if_neg a3, if_neg (by omega)]
  by_cases ho : 0 ≤ p2 ∧ p2 ≤ 3
  rotate_left
  · refine oc_no h ?_ ?_
    · rw [eT]
      unfold t_X5_cache_j64 t_X5_cache_j73
      by_cases e : p2 < 0
      · rw [if_pos e]
      · rw [if_neg e, if_neg (by omega)]
    · rw [eG]
      unfold g_X6_cache_j43
      rw [in_n ho, Option.bind_some]
      dsimp only
      rw [if_pos rfl]
      exact mc_no N _ p1 p2 p3
  obtain ⟨o, rfl⟩ : ∃ o : Nat, p2 = (o : Int) := ⟨p2.toNat, by omega⟩
  have ho4 : o < 4 := by omega
  subst hp1
  obtain ⟨b1, b2, b3, b4, b5, b6⟩ := st_b hn h8 hk
  have ec := st_c hn h8 hk
  obtain ⟨v4, em1, em2⟩ := st_m hn h8 hk
  have eo := ish_b o ho4
  have hB8 : 1024 * 2 ^ o ≤ 8192 := by have := Nat.pow_le_pow_right (n := 2) (by omega) (show o ≤ 3 by omega); omega
  have eG2 : g_X6_cache N (n : Int) ((8 * 2 ^ k : Nat) : Int) (o : Int) p3 = g_X6_cache_j93 N (n : Int) ((8 * 2 ^ k : Nat) : Int) (o : Int) p3 1 ((8 * stU n k : Nat) : Int) ((1024 * 2 ^ o : Nat) : Int) := by
    rw [eG]
    unfold g_X6_cache_j43
    rw [in_y ho, Option.bind_some]
    dsimp only
    rw [if_neg (by decide)]
    unfold g_X6_cache_j57
    rw [if_neg (by decide), em1, Option.bind_some, em2]
    unfold g_X6_cache_j77
    rw [if_neg (by decide), eo]
  by_cases hf : 8 * stU n k ≤ 1024 * 2 ^ o
  rotate_left
  · refine oc_no h ?_ ?_
    · rw [eT]
      unfold t_X5_cache_j64 t_X5_roundedUp
      rw [if_neg (by omega), if_pos (by omega), Option.bind_some]
      dsimp only
      rw [ec, eo, if_neg (by omega)]
    · rw [eG2]
      unfold g_X6_cache_j93
      rw [if_neg (by decide), if_neg (by omega)]
      unfold g_X6_cache_j108 g_X6_cache_j113
      rw [rf_p _ (by decide), Option.bind_some]
      dsimp only
      rw [if_neg (by decide)]
  obtain ⟨b, ca, la, sa, mg, LS, FL, hz, dz, hA, hH⟩ := id h
  have hP := hA.1.1
  have kH := hA.2.2.1.1
  have hT := hA.2.2.2.2.2.2
  have h53 : tV t x (gf 5 3) 0 = N 3 0 := kH.2.2.2.2.1
  obtain ⟨c, hc⟩ : ∃ c : Nat, N 3 0 = (c : Int) := ⟨(N 3 0).toNat, by have := hP.1; omega⟩
  by_cases hc8 : c < 8
  rotate_left
  · have hc9 : N 3 0 = 8 := by have := hP.1; omega
    refine ⟨0, -1, t, -1, mup N 0 0 0, ?_, Or.inl rfl, ?_, rfl, fun _ => rfl, cr_0 h 0⟩
    · rw [eT]
      unfold t_X5_cache_j64 t_X5_roundedUp
      rw [if_neg (by omega), if_pos (by omega), Option.bind_some]
      dsimp only
      rw [ec, eo, if_pos (by omega), q_gt 3 kH.1, Option.bind_some, h53, hc9, if_neg (by decide)]
    · rw [eG2]
      unfold g_X6_cache_j93
      rw [if_neg (by decide), if_pos (by omega)]
      unfold g_X6_cache_j113
      rw [rf_0, Option.bind_some]
      dsimp only
      rw [if_pos rfl, Option.bind_some, show (mup N 0 0 0) 3 0 = 8 from hc9, if_neg (by decide)]
  have hA0 := aa_0 hA 0
  have hB : 1024 * 2 ^ o = 8 * (128 * 2 ^ o) := by omega
  obtain ⟨f1, f2, f3⟩ := fit_eq (B := 128 * 2 ^ o) (S := stU n k) (A := 2 ^ k) b1 (by omega) b5
  rw [← hB] at f1 f2 f3
  have hmod : 1024 * 2 ^ o % (8 * stU n k) ≤ 8192 := Nat.le_trans (Nat.mod_le _ _) hB8
  have hdle : 1024 * 2 ^ o % (8 * stU n k) / (8 * 2 ^ k) ≤ 8192 := Nat.le_trans (Nat.div_le_self _ _) hmod
  have i1 : idv ((1024 * 2 ^ o : Nat) : Int) ((8 * stU n k : Nat) : Int) = some ((1024 * 2 ^ o / (8 * stU n k) : Nat) : Int) := idn (by omega) (by omega)
  have i2 : irm ((1024 * 2 ^ o : Nat) : Int) ((8 * stU n k : Nat) : Int) = some ((1024 * 2 ^ o % (8 * stU n k) : Nat) : Int) := irn (by omega)
  have i3 : idv ((1024 * 2 ^ o % (8 * stU n k) : Nat) : Int) ((8 * 2 ^ k : Nat) : Int) = some ((1024 * 2 ^ o % (8 * stU n k) / (8 * 2 ^ k) : Nat) : Int) := idn (by omega) (by omega)
  have i4 : wr ((((1024 * 2 ^ o : Nat)) : Int) - wr (((1024 * 2 ^ o / (8 * stU n k) : Nat) : Int) * ((8 * stU n k : Nat) : Int))) = ((1024 * 2 ^ o % (8 * stU n k) : Nat) : Int) := by
    rw [← Int.natCast_mul]
    generalize 1024 * 2 ^ o / (8 * stU n k) * (8 * stU n k) = P at f2
    generalize 1024 * 2 ^ o % (8 * stU n k) = R at f2 hmod
    rw [wn (by omega), wr_eq ⟨by omega, by omega⟩]
    omega
  obtain ⟨t2, L, M, g1, g2⟩ := newCache hT (num := (c : Int)) (size := (n : Int)) (align := ((8 * 2 ^ k : Nat) : Int)) (order := (o : Int)) (tag := p3) ec (by omega) (by rw [eo]; exact i1) (by omega) (by rw [eo, i4]; exact i3)
  have hco := cache_ok (o := o) (a := 2 ^ k) (s := stU n k) (f := 1024 * 2 ^ o / (8 * stU n k)) (v5 := (n : Int)) (v6 := ((8 * 2 ^ k : Nat) : Int)) (v7 := (o : Int)) (v8 := p3) (v9 := ((8 * stU n k : Nat) : Int)) (v10 := ((1024 * 2 ^ o / (8 * stU n k) : Nat) : Int)) (v11 := wr (((1024 * 2 ^ o % (8 * stU n k) / (8 * 2 ^ k) : Nat) : Int) + 1)) hA0 hH hc hc8 (by omega) ⟨rfl, by omega⟩ (by omega) (by omega) ⟨rfl, f1⟩ (by rw [w1 (by omega)]; exact Int.natCast_pos.mpr (Nat.succ_pos _)) (fun k' hk' => by
    rw [w1 (by omega)] at hk'
    exact f3 k' (by omega)) g2 ⟨rfl, rfl, rfl, rfl, rfl, rfl, rfl, rfl, rfl, rfl, rfl, rfl, rfl⟩
  have hx2 : tC t2 x = 5 + 1 := fe_c g2.2.2.1 kH.1
  have hI2 : tI t2 x 2 = tI t x 2 := fe_i g2.2.2.1 kH.1 (by decide)
  have hL2 : tL t2 x 2 = 8 := by rw [fe_l g2.2.2.1 kH.1 (by decide)]; exact kH.2.2.1.2
  have hv2 : tV t2 x (gf 5 3) 0 = (c : Int) := by rw [fe_v g2.2.2.1 kH.1 (by decide), h53, hc]
  refine ⟨0, (c : Int), _, (c : Int), _, ?_, Or.inl rfl, ?_, ?_, fun _ => rfl, b, _, _, sa, _, LS, FL, hz, dz, hco.1, hco.2⟩
  · rw [eT]
    unfold t_X5_cache_j64 t_X5_roundedUp
    rw [if_neg (by omega), if_pos (by omega), Option.bind_some]
    dsimp only
    rw [ec, eo, if_pos (by omega), q_gt 3 kH.1, Option.bind_some, h53, hc, if_pos (by omega), Option.bind_some, q_rf 2 kH.1, Option.bind_some, q_no, Option.bind_some, q_ck (show tC (tnw t 1) (tN t) = 1 + 1 by rw [tC_nw, if_pos rfl]), Option.bind_some, g1, Option.bind_some]
    dsimp only
    rw [← hI2, q_rs hx2 (by rw [hI2]; exact kH.2.2.1.1) (by omega) (Or.inr (by rw [Int.toNat_natCast]; exact g2.1.2.2)), Option.bind_some, q_gt 3 (show tC (tset t2 x (gf 5 2) c (tN t : Int)) x = 5 + 1 from hx2), Option.bind_some, tV_set, if_neg (fun q => by have := q.2.1; revert this; decide), hv2, q_pt 3 _ (show tC (tset t2 x (gf 5 2) c (tN t : Int)) x = 5 + 1 from hx2), Option.bind_some, w1 (by omega)]
  · rw [eG2]
    unfold g_X6_cache_j93
    rw [if_neg (by decide), if_pos (by omega)]
    exact mc_yes hc rfl hc8 i1 i2 i3
  · rw [mc_ot (by decide)]; rfl
end
