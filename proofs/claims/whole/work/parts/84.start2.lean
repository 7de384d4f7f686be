/-! the start: the reference -/
def MI (hB : Hp) (x K : Nat) (h : Hp) (am : Nat → Nat) : Prop :=
  (x < hN h ∧ hK h x = 7 ∧ hF h x 0 = 0 ∧ hF h x 3 = 0) ∧ (∀ a, a < x → hK h a = hK hB a ∧ hL h a = hL hB a ∧ ∀ j, hF h a j = hF hB a j) ∧
  (∀ k, isA k → k < K → hF h x k = (am k : Int) ∧ hK h (am k) = mkd k ∧ hL h (am k) = mlen k ∧ (∀ i, hF h (am k) i = 0) ∧ x < am k ∧ am k < hN h) ∧
  ∀ k j, isA k → isA j → k < K → j < K → am k = am j → k = j
section
variable {hB h : Hp} {x K kd n bound : Nat} {am : Nat → Nat} {z : Int}
theorem mi_skip (hM : MI hB x 3 h am) : MI hB x 4 h am := by
  obtain ⟨a, b, c, d⟩ := hM
  refine ⟨a, b, fun k hk h4 => c k hk (by have := hk.2.2; omega), fun k j hk hj h1 h2 e => d k j hk hj (by have := hk.2.2; omega) (by have := hj.2.2; omega) e⟩
theorem mi_step (hM : MI hB x K h am) (hA : isA K) (hkd : mkd K = kd) (hkd2 : kd ≤ 10) (hn : mlen K = n) (hz : z = (n : Int)) (hb : n ≤ bound) : ∃ h' am', (∀ k : Hp → Option (Int × Hp), (Option.bind (nwa h kd bound z) fun h2 => Option.bind (ptf h2 6 K (x : Int) ((hN h : Nat) : Int)) k) = k h') ∧ MI hB x (K + 1) h' am' := by
  subst hz
  obtain ⟨⟨a1, a2, a3, a4⟩, b, c, d⟩ := hM
  have gK : ∀ a, hK (hset (hnew h kd n (fun _ => if kd ≤ 10 then 0 else -1)) x K (hN h : Int)) a = if a = hN h then kd else hK h a := fun a => rfl
  have gL : ∀ a, hL (hset (hnew h kd n (fun _ => if kd ≤ 10 then 0 else -1)) x K (hN h : Int)) a = if a = hN h then n else hL h a := fun a => rfl
  have gF : ∀ a j, hF (hset (hnew h kd n (fun _ => if kd ≤ 10 then 0 else -1)) x K (hN h : Int)) a j = if a = x ∧ j = K then (hN h : Int) else if a = hN h then (if kd ≤ 10 then 0 else -1) else hF h a j := fun a j => rfl
  have gN : hN (hset (hnew h kd n (fun _ => if kd ≤ 10 then 0 else -1)) x K (hN h : Int)) = hN h + 1 := rfl
  refine ⟨hset (hnew h kd n (fun _ => if kd ≤ 10 then 0 else -1)) x K (hN h : Int), fz am K (hN h), fun k => ?_, ?_⟩
  · unfold nwa
    rw [if_pos ⟨by omega, by omega⟩, Option.bind_some]
    unfold ptf
    have hx7 : hK (hnew h kd n (fun _ => if kd ≤ 10 then 0 else -1)) x = 6 + 1 := by
      show (if x = hN h then kd else hK h x) = 6 + 1
      rw [if_neg (by omega)]
      exact a2
    rw [if_pos ⟨by omega, by rw [Int.toNat_natCast, Int.toNat_natCast]; exact hx7⟩, Option.bind_some, Int.toNat_natCast, Int.toNat_natCast]
  · generalize hset (hnew h kd n (fun _ => if kd ≤ 10 then 0 else -1)) x K (hN h : Int) = h' at gK gL gF gN
    have k0 := hA.2.1
    have k3 := hA.2.2
    refine ⟨⟨by omega, ?_, ?_, ?_⟩, fun a ha => ⟨?_, ?_, fun j => ?_⟩, fun k hk hlt => ?_, fun k j hk hj h1 h2 e => ?_⟩
    · rw [gK, if_neg (by omega)]; exact a2
    · rw [gF, if_neg (fun q => k0 q.2.symm), if_neg (by omega)]; exact a3
    · rw [gF, if_neg (fun q => k3 q.2.symm), if_neg (by omega)]; exact a4
    · rw [gK, if_neg (by omega)]; exact (b a ha).1
    · rw [gL, if_neg (by omega)]; exact (b a ha).2.1
    · rw [gF, if_neg (by omega), if_neg (by omega)]; exact (b a ha).2.2 j
    · by_cases e : k = K
      · subst e
        rw [fz_same, gK, if_pos rfl, gL, if_pos rfl, gF, if_pos ⟨rfl, rfl⟩]
        exact ⟨rfl, hkd.symm, hn.symm, fun i => by rw [gF, if_neg (by omega), if_pos rfl, if_pos hkd2], a1, by omega⟩
      · obtain ⟨c1, c2, c3, c4, c5, c6⟩ := c k hk (by omega)
        rw [fz_ne e, gK, if_neg (by omega), gL, if_neg (by omega), gF, if_neg (fun q => e q.2), if_neg (by omega)]
        exact ⟨c1, c2, c3, fun i => by rw [gF, if_neg (by omega), if_neg (by omega)]; exact c4 i, c5, by omega⟩
    · by_cases e1 : k = K
      · by_cases e2 : j = K
        · omega
        · rw [e1, fz_same, fz_ne e2] at e
          have := (c j hj (by omega)).2.2.2.2.2
          omega
      · by_cases e2 : j = K
        · rw [e2, fz_same, fz_ne e1] at e
          have := (c k hk (by omega)).2.2.2.2.2
          omega
        · rw [fz_ne e1, fz_ne e2] at e
          exact d k j hk hj (by omega) (by omega) e
end
def NI (i : Nat) : Mm := msA (msA (fun _ _ => 0) 1 (fun j => if j < i then (if j % 64 = 0 then 6 else -1) else 0)) 2 (fun j => if j < i then -1 else 0)
theorem ni_0 : NI 0 = fun _ _ => 0 := by
  funext b j
  unfold NI
  simp [msA_ap]
theorem ni_s (i : Nat) {v : Int} (hv : v = if i % 64 = 0 then 6 else -1) : mup (mup (NI i) 1 i v) 2 i (-1) = NI (i + 1) := by
  funext b j
  unfold NI
  simp only [mup_ap, msA_ap]
  by_cases e2 : b = 2
  · subst e2
    by_cases ej : j = i
    · simp [ej]
    · have : (j < i + 1) ↔ j < i := by omega
      simp [ej, this]
  · by_cases e1 : b = 1
    · subst e1
      by_cases ej : j = i
      · subst ej
        simp [hv]
      · have : (j < i + 1) ↔ j < i := by omega
        simp [ej, this]
    · simp [e1, e2]
theorem it_lp {x : Int} {am : Nat → Nat} {h0 : Hp} : ∀ (n i : Nat) (h : Hp) (m : Nat), i + n = 256 → n < m → MX x am h0 h (NI i) → ∃ h', f_X6_init_b214 m h x (i : Int) = some (0, h') ∧ MX x am h0 h' (NI 256) := by
  intro n
  induction n with
  | zero =>
    intro i h m hi hm hM
    cases m with
    | zero => omega
    | succ m =>
      have : i = 256 := by omega
      subst this
      refine ⟨h, ?_, hM⟩
      show f_X6_init_s214 _ h x _ = _
      unfold f_X6_init_s214
      rw [if_pos (by decide)]
  | succ n ih =>
    intro i h m hi hm hM
    cases m with
    | zero => omega
    | succ m =>
      obtain ⟨v, hv⟩ : ∃ v : Int, v = if i % 64 = 0 then 6 else -1 := ⟨_, rfl⟩
      obtain ⟨ha, qa, hMa⟩ := mx_ast hM (k := 1) (kd := 8) (by decide) rfl (q_ms (v := v) (show i < mlen 1 by show i < 256; omega))
      obtain ⟨hb, qb, hMb⟩ := mx_ast hMa (k := 2) (kd := 8) (by decide) rfl (q_ms (v := -1) (show i < mlen 2 by show i < 256; omega))
      rw [ni_s i hv] at hMb
      obtain ⟨h', z1, z2⟩ := ih (i + 1) hb m (by omega) (by omega) hMb
      refine ⟨h', ?_, z2⟩
      show f_X6_init_s214 _ h x _ = _
      unfold f_X6_init_s214 f_X6_init_j239
      rw [if_neg (by omega), mx_ref hM 1 (by decide), Option.bind_some, show (64 : Int) = ((64 : Nat) : Int) from rfl, irn (by decide), Option.bind_some]
      by_cases e : i % 64 = 0
      · rw [if_pos e] at hv
        subst hv
        rw [if_neg (by omega), qa, Option.bind_some, mx_ref hMa 2 (by decide), Option.bind_some, qb, Option.bind_some, w1 (by omega)]
        exact z1
      · rw [if_neg e] at hv
        subst hv
        rw [if_pos (by omega), qa, Option.bind_some, mx_ref hMa 2 (by decide), Option.bind_some, qb, Option.bind_some, w1 (by omega)]
        exact z1
theorem init6 {hB hc : Hp} {x : Nat} {a0 : Nat → Nat} (hM : MI hB x 1 hc a0) : ∃ hd am, f_X6_init hc (x : Int) = some (0, hd) ∧ MX (x : Int) am hd hd (NI 256) ∧ (∀ a, a < x → hK hd a = hK hB a ∧ hL hd a = hL hB a ∧ ∀ j, hF hd a j = hF hB a j) ∧ x < hN hd ∧ ∀ k, isA k → x < am k ∧ am k < hN hd := by
  obtain ⟨h1, am1, e1, M1⟩ := mi_step (K := 1) (kd := 8) (n := 256) (bound := 256) (z := 256) hM (by decide) rfl (by decide) rfl rfl (Nat.le_refl _)
  obtain ⟨h2, am2, e2, M2⟩ := mi_step (K := 2) (kd := 8) (n := 256) (bound := 256) (z := 256) M1 (by decide) rfl (by decide) rfl rfl (Nat.le_refl _)
  obtain ⟨h4, am4, e4, M4⟩ := mi_step (K := 4) (kd := 9) (n := 8) (bound := 8) (z := 8) (mi_skip M2) (by decide) rfl (by decide) rfl rfl (Nat.le_refl _)
  obtain ⟨h5, am5, e5, M5⟩ := mi_step (K := 5) (kd := 8) (n := 8) (bound := 8) (z := 8) M4 (by decide) rfl (by decide) rfl rfl (Nat.le_refl _)
  obtain ⟨h6, am6, e6, M6⟩ := mi_step (K := 6) (kd := 8) (n := 8) (bound := 8) (z := 8) M5 (by decide) rfl (by decide) rfl rfl (Nat.le_refl _)
  obtain ⟨h7, am7, e7, M7⟩ := mi_step (K := 7) (kd := 8) (n := 8) (bound := 8) (z := 8) M6 (by decide) rfl (by decide) rfl rfl (Nat.le_refl _)
  obtain ⟨h8, am8, e8, M8⟩ := mi_step (K := 8) (kd := 8) (n := 8) (bound := 8) (z := 8) M7 (by decide) rfl (by decide) rfl rfl (Nat.le_refl _)
  obtain ⟨h9, am9, e9, M9⟩ := mi_step (K := 9) (kd := 8) (n := 8) (bound := 8) (z := 8) M8 (by decide) rfl (by decide) rfl rfl (Nat.le_refl _)
  obtain ⟨h10, am10, e10, M10⟩ := mi_step (K := 10) (kd := 8) (n := 8) (bound := 8) (z := 8) M9 (by decide) rfl (by decide) rfl rfl (Nat.le_refl _)
  obtain ⟨h11, am11, e11, M11⟩ := mi_step (K := 11) (kd := 8) (n := 8) (bound := 8) (z := 8) M10 (by decide) rfl (by decide) rfl rfl (Nat.le_refl _)
  obtain ⟨h12, am12, e12, M12⟩ := mi_step (K := 12) (kd := 8) (n := 8) (bound := 8) (z := 8) M11 (by decide) rfl (by decide) rfl rfl (Nat.le_refl _)
  obtain ⟨h13, am13, e13, M13⟩ := mi_step (K := 13) (kd := 8) (n := 8) (bound := 8) (z := 8) M12 (by decide) rfl (by decide) rfl rfl (Nat.le_refl _)
  obtain ⟨h14, am14, e14, M14⟩ := mi_step (K := 14) (kd := 8) (n := 256) (bound := 256) (z := 256) M13 (by decide) rfl (by decide) rfl rfl (Nat.le_refl _)
  obtain ⟨h15, am15, e15, M15⟩ := mi_step (K := 15) (kd := 8) (n := 256) (bound := 256) (z := 256) M14 (by decide) rfl (by decide) rfl rfl (Nat.le_refl _)
  obtain ⟨h16, am16, e16, M16⟩ := mi_step (K := 16) (kd := 8) (n := 256) (bound := 256) (z := 256) M15 (by decide) rfl (by decide) rfl rfl (Nat.le_refl _)
  obtain ⟨h17, am17, e17, M17⟩ := mi_step (K := 17) (kd := 8) (n := 256) (bound := 256) (z := 256) M16 (by decide) rfl (by decide) rfl rfl (Nat.le_refl _)
  obtain ⟨h18, am18, e18, M18⟩ := mi_step (K := 18) (kd := 8) (n := 32768) (bound := 32768) (z := 32768) M17 (by decide) rfl (by decide) rfl rfl (Nat.le_refl _)
  obtain ⟨h19, am19, e19, M19⟩ := mi_step (K := 19) (kd := 8) (n := 32768) (bound := 32768) (z := 32768) M18 (by decide) rfl (by decide) rfl rfl (Nat.le_refl _)
  obtain ⟨h20, am20, e20, M20⟩ := mi_step (K := 20) (kd := 8) (n := 32768) (bound := 32768) (z := 32768) M19 (by decide) rfl (by decide) rfl rfl (Nat.le_refl _)
  obtain ⟨h21, am21, e21, M21⟩ := mi_step (K := 21) (kd := 8) (n := 24) (bound := 24) (z := 24) M20 (by decide) rfl (by decide) rfl rfl (Nat.le_refl _)
  obtain ⟨h22, am22, e22, M22⟩ := mi_step (K := 22) (kd := 8) (n := 6144) (bound := 6144) (z := 6144) M21 (by decide) rfl (by decide) rfl rfl (Nat.le_refl _)
  obtain ⟨h23, am23, e23, M23⟩ := mi_step (K := 23) (kd := 8) (n := 64) (bound := 64) (z := 64) M22 (by decide) rfl (by decide) rfl rfl (Nat.le_refl _)
  obtain ⟨h24, am24, e24, M24⟩ := mi_step (K := 24) (kd := 8) (n := 256) (bound := 256) (z := 256) M23 (by decide) rfl (by decide) rfl rfl (Nat.le_refl _)
  obtain ⟨h25, am25, e25, M25⟩ := mi_step (K := 25) (kd := 8) (n := 8) (bound := 8) (z := 8) M24 (by decide) rfl (by decide) rfl rfl (Nat.le_refl _)
  obtain ⟨h26, am26, e26, M26⟩ := mi_step (K := 26) (kd := 8) (n := 96) (bound := 96) (z := 96) M25 (by decide) rfl (by decide) rfl rfl (Nat.le_refl _)
  obtain ⟨⟨m1, m2, m3, m4⟩, b, c, d⟩ := M26
  have hX : MX (x : Int) am26 h26 h26 (NI 0) := by
    rw [ni_0]
    refine ⟨⟨by omega, by rw [Int.toNat_natCast]; exact m2, by rw [Int.toNat_natCast]; exact m3, by rw [Int.toNat_natCast]; exact m4⟩, fun k hk => ?_, fun k j hk hj e => d k j hk hj hk.1 hj.1 e, rfl, fun _ => rfl, fun _ => rfl, fun _ _ _ _ => rfl⟩
    obtain ⟨c1, c2, c3, c4, c5, c6⟩ := c k hk hk.1
    exact ⟨by rw [Int.toNat_natCast]; exact c1, c2, c3, fun i _ => c4 i⟩
  obtain ⟨hd, z1, z2⟩ := it_lp 256 0 h26 fuel (by omega) (by decide) hX
  obtain ⟨r1, r2, r3, r4⟩ := z2.2.2.2
  refine ⟨hd, _, ?_, mx_re z2, fun a ha => ?_, by rw [r1]; exact m1, fun k hk => ?_⟩
  · unfold f_X6_init
    have hck : ckd hc 6 (x : Int) = some () := by
      unfold ckd
      rw [if_pos ⟨by omega, by rw [Int.toNat_natCast]; exact hM.1.2.1⟩]
    rw [hck, Option.bind_some]
    refine (e1 _).trans ?_
    refine (e2 _).trans ?_
    refine (e4 _).trans ?_
    refine (e5 _).trans ?_
    refine (e6 _).trans ?_
    refine (e7 _).trans ?_
    refine (e8 _).trans ?_
    refine (e9 _).trans ?_
    refine (e10 _).trans ?_
    refine (e11 _).trans ?_
    refine (e12 _).trans ?_
    refine (e13 _).trans ?_
    refine (e14 _).trans ?_
    refine (e15 _).trans ?_
    refine (e16 _).trans ?_
    refine (e17 _).trans ?_
    refine (e18 _).trans ?_
    refine (e19 _).trans ?_
    refine (e20 _).trans ?_
    refine (e21 _).trans ?_
    refine (e22 _).trans ?_
    refine (e23 _).trans ?_
    refine (e24 _).trans ?_
    refine (e25 _).trans ?_
    refine (e26 _).trans ?_
    exact z1
  · obtain ⟨b1, b2, b3⟩ := b a ha
    exact ⟨(r2 a).trans b1, (r3 a).trans b2, fun j => (r4 a (by rw [Int.toNat_natCast]; omega) (fun k hk e => by have := (c k hk hk.1).2.2.2.2.1; omega) j).trans (b3 j)⟩
  · obtain ⟨c1, c2, c3, c4, c5, c6⟩ := c k hk hk.1
    exact ⟨c5, by rw [r1]; exact c6⟩
