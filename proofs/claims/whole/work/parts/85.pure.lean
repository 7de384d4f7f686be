/-! the start: both sides agree -/
theorem n_1 {p : Nat} (h : p < 256) : NI 256 1 p = if p % 64 = 0 then 6 else -1 := by
  unfold NI
  rw [msA_ne (by decide), msA_same, if_pos h]
theorem n_2 {p : Nat} (h : p < 256) : NI 256 2 p = -1 := by
  unfold NI
  rw [msA_same, if_pos h]
theorem n_0 {b : Nat} (h : b ≠ 1 ∧ b ≠ 2) (j : Nat) : NI 256 b j = 0 := by
  unfold NI
  rw [msA_ne h.2, msA_ne h.1]
theorem n_k {b k : Nat} (hb : b < 256) (h : NI 256 1 b = (k : Int)) : b % 64 = 0 ∧ k = 6 := by
  rw [n_1 hb] at h
  by_cases e : b % 64 = 0
  · rw [if_pos e] at h
    exact ⟨e, by omega⟩
  · rw [if_neg e] at h
    omega
theorem n_cn : ∀ m, m ≤ 256 → cn (NI 256 2) m = 0 := by
  intro m
  induction m with
  | zero => intro _; rfl
  | succ m ih =>
    intro hm
    unfold cn
    rw [ih (by omega), n_2 (by omega), if_neg (by decide)]
theorem cr_start {n : Nat} {t : Th} (h : tC t n = 5 + 1 ∧ (0 ≤ tI t n 1 ∧ tL t n 1 = 256) ∧ (0 ≤ tI t n 2 ∧ tL t n 2 = 8) ∧ tV t n (gf 5 0) 0 = ((n + 1 : Nat) : Int) ∧ tV t n (gf 5 3) 0 = 0 ∧ (∀ q, tV t n (gf 5 1) q = -1) ∧ (∀ c, tV t n (gf 5 2) c = -1) ∧ tC t (n + 1) = 0 + 1 ∧ (0 ≤ tI t (n + 1) 0 ∧ tL t (n + 1) 0 = 256) ∧ (∀ p, p < 256 → tV t (n + 1) (gf 0 0) p = if p % 64 = 0 then 6 else -1) ∧ tV t (n + 1) (gf 0 1) 0 = 256 ∧ ∀ a, tC t a ≠ 0 → a < tN t) : CR n t (NI 256) := by
  obtain ⟨a1, a2, a3, a4, a5, a6, a7, b1, b2, b3, b4, b5⟩ := h
  have hSl : ∀ p, ¬ Sl (NI 256) p := fun p hp => by
    have := hp.2
    rw [n_2 hp.1] at this
    omega
  have hLv : ∀ c, ¬ Lv (NI 256) c := fun c hc => by
    have := hc.1
    rw [n_0 (by decide)] at this
    omega
  have p6 : (2 : Nat) ^ 6 = 64 := rfl
  refine ⟨n + 1, fun _ => 0, fun _ => 0, fun _ => 0, fun _ => 0, fun _ => [], fun _ => [], fun _ => 0, fun _ => 0, ⟨⟨⟨?_, fun c hc => ?_, fun c _ => ⟨n_0 (by decide) c, n_0 (by decide) c, n_0 (by decide) c⟩⟩, ⟨fun p hp => ?_, fun q b b' k k' hb hb' e e' c1 c2 c3 c4 => ?_, fun q b k hb e c1 c2 => ?_⟩, ⟨fun q hq => Or.inl (n_2 hq), fun p hp => absurd hp (hSl p)⟩, fun p hp => absurd hp (hSl p), fun u hu h => absurd (n_0 (by decide) u) h, fun l hl => ⟨?_, Nat.zero_le _, fun j hj => absurd hj (Nat.not_lt_zero j)⟩, fun l hl => ⟨List.nodup_nil, fun p => ⟨fun h => (by cases h), fun h => absurd h.1 (hSl p)⟩⟩⟩, ⟨fun s hs => ⟨Nat.zero_le _, fun k hk => absurd hk (Nat.not_lt_zero k)⟩, fun s s' k k' _ _ hk => absurd hk (Nat.not_lt_zero k)⟩, ⟨⟨a1, a2, a3, a4, ?_, fun q hq => ?_, fun c hc => ⟨fun h => absurd h (hLv c), fun _ => a7 c⟩⟩, ⟨b1, b2, fun p hp => ?_, ?_⟩, ⟨fun c hc => absurd hc (hLv c), fun l l' h => absurd h (hLv _)⟩, fun c hc => absurd hc (hLv c), fun c hc => absurd hc (hLv c), fun p hp => absurd hp (hSl p), fun p hp => absurd hp (hSl p), fun l hl hv => absurd hv (hLv _)⟩, fun c hc => absurd hc (hLv c), ⟨fun s hs => ?_, fun s s' hs => ?_⟩, fun c hc => absurd hc (hLv c), b5⟩, ⟨fun s hs => ?_, fun c hc => ⟨?_, fun d hd => ?_⟩⟩⟩
  · rw [n_0 (by decide)]; omega
  · rw [n_0 (by decide)] at hc; omega
  · rw [n_1 hp]
    by_cases e : p % 64 = 0
    · right; exact ⟨6, by omega, by rw [if_pos e]; rfl, by rw [p6]; exact e⟩
    · left; rw [if_neg e]
  · obtain ⟨x1, x2⟩ := n_k hb e
    obtain ⟨y1, y2⟩ := n_k hb' e'
    rw [x2, p6] at c2
    rw [y2, p6] at c4
    omega
  · obtain ⟨x1, x2⟩ := n_k hb e
    rw [x2, p6] at c2
    rw [n_2 (by omega)]
    decide
  · rw [n_0 (by decide)]; rfl
  · rw [a5, n_0 (by decide)]
  · rw [a6, n_2 hq, if_pos (by decide)]
  · rw [b3 p hp, n_1 hp]
  · rw [b4, n_cn 256 (Nat.le_refl _)]; rfl
  · rcases hs.2 with ⟨_, q⟩ | q
    · exact absurd q (hLv _)
    · exact absurd q (Nat.lt_irrefl 0)
  · rcases hs.2 with ⟨_, q⟩ | q
    · exact absurd q (hLv _)
    · exact absurd q (Nat.lt_irrefl 0)
  · rw [n_0 (by decide)]; rfl
  · rw [n_0 (by decide)]; rfl
  · show (0 : Nat) = if d < 0 then 4 else 0
    rw [if_neg (Nat.not_lt_zero d)]
theorem ht_S {S0 S : Nat → Prop} {h0 h h1 : Hp} {t : Th} (hT : HT S0 h0 h t) (hn : hN h ≤ hN h1) (hs : ∀ a, a < hN h → hK h1 a = hK h a ∧ hL h1 a = hL h a ∧ ∀ j, hF h1 a j = hF h a j) (hS : ∀ a, S a → hN h ≤ a ∧ a < hN h1) : HT S h1 h1 (tsN t (hN h1)) := by
  obtain ⟨⟨a1, a2⟩, b, c, d⟩ := hT
  refine ⟨⟨rfl, Nat.le_refl _⟩, fun a ci ha => ?_, c, fun a ha => ⟨(hS a ha).2, rfl, rfl, fun _ => rfl⟩⟩
  obtain ⟨b1, b2, b3, b4, b5, b6⟩ := b a ci ha
  obtain ⟨s1, s2, s3⟩ := hs a b3
  refine ⟨b1, by rw [s1]; exact b2, by omega, fun z => by have := (hS a z).1; omega, fun k hk => by rw [s3]; exact b5 k hk, fun k hk => ?_⟩
  obtain ⟨c1, c2⟩ := b6 k hk
  refine ⟨by rw [s3]; exact c1, fun hp => ?_⟩
  obtain ⟨d1, d2, d3, d4, d5⟩ := c2 hp
  obtain ⟨r1, r2, r3⟩ := hs _ d3
  exact ⟨by rw [show tI (tsN t (hN h1)) a k = tI t a k from rfl, r1]; exact d1, by rw [show tI (tsN t (hN h1)) a k = tI t a k from rfl, r2]; exact d2, Nat.lt_of_lt_of_le d3 hn, fun z => by have := (hS _ z).1; exact absurd d3 (Nat.not_lt.mpr this), fun i hi => by rw [show tI (tsN t (hN h1)) a k = tI t a k from rfl, r3]; exact d5 i hi⟩
theorem pure_ok : PureOk := by
  refine ⟨JJ, fun n => ?_, fun xa ma oa h hJ => ?_, all_ops⟩
  · obtain ⟨t1, e1, hf⟩ := init5 n
    obtain ⟨ha, q1, q2, q3⟩ := ht_new (ht_z n) (ci := 5) (by decide) (q_no (tz n) 5)
    obtain ⟨hb, p1, p2⟩ := h_X5_init q2 e1
    have c0 : tC (tnw (tz n) 5) n = 5 + 1 := by rw [tC_nw]; exact if_pos rfl
    obtain ⟨hc, ec, kc⟩ : ∃ hc, hc = hnew hb 7 0 (fun k => if rfT 6 k then -1 else 0) ∧ nwo hb 6 = some hc := ⟨_, rfl, rfl⟩
    have gK : ∀ a, hK hc a = if a = hN hb then 7 else hK hb a := fun a => by rw [ec]; rfl
    have gL : ∀ a, hL hc a = if a = hN hb then 0 else hL hb a := fun a => by rw [ec]; rfl
    have gF : ∀ a j, hF hc a j = if a = hN hb then (if rfT 6 j then -1 else 0) else hF hb a j := fun a j => by rw [ec]; rfl
    have gN : hN hc = hN hb + 1 := by rw [ec]; rfl
    have hMI : MI hb (hN hb) 1 hc (fun _ => 0) := by
      refine ⟨⟨by omega, by rw [gK, if_pos rfl], by rw [gF, if_pos rfl]; rfl, by rw [gF, if_pos rfl]; rfl⟩, fun a ha => ⟨by rw [gK, if_neg (by omega)], by rw [gL, if_neg (by omega)], fun j => by rw [gF, if_neg (by omega)]⟩, fun k hk h1 => ?_, fun k j hk _ h1 => ?_⟩
      · have := hk.2.1; omega
      · have := hk.2.1; omega
    obtain ⟨hd, am, r1, r2, r3, r4, r5⟩ := init6 hMI
    obtain ⟨he, ee, ke⟩ : ∃ he, he = hnew hd 10 1 (fun _ => if 10 ≤ 10 then 0 else -1) ∧ nwa hd 10 1 1 = some he := ⟨_, rfl, rfl⟩
    have fK : ∀ a, hK he a = if a = hN hd then 10 else hK hd a := fun a => by rw [ee]; rfl
    have fL : ∀ a, hL he a = if a = hN hd then 1 else hL hd a := fun a => by rw [ee]; rfl
    have fF : ∀ a j, a ≠ hN hd → hF he a j = hF hd a j := fun a j h => by rw [ee]; exact if_neg h
    have fN' : hN he = hN hd + 1 := by rw [ee]; rfl
    refine ⟨ha, hb, hc, hd, he, q1, ht_ck q2 (q_ck c0), p1, kc, ?_, r1, ke, n, _, NI 256, am, rfl, ht_S (h1 := he) p2 (by omega) (fun a ha => ?_) (fun a ha => ?_), mx_keep r2 (fun a ha => ?_), cr_N (k := hN he) (cr_start hf) (by have := p2.1.1; omega), ⟨by omega, by rw [Int.toNat_natCast, fK, if_pos rfl], by rw [Int.toNat_natCast, fL, if_pos rfl]⟩, by rw [Int.toNat_natCast, Int.toNat_natCast]; omega, fun k hk => by rw [Int.toNat_natCast]; have := (r5 k hk).2; omega⟩
    · unfold ckd
      rw [if_pos ⟨by omega, by rw [Int.toNat_natCast]; exact hMI.1.2.1⟩]
    · obtain ⟨s1, s2, s3⟩ := r3 a ha
      exact ⟨by rw [fK, if_neg (by omega)]; exact s1, by rw [fL, if_neg (by omega)]; exact s2, fun j => by rw [fF a j (by omega)]; exact s3 j⟩
    · rcases ha with q | ⟨k, hk, q⟩ | q
      · rw [Int.toNat_natCast] at q; omega
      · have := r5 k hk; omega
      · rw [Int.toNat_natCast] at q; omega
    · have hlt : a ≠ hN hd := by
        rcases ha with q | ⟨k, hk, q⟩
        · rw [Int.toNat_natCast] at q; omega
        · have := (r5 k hk).2; omega
      exact ⟨by rw [fK, if_neg hlt], by rw [fL, if_neg hlt], fun j => fF a j hlt⟩
  · obtain ⟨x, t, N, am, rfl, hT, hM, ⟨b, ca, la, sa, mg, LS, FL, hz, dz, hA, hH⟩, -⟩ := hJ
    exact ⟨ht_ck hT (q_ck hA.2.2.1.1.1), mx_ck hM⟩
