section
variable {S : Nat → Prop} {h0 h : Hp} {t t' : Th}
theorem akd_rf (ci k : Nat) : akd ci k ≠ 0 → rfT ci k = true := by
  unfold akd
  repeat' split
  all_goals first
    | (intro q; exact absurd rfl q)
    | (rename_i c; obtain ⟨rfl, rfl⟩ := c; intro _; decide)
    | (rename_i c; obtain ⟨rfl, c⟩ := c; rcases c with rfl | rfl | rfl <;> (intro _; decide))
    | (rename_i c; obtain ⟨rfl, c⟩ := c; rcases c with rfl | rfl <;> (intro _; decide))
/-- an object's cell is no array's -/
theorem ht_oa {b cj j a ci : Nat} (hT : HT S h0 h t) (ha : tC t a = ci + 1) (hb : tC t b = cj + 1) (hj : akd cj j ≠ 0) (hp : 0 ≤ tI t b j) : (tI t b j).toNat ≠ a := by
  intro q
  obtain ⟨z1, z2, -⟩ := hT.2.1 _ _ ha
  obtain ⟨-, -, -, -, -, w⟩ := hT.2.1 _ _ hb
  have q1 := ((w j hj).2 hp).1
  rw [q, z2] at q1
  have := akd_ge cj j hj
  omega
theorem ht_ast {ci k kd : Nat} {a v i x : Int} (hT : HT S h0 h t) (hk : akd ci k = kd) (h0k : kd ≠ 0) (g : tas t ci k a v i x = some t') : ∃ h', ast h kd v i x = some h' ∧ HT S h0 h' t' := by
  unfold tas at g
  split at g
  · rename_i c
    cases g
    obtain ⟨⟨c1, c2⟩, ⟨c3, c4⟩, c5, c6⟩ := c
    subst hk
    obtain ⟨z1, z2, z3, z4, z5, z6⟩ := hT.2.1 _ _ c2
    obtain ⟨w1, w2⟩ := z6 k h0k
    obtain ⟨q1, q2, q3, q4, q5⟩ := w2 (by rw [c4]; exact c3)
    rw [c4] at q1 q2 q3 q4 q5
    refine ⟨hset h v.toNat i.toNat x, ?_, hT.1, ?_, hT.2.2.1, ?_⟩
    · unfold ast; rw [if_pos ⟨c3, q1, c5, by rw [q2]; exact c6⟩]
    · intro b cj hb
      obtain ⟨y1, y2, y3, y4, y5, y6⟩ := hT.2.1 b cj hb
      have hbv : b ≠ v.toNat := fun q => ht_oa hT hb c2 h0k (by rw [c4]; exact c3) (by rw [c4, q])
      refine ⟨y1, y2, y3, y4, fun j hj => ?_, fun j hj => ?_⟩
      · show (if b = v.toNat ∧ j = i.toNat then x else hF h b j) = (if b = a.toNat ∧ gf cj j = gf ci k ∧ 0 = i.toNat then x else tV t b (gf cj j) 0)
        have hn : ¬ (b = a.toNat ∧ gf cj j = gf ci k ∧ 0 = i.toNat) := by
          rintro ⟨rfl, z, -⟩
          have : ci = cj := by have := c2.symm.trans hb; omega
          subst this
          have : j = k := by unfold gf at z; omega
          subst this
          exact h0k hj
        rw [if_neg (fun q => hbv q.1), if_neg hn, y5 j hj]
      · obtain ⟨w1, w2⟩ := y6 j hj
        refine ⟨?_, fun hp => ?_⟩
        · show (if b = v.toNat ∧ j = i.toNat then x else hF h b j) = tI t b j
          rw [if_neg (fun q => hbv q.1)]; exact w1
        · obtain ⟨r1, r2, r3, r4, r5⟩ := w2 hp
          refine ⟨r1, r2, r3, r4, fun n hn => ?_⟩
          show (if (tI t b j).toNat = v.toNat ∧ n = i.toNat then x else hF h (tI t b j).toNat n) = (if b = a.toNat ∧ gf cj j = gf ci k ∧ n = i.toNat then x else tV t b (gf cj j) n)
          by_cases hbj : b = a.toNat ∧ j = k
          · obtain ⟨rfl, rfl⟩ := hbj
            have hcc : ci = cj := by have := c2.symm.trans hb; omega
            subst hcc
            by_cases hni : n = i.toNat
            · rw [if_pos ⟨by rw [c4], hni⟩, if_pos ⟨rfl, rfl, hni⟩]
            · rw [if_neg (fun q => hni q.2), if_neg (fun q => hni q.2.2), r5 n hn]
          · have hd : (tI t b j).toNat ≠ v.toNat := by
              intro q
              have e1 : tI t b j = tI t a.toNat k := by rw [c4]; change 0 ≤ tI t b j at hp; omega
              exact hbj (hT.2.2.1 b cj j a.toNat ci k hb hj c2 h0k hp e1)
            rw [if_neg (fun q => hd q.1), if_neg (fun q => hbj ⟨q.1, by
              have hcc : ci = cj := by have h9 := q.1 ▸ hb; have := c2.symm.trans h9; omega
              have := q.2.1; unfold gf at this; omega⟩), r5 n hn]
    · intro b hb
      obtain ⟨y1, y2, y3, y4⟩ := hT.2.2.2 b hb
      refine ⟨y1, y2, y3, fun j => ?_⟩
      rw [← y4 j]
      exact if_neg (fun q => q4 (by rw [← q.1]; exact hb))
  · cases g
theorem ht_asr {ci k kd : Nat} {a v i x : Int} (hT : HT S h0 h t) (hk : akd ci k = kd) (h11 : 11 ≤ kd) (g : trs t ci k a v i x = some t') : ∃ h', asr h kd v i x = some h' ∧ HT S h0 h' t' := by
  unfold trs at g
  split at g
  · rename_i c
    obtain ⟨h', e, hT'⟩ := ht_ast hT hk (by omega) g
    refine ⟨h', ?_, hT'⟩
    unfold asr
    rw [if_pos, e]
    rcases c with c | c
    · exact Or.inl c
    · refine Or.inr ?_
      rw [hk] at c
      have h2 := (hT.2.1 x.toNat (kd - 10) (by omega)).2.1
      omega
  · cases g
theorem ht_new {ci : Nat} (hT : HT S h0 h t) (hci : ci ≤ 5) (g : tno t ci = some t') : ∃ h', nwo h ci = some h' ∧ HT S h0 h' t' ∧ hN h = tN t := by
  unfold tno at g
  cases g
  refine ⟨_, rfl, ⟨?_, ?_, ?_, ?_⟩, hT.1.1⟩
  · refine ⟨?_, ?_⟩
    · show hN h + 1 = tN t + 1
      rw [hT.1.1]
    · show hN h0 ≤ hN h + 1
      have := hT.1.2
      omega
  · intro b cj hb
    by_cases hbn : b = tN t
    · subst hbn
      have hcc : ci = cj := by
        have : (if tN t = tN t then ci + 1 else tC t (tN t)) = cj + 1 := hb
        rw [if_pos rfl] at this; omega
      subst hcc
      have en : tN t = hN h := hT.1.1.symm
      refine ⟨hci, by show (if tN t = hN h then ci + 1 else _) = _; rw [if_pos en], by show tN t < hN h + 1; omega, fun q => ?_, fun k hk => ?_, fun k hk => ⟨?_, fun hp => ?_⟩⟩
      · have := (hT.2.2.2 _ q).1
        have := hT.1.2
        omega
      · show (if tN t = hN h then (if rfT ci k then -1 else 0) else _) = (if tN t = tN t then (if rfT ci (gf ci k - 32 * ci) then -1 else 0) else _)
        rw [if_pos en, if_pos rfl, show gf ci k - 32 * ci = k by unfold gf; omega]
      · show (if tN t = hN h then (if rfT ci k then -1 else 0) else _) = (if tN t = tN t then (-1 : Int) else _)
        rw [if_pos en, if_pos rfl, if_pos (akd_rf ci k hk)]
      · have : (0 : Int) ≤ (if tN t = tN t then (-1 : Int) else tI t (tN t) k) := hp
        rw [if_pos rfl] at this
        omega
    · have hb2 : tC t b = cj + 1 := by
        have : (if b = tN t then ci + 1 else tC t b) = cj + 1 := hb
        rw [if_neg hbn] at this; exact this
      obtain ⟨y1, y2, y3, y4, y5, y6⟩ := hT.2.1 b cj hb2
      have hbh : b ≠ hN h := by omega
      refine ⟨y1, by show (if b = hN h then ci + 1 else hK h b) = _; rw [if_neg hbh]; exact y2, by show b < hN h + 1; omega, y4, fun k hk => ?_, fun k hk => ?_⟩
      · show (if b = hN h then _ else hF h b k) = (if b = tN t then _ else tV t b (gf cj k) 0)
        rw [if_neg hbh, if_neg hbn, y5 k hk]
      · obtain ⟨w1, w2⟩ := y6 k hk
        have eI : (if b = tN t then (-1 : Int) else tI t b k) = tI t b k := if_neg hbn
        refine ⟨?_, fun hp => ?_⟩
        · show (if b = hN h then _ else hF h b k) = (if b = tN t then (-1 : Int) else tI t b k)
          rw [if_neg hbh, if_neg hbn, w1]
        · have hp2 : 0 ≤ tI t b k := by
            have : (0 : Int) ≤ (if b = tN t then (-1 : Int) else tI t b k) := hp
            rw [eI] at this; exact this
          obtain ⟨q1, q2, q3, q4, q5⟩ := w2 hp2
          have hne : (tI t b k).toNat ≠ hN h := by omega
          show (if ((if b = tN t then (-1 : Int) else tI t b k)).toNat = hN h then ci + 1 else hK h ((if b = tN t then (-1 : Int) else tI t b k)).toNat) = _ ∧ (if ((if b = tN t then (-1 : Int) else tI t b k)).toNat = hN h then 0 else hL h ((if b = tN t then (-1 : Int) else tI t b k)).toNat) = (if b = tN t then 0 else tL t b k) ∧ ((if b = tN t then (-1 : Int) else tI t b k)).toNat < hN h + 1 ∧ ¬ S ((if b = tN t then (-1 : Int) else tI t b k)).toNat ∧ ∀ i, i < (if b = tN t then 0 else tL t b k) → (if ((if b = tN t then (-1 : Int) else tI t b k)).toNat = hN h then _ else hF h ((if b = tN t then (-1 : Int) else tI t b k)).toNat i) = (if b = tN t then _ else tV t b (gf cj k) i)
          rw [eI, if_neg hne, if_neg hne, if_neg hbn]
          refine ⟨q1, q2, by omega, q4, fun i hi => ?_⟩
          rw [if_neg hne, if_neg hbn, q5 i hi]
  · intro a c1 k a' c2 k' h1 h2 h3 h4 h5 h6
    have f : ∀ a c k, (if a = tN t then ci + 1 else tC t a) = c + 1 → (0 : Int) ≤ (if a = tN t then (-1 : Int) else tI t a k) → a ≠ tN t := by
      intro a c k _ hp q
      rw [if_pos q] at hp; omega
    have n1 := f a c1 k h1 h5
    have h6' : (if a = tN t then (-1 : Int) else tI t a k) = (if a' = tN t then (-1 : Int) else tI t a' k') := h6
    have n2 := f a' c2 k' h3 (by rw [← h6']; exact h5)
    rw [if_neg n1, if_neg n2] at h6'
    have h1' : (if a = tN t then ci + 1 else tC t a) = c1 + 1 := h1
    have h3' : (if a' = tN t then ci + 1 else tC t a') = c2 + 1 := h3
    have h5' : (0 : Int) ≤ (if a = tN t then (-1 : Int) else tI t a k) := h5
    rw [if_neg n1] at h1' h5'
    rw [if_neg n2] at h3'
    exact hT.2.2.1 a c1 k a' c2 k' h1' h2 h3' h4 h5' h6'
  · intro b hb
    obtain ⟨y1, y2, y3, y4⟩ := hT.2.2.2 b hb
    have hbh : b ≠ hN h := by have := hT.1.2; omega
    refine ⟨y1, ?_, ?_, fun j => ?_⟩
    · rw [← y2]; exact if_neg hbh
    · rw [← y3]; exact if_neg hbh
    · rw [← y4 j]; exact if_neg hbh
/-- a new array put into the field k of a -/
theorem ht_arr {ci k a n : Nat} {f : Nat → Int} (hT : HT S h0 h t) (ha : tC t a = ci + 1) (hk : akd ci k ≠ 0) : HT S h0 (hset (hnew h (akd ci k) n f) a k (hN h : Int)) (tarr t a ci k n f) ∧ hK (hnew h (akd ci k) n f) a = ci + 1 := by
  obtain ⟨z1, z2, z3, z4, z5, z6⟩ := hT.2.1 _ _ ha
  have en : tN t = hN h := hT.1.1.symm
  have kb : ∀ b, b ≠ hN h → hK (hnew h (akd ci k) n f) b = hK h b := fun b hb => if_neg hb
  have lb : ∀ b, b ≠ hN h → hL (hnew h (akd ci k) n f) b = hL h b := fun b hb => if_neg hb
  have fb : ∀ b j, b ≠ hN h → ¬ (b = a ∧ j = k) → hF (hset (hnew h (akd ci k) n f) a k (hN h : Int)) b j = hF h b j := fun b j hb hn => by
    show (if b = a ∧ j = k then _ else if b = hN h then f j else hF h b j) = _
    rw [if_neg hn, if_neg hb]
  refine ⟨⟨⟨?_, ?_⟩, ?_, ?_, ?_⟩, by rw [kb a (by omega)]; exact z2⟩
  · show hN h + 1 = tN t + 1; rw [en]
  · show hN h0 ≤ hN h + 1; have := hT.1.2; omega
  · intro b cj hb
    have hb' : tC t b = cj + 1 := hb
    obtain ⟨y1, y2, y3, y4, y5, y6⟩ := hT.2.1 b cj hb'
    have hbh : b ≠ hN h := by omega
    refine ⟨y1, by rw [show hK (hset (hnew h (akd ci k) n f) a k (hN h : Int)) b = hK (hnew h (akd ci k) n f) b from rfl, kb b hbh]; exact y2, by show b < hN h + 1; omega, y4, fun j hj => ?_, fun j hj => ?_⟩
    · have hn : ¬ (b = a ∧ j = k) := by
        rintro ⟨rfl, rfl⟩
        have : ci = cj := by omega
        subst this
        exact hk hj
      rw [fb b j hbh hn, y5 j hj]
      exact (if_neg (fun z => hn ⟨z.1, by
        have hcc : ci = cj := by have h9 := z.1 ▸ hb'; omega
        have := z.2; unfold gf at this; omega⟩)).symm
    · obtain ⟨w1, w2⟩ := y6 j hj
      by_cases hn : b = a ∧ j = k
      · obtain ⟨rfl, rfl⟩ := hn
        have hcc : ci = cj := by omega
        subst hcc
        have eI : tI (tarr t b ci j n f) b j = (hN h : Int) := by show (if b = b ∧ j = j then (tN t : Int) else _) = _; rw [if_pos ⟨rfl, rfl⟩, en]
        have eL : tL (tarr t b ci j n f) b j = n := if_pos ⟨rfl, rfl⟩
        rw [eI, eL]
        have e2 : ((hN h : Nat) : Int).toNat = hN h := by omega
        rw [e2]
        refine ⟨if_pos ⟨rfl, rfl⟩, fun _ => ⟨if_pos rfl, if_pos rfl, by show hN h < hN h + 1; omega, fun q => ?_, fun i hi => ?_⟩⟩
        · have := (hT.2.2.2 _ q).1; have := hT.1.2; omega
        · show (if hN h = b ∧ i = j then _ else if hN h = hN h then f i else _) = (if b = b ∧ gf ci j = gf ci j then f i else _)
          rw [if_neg (fun q => hbh q.1.symm), if_pos rfl, if_pos ⟨rfl, rfl⟩]
      · have eI : tI (tarr t a ci k n f) b j = tI t b j := if_neg hn
        have eL : tL (tarr t a ci k n f) b j = tL t b j := if_neg hn
        have eV : ∀ i, tV (tarr t a ci k n f) b (gf cj j) i = tV t b (gf cj j) i := fun i => if_neg (fun z => hn ⟨z.1, by
          have hcc : ci = cj := by have h9 := z.1 ▸ hb'; omega
          have := z.2; unfold gf at this; omega⟩)
        rw [eI, eL]
        refine ⟨by rw [fb b j hbh hn]; exact w1, fun hp => ?_⟩
        obtain ⟨q1, q2, q3, q4, q5⟩ := w2 hp
        have hne : (tI t b j).toNat ≠ hN h := by omega
        refine ⟨by rw [show hK (hset (hnew h (akd ci k) n f) a k (hN h : Int)) (tI t b j).toNat = hK (hnew h (akd ci k) n f) (tI t b j).toNat from rfl, kb _ hne]; exact q1, by rw [show hL (hset (hnew h (akd ci k) n f) a k (hN h : Int)) (tI t b j).toNat = hL (hnew h (akd ci k) n f) (tI t b j).toNat from rfl, lb _ hne]; exact q2, by show _ < hN h + 1; omega, q4, fun i hi => ?_⟩
        rw [eV, fb _ i hne (fun q => ht_oa hT ha hb' hj hp q.1), q5 i hi]
  · intro b c1 j b' c2 j' h1 h2 h3 h4 h5 h6
    have h1' : tC t b = c1 + 1 := h1
    have h3' : tC t b' = c2 + 1 := h3
    have lt : ∀ b c j, tC t b = c + 1 → akd c j ≠ 0 → 0 ≤ tI t b j → tI t b j < (tN t : Int) := by
      intro b c j q1 q2 q3
      obtain ⟨-, -, -, -, -, w⟩ := hT.2.1 b c q1
      have := ((w j q2).2 q3).2.2.1
      omega
    by_cases n1 : b = a ∧ j = k
    · by_cases n2 : b' = a ∧ j' = k
      · exact ⟨n1.1.trans n2.1.symm, n1.2.trans n2.2.symm⟩
      · exfalso
        have e1 : tI (tarr t a ci k n f) b j = (tN t : Int) := if_pos n1
        have e2 : tI (tarr t a ci k n f) b' j' = tI t b' j' := if_neg n2
        rw [e1, e2] at h6
        have := lt b' c2 j' h3' h4 (by omega)
        omega
    · have e1 : tI (tarr t a ci k n f) b j = tI t b j := if_neg n1
      rw [e1] at h5 h6
      by_cases n2 : b' = a ∧ j' = k
      · exfalso
        have e2 : tI (tarr t a ci k n f) b' j' = (tN t : Int) := if_pos n2
        rw [e2] at h6
        have := lt b c1 j h1' h2 h5
        omega
      · have e2 : tI (tarr t a ci k n f) b' j' = tI t b' j' := if_neg n2
        rw [e2] at h6
        exact hT.2.2.1 b c1 j b' c2 j' h1' h2 h3' h4 h5 h6
  · intro b hb
    obtain ⟨y1, y2, y3, y4⟩ := hT.2.2.2 b hb
    have hbh : b ≠ hN h := by have := hT.1.2; omega
    have hba : b ≠ a := fun q => z4 (by rw [← q]; exact hb)
    refine ⟨y1, ?_, ?_, fun j => ?_⟩
    · rw [← y2]; exact kb b hbh
    · rw [← y3]; exact lb b hbh
    · rw [← y4 j]; exact fb b j hbh (fun q => hba q.1)
theorem ht_an {ci k bound kd : Nat} {a n : Int} (hT : HT S h0 h t) (hk : akd ci k = kd) (h0k : kd ≠ 0) (g : tan t ci k bound a n = some t') : ∃ h2 h', nwa h kd bound n = some h2 ∧ ptf h2 ci k a (hN h : Int) = some h' ∧ HT S h0 h' t' := by
  unfold tan at g
  split at g
  · rename_i c
    cases g
    subst hk
    obtain ⟨r1, r2⟩ := ht_arr (n := n.toNat) (f := fun _ => if akd ci k ≤ 10 then 0 else -1) hT c.2.2 h0k
    refine ⟨hnew h (akd ci k) n.toNat (fun _ => if akd ci k ≤ 10 then 0 else -1), _, ?_, ?_, r1⟩
    · unfold nwa; rw [if_pos c.1]
    · unfold ptf; rw [if_pos ⟨c.2.1, r2⟩]
  · cases g
theorem ht_cp {ci k : Nat} {a v n : Int} (hT : HT S h0 h t) (hk : akd ci k = 8) (g : tcp t ci k a v n = some t') : ∃ h2 h', f_J7_copyOf_59c91 h v n = some ((hN h : Int), h2) ∧ ptf h2 ci k a (hN h : Int) = some h' ∧ HT S h0 h' t' := by
  unfold tcp at g
  split at g
  · rename_i c
    cases g
    obtain ⟨⟨c1, c2⟩, ⟨c3, c4⟩, c5, c6⟩ := c
    have h0k : akd ci k ≠ 0 := by rw [hk]; decide
    obtain ⟨-, -, -, -, -, w⟩ := hT.2.1 _ _ c2
    obtain ⟨q1, q2, q3, q4, q5⟩ := (w k h0k).2 (by rw [c4]; exact c3)
    rw [c4] at q1 q2 q3 q5
    obtain ⟨r1, r2⟩ := ht_arr (n := n.toNat) (f := fun j => if j < tL t a.toNat k then tV t a.toNat (gf ci k) j else 0) hT c2 h0k
    rw [hk] at r1 r2 q1
    refine ⟨hnew h 8 n.toNat (fun j => if j < tL t a.toNat k then tV t a.toNat (gf ci k) j else 0), _, ?_, ?_, r1⟩
    · unfold f_J7_copyOf_59c91
      rw [if_pos ⟨c3, q1, by rw [q2]; exact c5, c6⟩]
      refine congrArg some (Prod.ext rfl ?_)
      refine congrArg (hnew h 8 n.toNat) ?_
      funext j
      rw [q2]
      by_cases hj : j < tL t a.toNat k
      · rw [if_pos hj, if_pos hj, q5 j hj]
      · rw [if_neg hj, if_neg hj]
    · unfold ptf; rw [if_pos ⟨c1, r2⟩]
  · cases g
/-- filled from i on -/
def tfr (t : Th) (a ci k i : Nat) (x : Int) : Th := (t.1, t.2.1, t.2.2.1, fun b j n => if b = a ∧ j = gf ci k ∧ i ≤ n ∧ n < tL t a k then x else t.2.2.2.1 b j n, t.2.2.2.2)
theorem ht_fl {ci k a : Nat} {v x : Int} (hk : akd ci k = 8) : ∀ (n i : Nat) (h : Hp) (t : Th), HT S h0 h t → tC t a = ci + 1 → tI t a k = v → 0 ≤ v → tL t a k ≤ 256 → i ≤ tL t a k → tL t a k - i < n → ∃ h', f_J7_fill_53178_b5 n h v x (i : Int) (tL t a k : Int) = some (0, h') ∧ HT S h0 h' (tfr t a ci k i x) := by
  intro n
  induction n with
  | zero => intro i h t _ _ _ _ _ _ hn; omega
  | succ n ih =>
    intro i h t hT ha hv h0v hl hi hn
    show ∃ h', f_J7_fill_53178_s5 (f_J7_fill_53178_b5 n) h v x (i : Int) (tL t a k : Int) = some (0, h') ∧ _
    unfold f_J7_fill_53178_s5
    by_cases hc : (tL t a k : Int) ≤ (i : Int)
    · refine ex_pos hc ⟨h, rfl, ?_⟩
      have e : tfr t a ci k i x = t := by
        refine Prod.ext rfl (Prod.ext rfl (Prod.ext rfl (Prod.ext ?_ rfl)))
        funext b j m
        exact if_neg (fun q => by omega)
      rw [e]; exact hT
    · refine ex_neg hc ?_
      have g : tas t ci k (a : Int) v (i : Int) x = some (tset t a (gf ci k) i x) := by
        unfold tas
        rw [if_pos ⟨⟨by omega, by rw [Int.toNat_natCast]; exact ha⟩, ⟨h0v, by rw [Int.toNat_natCast]; exact hv⟩, by omega, by rw [Int.toNat_natCast]; omega⟩, Int.toNat_natCast, Int.toNat_natCast]
      obtain ⟨h2, e2, hT2⟩ := ht_ast hT hk (by decide) g
      refine ex_bind e2 ?_
      have e3 : wr ((i : Int) + 1) = ((i + 1 : Nat) : Int) := by rw [wr_eq ⟨by omega, by omega⟩]; omega
      rw [e3]
      obtain ⟨h3, e4, hT3⟩ := ih (i + 1) h2 (tset t a (gf ci k) i x) hT2 ha hv h0v hl (by show i + 1 ≤ tL t a k; omega) (by show tL t a k - (i + 1) < n; omega)
      refine ⟨h3, e4, ?_⟩
      have e : tfr (tset t a (gf ci k) i x) a ci k (i + 1) x = tfr t a ci k i x := by
        refine Prod.ext rfl (Prod.ext rfl (Prod.ext rfl (Prod.ext ?_ rfl)))
        funext b j m
        show (if b = a ∧ j = gf ci k ∧ i + 1 ≤ m ∧ m < tL t a k then x else if b = a ∧ j = gf ci k ∧ m = i then x else tV t b j m) = (if b = a ∧ j = gf ci k ∧ i ≤ m ∧ m < tL t a k then x else tV t b j m)
        by_cases q : b = a ∧ j = gf ci k
        · by_cases q2 : m = i
          · rw [if_neg (fun z => by omega), if_pos ⟨q.1, q.2, q2⟩, if_pos ⟨q.1, q.2, by omega, by omega⟩]
          · by_cases q3 : i + 1 ≤ m ∧ m < tL t a k
            · rw [if_pos ⟨q.1, q.2, q3⟩, if_pos ⟨q.1, q.2, by omega, q3.2⟩]
            · rw [if_neg (fun z => q3 z.2.2), if_neg (fun z => q2 z.2.2), if_neg (fun z => q3 ⟨by omega, z.2.2.2⟩)]
        · rw [if_neg (fun z => q ⟨z.1, z.2.1⟩), if_neg (fun z => q ⟨z.1, z.2.1⟩), if_neg (fun z => q ⟨z.1, z.2.1⟩)]
      rw [← e]; exact hT3
theorem ht_fi {ci k : Nat} {a v x : Int} (hT : HT S h0 h t) (hk : akd ci k = 8) (g : tfi t ci k a v x = some t') : ∃ h', f_J7_fill_53178 h v x = some (0, h') ∧ HT S h0 h' t' := by
  unfold tfi at g
  split at g
  · rename_i c
    cases g
    obtain ⟨⟨c1, c2⟩, ⟨c3, c4⟩, c5⟩ := c
    have g1 : tln t ci k a v = some (tL t a.toNat k : Int) := by
      unfold tln; rw [if_pos ⟨⟨c1, c2⟩, ⟨c3, c4⟩, by omega⟩]
    obtain ⟨h2, e2, hT2⟩ := ht_fl (x := x) hk fuel 0 h t hT c2 c4 c3 c5 (Nat.zero_le _) (by show _ < 40000; omega)
    unfold f_J7_fill_53178
    refine ex_bind (ht_aln hT hk g1) ⟨h2, e2, ?_⟩
    have e : tfr t a.toNat ci k 0 x = (t.1, t.2.1, t.2.2.1, fun b j n => if b = a.toNat ∧ j = gf ci k ∧ n < tL t a.toNat k then x else t.2.2.2.1 b j n, t.2.2.2.2) := by
      refine Prod.ext rfl (Prod.ext rfl (Prod.ext rfl (Prod.ext ?_ rfl)))
      funext b j m
      show (if b = a.toNat ∧ j = gf ci k ∧ 0 ≤ m ∧ m < tL t a.toNat k then x else _) = (if b = a.toNat ∧ j = gf ci k ∧ m < tL t a.toNat k then x else _)
      by_cases q : b = a.toNat ∧ j = gf ci k ∧ m < tL t a.toNat k
      · rw [if_pos ⟨q.1, q.2.1, Nat.zero_le _, q.2.2⟩, if_pos q]
      · rw [if_neg (fun z => q ⟨z.1, z.2.1, z.2.2.2⟩), if_neg q]
    rw [← e]; exact hT2
  · cases g
end
