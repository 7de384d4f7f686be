/-! from the pictures to the heap: the sixteen calls -/
def SS (ma : Int) (am : Nat → Nat) (oa : Int) : Nat → Prop := fun a => a = ma.toNat ∨ (∃ k, isA k ∧ a = am k) ∨ a = oa.toNat
def JJ (xa ma oa : Int) (h : Hp) : Prop := ∃ (x : Nat) (t : Th) (N : Mm) (am : Nat → Nat), xa = (x : Int) ∧ HT (SS ma am oa) h h t ∧ MX ma am h h N ∧ CR x t N ∧ (0 ≤ oa ∧ hK h oa.toNat = 10 ∧ hL h oa.toNat = 1) ∧ (oa.toNat ≠ ma.toNat ∧ ∀ k, isA k → oa.toNat ≠ am k)
def tsN (t : Th) (k : Nat) : Th := (t.1, t.2.1, t.2.2.1, t.2.2.2.1, k)
section
variable {S : Nat → Prop} {h h0 h1 h3 : Hp} {t : Th} {N N' : Mm} {am : Nat → Nat} {xa ma oa : Int} {x k : Nat}
theorem mx_re (hM : MX ma am h0 h N) : MX ma am h h N := ⟨hM.1, hM.2.1, hM.2.2.1, rfl, fun _ => rfl, fun _ => rfl, fun _ _ _ _ => rfl⟩
/-- the reference's cells are the same -/
theorem mx_keep (hM : MX ma am h0 h N) (hs : ∀ a, (a = ma.toNat ∨ ∃ k, isA k ∧ a = am k) → hK h1 a = hK h a ∧ hL h1 a = hL h a ∧ ∀ j, hF h1 a j = hF h a j) : MX ma am h1 h1 N := by
  obtain ⟨⟨a1, a2, a3, a4⟩, b, c, -⟩ := hM
  obtain ⟨s1, s2, s3⟩ := hs ma.toNat (Or.inl rfl)
  refine ⟨⟨a1, by rw [s1]; exact a2, by rw [s3]; exact a3, by rw [s3]; exact a4⟩, fun k hk => ?_, c, rfl, fun _ => rfl, fun _ => rfl, fun _ _ _ _ => rfl⟩
  obtain ⟨b1, b2, b3, b4⟩ := b k hk
  obtain ⟨r1, r2, r3⟩ := hs (am k) (Or.inr ⟨k, hk, rfl⟩)
  exact ⟨by rw [s3]; exact b1, by rw [r1]; exact b2, by rw [r2]; exact b3, fun i hi => by rw [r3]; exact b4 i hi⟩
/-- the class's cells are the same -/
theorem ht_keep (hT : HT S h0 h t) (hn : hN h ≤ hN h1) (hs : ∀ a, ¬ S a → a < hN h → hK h1 a = hK h a ∧ hL h1 a = hL h a ∧ ∀ j, hF h1 a j = hF h a j) : HT S h1 h1 (tsN t (hN h1)) := by
  obtain ⟨⟨a1, a2⟩, b, c, d⟩ := hT
  refine ⟨⟨rfl, Nat.le_refl _⟩, fun a ci ha => ?_, c, fun a ha => ⟨by have := (d a ha).1; omega, rfl, rfl, fun _ => rfl⟩⟩
  obtain ⟨b1, b2, b3, b4, b5, b6⟩ := b a ci ha
  obtain ⟨s1, s2, s3⟩ := hs a b4 b3
  refine ⟨b1, by rw [s1]; exact b2, by omega, b4, fun k hk => by rw [s3]; exact b5 k hk, fun k hk => ?_⟩
  obtain ⟨c1, c2⟩ := b6 k hk
  refine ⟨by rw [s3]; exact c1, fun hp => ?_⟩
  obtain ⟨d1, d2, d3, d4, d5⟩ := c2 hp
  obtain ⟨r1, r2, r3⟩ := hs _ d4 d3
  exact ⟨by rw [show tI (tsN t (hN h1)) a k = tI t a k from rfl, r1]; exact d1, by rw [show tI (tsN t (hN h1)) a k = tI t a k from rfl, r2]; exact d2, Nat.lt_of_lt_of_le d3 hn, d4, fun i hi => by rw [show tI (tsN t (hN h1)) a k = tI t a k from rfl, r3]; exact d5 i hi⟩
theorem cr_N (h : CR x t N) (hk : tN t ≤ k) : CR x (tsN t k) N := by
  obtain ⟨b, ca, la, sa, mg, LS, FL, hz, dz, ⟨a1, a2, a3, a4, a5, a6, a7⟩, hH⟩ := h
  exact ⟨b, ca, la, sa, mg, LS, FL, hz, dz, ⟨a1, a2, a3, a4, a5, a6, fun a ha => Nat.lt_of_lt_of_le (a7 a ha) hk⟩, hH⟩
theorem op_thr {P : Nat → Prop} {kL : Nat → Int} {fT : Int → Th → Option (Nat × Int × Th)} {fH : Int → Hp → Option (Nat × Int × Hp)} {gM : Mm → Option (Int × Mm)} {gH : Hp → Option (Int × Hp)}
    (l5 : ∀ {S : Nat → Prop} {h0 h : Hp} {t t' : Th} {code : Nat} {r xa : Int}, HT S h0 h t → fT xa t = some (code, r, t') → ∃ h', fH xa h = some (code, r, h') ∧ HT S h0 h' t')
    (l6 : ∀ {am : Nat → Nat} {h0 h : Hp} {N N' : Mm} {r : Int}, MX ma am h0 h N → gM N = some (r, N') → ∃ h', gH h = some (r, h') ∧ MX ma am h0 h' N')
    (hop : ∀ (x : Nat) (t : Th) (N : Mm), CR x t N → ∃ code rv t' bb N', fT (x : Int) t = some (code, rv, t') ∧ P code ∧ gM N = some (bb, N') ∧ N' 0 0 = kL code ∧ (code = 0 → bb = rv) ∧ CR x t' N')
    {h : Hp} (hJ : JJ xa ma oa h) : ∃ (code : Nat) (rv : Int) (h1 h2 : Hp), fH xa h = some (code, rv, h1) ∧ P code ∧ (code = 0 → ast h1 10 oa 0 rv = some h2) ∧ (code ≠ 0 → h2 = h1) ∧ ∀ k, hN h2 ≤ k → ckd (hsN h2 k) 6 ma = some () ∧ ∃ (b : Int) (h3 : Hp), gH (hsN h2 k) = some (b, h3) ∧ f_X6_thrown h3 ma = some (kL code, h3) ∧ (code = 0 → ald h3 10 oa 0 = some b) ∧ JJ xa ma oa h3 := by
  obtain ⟨x, t, N, am, rfl, hT, hM, hC, ⟨o1, o2, o3⟩, o4, o5⟩ := hJ
  obtain ⟨code, rv, t', bb, N', f1, f2, f3, f4, f5, f6⟩ := hop x t N hC
  obtain ⟨h1, g1, g2⟩ := l5 hT f1
  obtain ⟨u1, u2, u3, u4⟩ := g2.2.2.2 oa.toNat (Or.inr (Or.inr rfl))
  have M1 : MX ma am h1 h1 N := mx_keep hM (fun a ha => (g2.2.2.2 a (ha.elim Or.inl (fun q => Or.inr (Or.inl q)))).2)
  obtain ⟨h2, e1, e2, T2, M2, k2, v2, n2⟩ : ∃ h2, (code = 0 → ast h1 10 oa 0 rv = some h2) ∧ (code ≠ 0 → h2 = h1) ∧ HT (SS ma am oa) h2 h2 (tsN t' (hN h2)) ∧ MX ma am h2 h2 N ∧ (hK h2 oa.toNat = 10 ∧ hL h2 oa.toNat = 1) ∧ (code = 0 → hF h2 oa.toNat 0 = rv) ∧ hN h2 = hN h1 := by
    by_cases hc : code = 0
    · refine ⟨hset h1 oa.toNat 0 rv, fun _ => ?_, fun q => absurd hc q, ht_keep g2 (Nat.le_refl _) (fun a ha _ => ⟨rfl, rfl, fun j => if_neg (fun q => ha (Or.inr (Or.inr q.1)))⟩), mx_keep M1 (fun a ha => ⟨rfl, rfl, fun j => if_neg (fun q => ?_)⟩), ⟨u2.trans o2, u3.trans o3⟩, fun _ => if_pos ⟨rfl, rfl⟩, rfl⟩
      · unfold ast
        rw [if_pos ⟨o1, u2.trans o2, by decide, by rw [u3, o3]; decide⟩]
        rfl
      · rcases ha with q1 | ⟨k, hk, q1⟩
        · exact o4 (q.1.symm.trans q1)
        · exact o5 k hk (q.1.symm.trans q1)
    · exact ⟨h1, fun q => absurd q hc, fun _ => rfl, ht_keep g2 (Nat.le_refl _) (fun a _ _ => ⟨rfl, rfl, fun _ => rfl⟩), M1, ⟨u2.trans o2, u3.trans o3⟩, fun q => absurd q hc, rfl⟩
  refine ⟨code, rv, h1, h2, g1, f2, e1, e2, fun k hk => ?_⟩
  have T3 : HT (SS ma am oa) (hsN h2 k) (hsN h2 k) (tsN (tsN t' (hN h2)) k) := ht_keep (h1 := hsN h2 k) T2 hk (fun a _ _ => ⟨rfl, rfl, fun _ => rfl⟩)
  have M3 : MX ma am (hsN h2 k) (hsN h2 k) N := mx_keep M2 (fun a _ => ⟨rfl, rfl, fun _ => rfl⟩)
  obtain ⟨h3, q1, q2⟩ := l6 M3 f3
  obtain ⟨r1, r2, r3, r4⟩ := q2.2.2.2
  have w1 : hK h3 oa.toNat = 10 := (r2 _).trans k2.1
  have w2 : hL h3 oa.toNat = 1 := (r3 _).trans k2.2
  have hfin : CR x (tsN t' (hN h3)) N' := cr_N f6 (by
    have z1 := g2.1.1
    have z2 : hN h3 = k := r1
    omega)
  refine ⟨mx_ck M3, bb, h3, q1, ?_, fun hc => ?_, x, _, N', am, rfl, ht_keep (h1 := h3) T3 (by rw [r1]; exact Nat.le_refl _) (fun a ha _ => ⟨r2 a, r3 a, fun j => r4 a (fun e => ha (Or.inl e)) (fun k hk e => ha (Or.inr (Or.inl ⟨k, hk, e⟩))) j⟩), mx_re q2, hfin, ⟨o1, w1, w2⟩, o4, o5⟩
  · unfold f_X6_thrown
    rw [mx_f0 q2, Option.bind_some, f4]
  · unfold ald
    rw [if_pos ⟨o1, w1, by decide, by rw [w2]; decide⟩, f5 hc, ← v2 hc]
    exact congrArg some (r4 oa.toNat o4 o5 0)
theorem op_pl {fT : Int → Th → Option (Int × Th)} {fH : Int → Hp → Option (Int × Hp)} {gM : Mm → Option (Int × Mm)} {gH : Hp → Option (Int × Hp)}
    (l5 : ∀ {S : Nat → Prop} {h0 h : Hp} {t t' : Th} {r xa : Int}, HT S h0 h t → fT xa t = some (r, t') → ∃ h', fH xa h = some (r, h') ∧ HT S h0 h' t')
    (l6 : ∀ {am : Nat → Nat} {h0 h : Hp} {N N' : Mm} {r : Int}, MX ma am h0 h N → gM N = some (r, N') → ∃ h', gH h = some (r, h') ∧ MX ma am h0 h' N')
    (hop : ∀ (x : Nat) (t : Th) (N : Mm), CR x t N → ∃ r t' N', fT (x : Int) t = some (r, t') ∧ gM N = some (r, N') ∧ CR x t' N')
    {h : Hp} (hJ : JJ xa ma oa h) : ∃ (r : Int) (h1 h2 : Hp), fH xa h = some (r, h1) ∧ ckd h1 6 ma = some () ∧ gH h1 = some (r, h2) ∧ JJ xa ma oa h2 := by
  obtain ⟨x, t, N, am, rfl, hT, hM, hC, ⟨o1, o2, o3⟩, o4, o5⟩ := hJ
  obtain ⟨rv, t', N', f1, f3, f6⟩ := hop x t N hC
  obtain ⟨h1, g1, g2⟩ := l5 hT f1
  obtain ⟨u1, u2, u3, u4⟩ := g2.2.2.2 oa.toNat (Or.inr (Or.inr rfl))
  have M1 : MX ma am h1 h1 N := mx_keep hM (fun a ha => (g2.2.2.2 a (ha.elim Or.inl (fun q => Or.inr (Or.inl q)))).2)
  obtain ⟨h3, q1, q2⟩ := l6 M1 f3
  obtain ⟨r1, r2, r3, r4⟩ := q2.2.2.2
  refine ⟨rv, h1, h3, g1, mx_ck M1, q1, x, _, N', am, rfl, ht_keep (h1 := h3) g2 (by rw [r1]; exact Nat.le_refl _) (fun a ha _ => ⟨r2 a, r3 a, fun j => r4 a (fun e => ha (Or.inl e)) (fun k hk e => ha (Or.inr (Or.inl ⟨k, hk, e⟩))) j⟩), mx_re q2, cr_N (k := hN h3) f6 ?_, ⟨o1, (r2 _).trans (u2.trans o2), (r3 _).trans (u3.trans o3)⟩, o4, o5⟩
  have z1 := g2.1.1
  omega
end
theorem all_ops (xa ma oa : Int) : Op_cache (JJ xa ma oa) xa ma oa ∧ Op_drop (JJ xa ma oa) xa ma oa ∧ Op_allocate (JJ xa ma oa) xa ma oa ∧ Op_free (JJ xa ma oa) xa ma oa ∧ Op_mark (JJ xa ma oa) xa ma oa ∧ Op_flush (JJ xa ma oa) xa ma oa ∧ Op_empty (JJ xa ma oa) xa ma oa ∧ Op_reap (JJ xa ma oa) xa ma oa ∧ Op_cacheOf (JJ xa ma oa) xa ma oa ∧ Op_objectOf (JJ xa ma oa) xa ma oa ∧ Op_about (JJ xa ma oa) xa ma oa ∧ Op_list (JJ xa ma oa) xa ma oa ∧ Op_slab (JJ xa ma oa) xa ma oa ∧ Op_magazine (JJ xa ma oa) xa ma oa ∧ Op_block (JJ xa ma oa) xa ma oa ∧ Op_pages (JJ xa ma oa) xa ma oa := by
  refine ⟨?_, ?_, ?_, ?_, ?_, ?_, ?_, ?_, ?_, ?_, ?_, ?_, ?_, ?_, ?_, ?_⟩
  · intro h p0 p1 p2 p3 i0 i1 i2 i3 hJ
    exact op_thr (P := fun code => code = 0 ∨ code = 2) (kL := kL_cache) (fT := fun xa t => t_X5_cache t xa p0 p1 p2 p3) (fH := fun xa h => f_X5_cache h xa p0 p1 p2 p3) (gM := fun N => g_X6_cache N p0 p1 p2 p3) (gH := fun h => f_X6_cache h ma p0 p1 p2 p3) (fun hT hg => h_X5_cache hT hg) (fun hM hg => m_X6_cache hM hg) (fun x t N hC => o_cache hC p0 p1 p2 p3) hJ
  · intro h p0 i0 hJ
    exact op_thr (P := fun code => code = 0 ∨ code = 1 ∨ code = 3) (kL := kL_drop) (fT := fun xa t => t_X5_drop t xa p0) (fH := fun xa h => f_X5_drop h xa p0) (gM := fun N => g_X6_drop N p0) (gH := fun h => f_X6_drop h ma p0) (fun hT hg => h_X5_drop hT hg) (fun hM hg => m_X6_drop hM hg) (fun x t N hC => o_drop hC p0) hJ
  · intro h p0 p1 i0 i1 hJ
    exact op_thr (P := fun code => code = 0 ∨ code = 1 ∨ code = 2) (kL := kL_allocate) (fT := fun xa t => t_X5_allocate t xa p0 p1) (fH := fun xa h => f_X5_allocate h xa p0 p1) (gM := fun N => g_X6_allocate N p0 p1) (gH := fun h => f_X6_allocate h ma p0 p1) (fun hT hg => h_X5_allocate hT hg) (fun hM hg => m_X6_allocate hM hg) (fun x t N hC => o_allocate hC p0 p1) hJ
  · intro h p0 p1 i0 i1 hJ
    exact op_thr (P := fun code => code = 0 ∨ code = 1 ∨ code = 2 ∨ code = 3) (kL := kL_free) (fT := fun xa t => t_X5_free t xa p0 p1) (fH := fun xa h => f_X5_free h xa p0 p1) (gM := fun N => g_X6_free N p0 p1) (gH := fun h => f_X6_free h ma p0 p1) (fun hT hg => h_X5_free hT hg) (fun hM hg => m_X6_free hM hg) (fun x t N hC => o_free hC p0 p1) hJ
  · intro h p0 p1 i0 i1 hJ
    exact op_thr (P := fun code => code = 0 ∨ code = 1) (kL := kL_mark) (fT := fun xa t => t_X5_mark t xa p0 p1) (fH := fun xa h => f_X5_mark h xa p0 p1) (gM := fun N => g_X6_mark N p0 p1) (gH := fun h => f_X6_mark h ma p0 p1) (fun hT hg => h_X5_mark hT hg) (fun hM hg => m_X6_mark hM hg) (fun x t N hC => o_mark hC p0 p1) hJ
  · intro h p0 i0 hJ
    exact op_thr (P := fun code => code = 0 ∨ code = 2) (kL := kL_flush) (fT := fun xa t => t_X5_flush t xa p0) (fH := fun xa h => f_X5_flush h xa p0) (gM := fun N => g_X6_flush N p0) (gH := fun h => f_X6_flush h ma p0) (fun hT hg => h_X5_flush hT hg) (fun hM hg => m_X6_flush hM hg) (fun x t N hC => o_flush hC p0) hJ
  · intro h p0 i0 hJ
    exact op_thr (P := fun code => code = 0 ∨ code = 1) (kL := kL_empty) (fT := fun xa t => t_X5_empty t xa p0) (fH := fun xa h => f_X5_empty h xa p0) (gM := fun N => g_X6_empty N p0) (gH := fun h => f_X6_empty h ma p0) (fun hT hg => h_X5_empty hT hg) (fun hM hg => m_X6_empty hM hg) (fun x t N hC => o_empty hC p0) hJ
  · intro h hJ
    exact op_pl (fT := fun xa t => t_X5_reap t xa) (fH := fun xa h => f_X5_reap h xa) (gM := fun N => g_X6_reap N) (gH := fun h => f_X6_reap h ma) (fun hT hg => h_X5_reap hT hg) (fun hM hg => m_X6_reap hM hg) (fun x t N hC => o_reap hC) hJ
  · intro h p0 i0 hJ
    exact op_pl (fT := fun xa t => t_X5_cacheOf t xa p0) (fH := fun xa h => f_X5_cacheOf h xa p0) (gM := fun N => g_X6_cacheOf N p0) (gH := fun h => f_X6_cacheOf h ma p0) (fun hT hg => h_X5_cacheOf hT hg) (fun hM hg => m_X6_cacheOf hM hg) (fun x t N hC => o_cacheOf hC p0) hJ
  · intro h p0 i0 hJ
    exact op_pl (fT := fun xa t => t_X5_objectOf t xa p0) (fH := fun xa h => f_X5_objectOf h xa p0) (gM := fun N => g_X6_objectOf N p0) (gH := fun h => f_X6_objectOf h ma p0) (fun hT hg => h_X5_objectOf hT hg) (fun hM hg => m_X6_objectOf hM hg) (fun x t N hC => o_objectOf hC p0) hJ
  · intro h p0 p1 i0 i1 hJ
    exact op_thr (P := fun code => code = 0 ∨ code = 1 ∨ code = 2) (kL := kL_about) (fT := fun xa t => t_X5_about t xa p0 p1) (fH := fun xa h => f_X5_about h xa p0 p1) (gM := fun N => g_X6_about N p0 p1) (gH := fun h => f_X6_about h ma p0 p1) (fun hT hg => h_X5_about hT hg) (fun hM hg => m_X6_about hM hg) (fun x t N hC => o_about hC p0 p1) hJ
  · intro h p0 p1 p2 i0 i1 i2 hJ
    exact op_thr (P := fun code => code = 0 ∨ code = 1 ∨ code = 2) (kL := kL_list) (fT := fun xa t => t_X5_list t xa p0 p1 p2) (fH := fun xa h => f_X5_list h xa p0 p1 p2) (gM := fun N => g_X6_list N p0 p1 p2) (gH := fun h => f_X6_list h ma p0 p1 p2) (fun hT hg => h_X5_list hT hg) (fun hM hg => m_X6_list hM hg) (fun x t N hC => o_list hC p0 p1 p2 i2) hJ
  · intro h p0 p1 i0 i1 hJ
    exact op_thr (P := fun code => code = 0 ∨ code = 1 ∨ code = 2) (kL := kL_slab) (fT := fun xa t => t_X5_slab t xa p0 p1) (fH := fun xa h => f_X5_slab h xa p0 p1) (gM := fun N => g_X6_slab N p0 p1) (gH := fun h => f_X6_slab h ma p0 p1) (fun hT hg => h_X5_slab hT hg) (fun hM hg => m_X6_slab hM hg) (fun x t N hC => o_slab hC p0 p1) hJ
  · intro h p0 p1 p2 i0 i1 i2 hJ
    exact op_thr (P := fun code => code = 0 ∨ code = 1 ∨ code = 2) (kL := kL_magazine) (fT := fun xa t => t_X5_magazine t xa p0 p1 p2) (fH := fun xa h => f_X5_magazine h xa p0 p1 p2) (gM := fun N => g_X6_magazine N p0 p1 p2) (gH := fun h => f_X6_magazine h ma p0 p1 p2) (fun hT hg => h_X5_magazine hT hg) (fun hM hg => m_X6_magazine hM hg) (fun x t N hC => o_magazine hC p0 p1 p2) hJ
  · intro h p0 p1 i0 i1 hJ
    exact op_thr (P := fun code => code = 0 ∨ code = 2) (kL := kL_block) (fT := fun xa t => t_X5_block t xa p0 p1) (fH := fun xa h => f_X5_block h xa p0 p1) (gM := fun N => g_X6_block N p0 p1) (gH := fun h => f_X6_block h ma p0 p1) (fun hT hg => h_X5_block hT hg) (fun hM hg => m_X6_block hM hg) (fun x t N hC => o_block hC p0 p1) hJ
  · intro h p0 i0 hJ
    exact op_pl (fT := fun xa t => t_X5_pages t xa p0) (fH := fun xa h => f_X5_pages h xa p0) (gM := fun N => g_X6_pages N p0) (gH := fun h => f_X6_pages h ma p0) (fun hT hg => h_X5_pages hT hg) (fun hM hg => m_X6_pages hM hg) (fun x t N hC => o_pages hC p0) hJ
