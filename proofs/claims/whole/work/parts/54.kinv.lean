/-! the class's heap: what stays -/
def Fe (t t' : Th) (js : List Nat) : Prop := tN t ≤ tN t' ∧ (∀ a ci, tC t a = ci + 1 → tC t' a = ci + 1 ∧ ∀ k, gf ci k ∉ js → tI t' a k = tI t a k ∧ tL t' a k = tL t a k ∧ ∀ i, tV t' a (gf ci k) i = tV t a (gf ci k) i) ∧ ((∀ a, tC t a ≠ 0 → a < tN t) → ∀ a, tC t' a ≠ 0 → a < tN t')
theorem fe_refl (t : Th) (js : List Nat) : Fe t t js := ⟨Nat.le_refl _, fun a ci h => ⟨h, fun k _ => ⟨rfl, rfl, fun _ => rfl⟩⟩, fun h => h⟩
theorem fe_trans {t t' t'' : Th} {js ks : List Nat} (h : Fe t t' js) (h' : Fe t' t'' ks) : Fe t t'' (js ++ ks) := by
  refine ⟨Nat.le_trans h.1 h'.1, fun a ci ha => ?_, fun hn => h'.2.2 (h.2.2 hn)⟩
  obtain ⟨e1, e2⟩ := h.2.1 a ci ha
  obtain ⟨e3, e4⟩ := h'.2.1 a ci e1
  refine ⟨e3, fun k hk => ?_⟩
  obtain ⟨f1, f2, f3⟩ := e2 k (fun q => hk (List.mem_append_left _ q))
  obtain ⟨f4, f5, f6⟩ := e4 k (fun q => hk (List.mem_append_right _ q))
  exact ⟨f4.trans f1, f5.trans f2, fun i => (f6 i).trans (f3 i)⟩
theorem fe_sub {t t' : Th} {js ks : List Nat} (h : Fe t t' js) (hs : ∀ j, j ∈ js → j ∈ ks) : Fe t t' ks := ⟨h.1, fun a ci ha => ⟨(h.2.1 a ci ha).1, fun k hk => (h.2.1 a ci ha).2 k (fun q => hk (hs _ q))⟩, h.2.2⟩
theorem fe_set (t : Th) (a j i : Nat) (v : Int) : Fe t (tset t a j i v) [j] := by
  refine ⟨Nat.le_refl _, fun b ci hb => ⟨hb, fun k hk => ⟨rfl, rfl, fun n => ?_⟩⟩, fun h => h⟩
  exact if_neg (fun q => hk (by rw [q.2.1]; exact List.mem_cons_self))
theorem fe_tvA (t : Th) (a j : Nat) (f : Nat → Int) : Fe t (tvA t a j f) [j] := by
  refine ⟨Nat.le_refl _, fun b ci hb => ⟨hb, fun k hk => ⟨rfl, rfl, fun n => ?_⟩⟩, fun h => h⟩
  exact if_neg (fun q => hk (by rw [q.2]; exact List.mem_cons_self))
section
variable {t t' : Th} {js : List Nat} {a ci : Nat}
theorem fe_c (h : Fe t t' js) (ha : tC t a = ci + 1) : tC t' a = ci + 1 := (h.2.1 a ci ha).1
theorem fe_v (h : Fe t t' js) (ha : tC t a = ci + 1) {k : Nat} (hk : gf ci k ∉ js) (i : Nat) : tV t' a (gf ci k) i = tV t a (gf ci k) i := ((h.2.1 a ci ha).2 k hk).2.2 i
theorem fe_i (h : Fe t t' js) (ha : tC t a = ci + 1) {k : Nat} (hk : gf ci k ∉ js) : tI t' a k = tI t a k := ((h.2.1 a ci ha).2 k hk).1
theorem fe_l (h : Fe t t' js) (ha : tC t a = ci + 1) {k : Nat} (hk : gf ci k ∉ js) : tL t' a k = tL t a k := ((h.2.1 a ci ha).2 k hk).2.1
end
/-! the class's parts against the reference's memory -/
def hdA : List Nat → Int
  | [] => -1
  | a :: _ => (a : Int)
def dlf (B A : Nat → Int) : Int → List Nat → Prop
  | _, [] => True
  | pr, a :: r => B a = pr ∧ A a = hdA r ∧ dlf B A (a : Int) r
def KH (t : Th) (x b : Nat) (ca sa : Nat → Nat) (N : Mm) : Prop := tC t x = 5 + 1 ∧ (0 ≤ tI t x 1 ∧ tL t x 1 = 256) ∧ (0 ≤ tI t x 2 ∧ tL t x 2 = 8) ∧ tV t x (gf 5 0) 0 = (b : Int) ∧ tV t x (gf 5 3) 0 = N 3 0 ∧ (∀ q, q < 256 → tV t x (gf 5 1) q = if N 2 q < 0 then -1 else (sa (N 2 q).toNat : Int)) ∧ ∀ c, c < 8 → (Lv N c → tV t x (gf 5 2) c = (ca c : Int)) ∧ (¬ Lv N c → tV t x (gf 5 2) c = -1)
def KB (t : Th) (b : Nat) (N : Mm) : Prop := tC t b = 0 + 1 ∧ (0 ≤ tI t b 0 ∧ tL t b 0 = 256) ∧ (∀ p, p < 256 → tV t b (gf 0 0) p = N 1 p) ∧ tV t b (gf 0 1) 0 = 256 - (cn (N 2) 256 : Int)
def KCc (t : Th) (ca la : Nat → Nat) (N : Mm) (c : Nat) : Prop := tC t (ca c) = 1 + 1 ∧ (tV t (ca c) (gf 1 0) 0 = (c : Int) ∧ tV t (ca c) (gf 1 1) 0 = N 5 c ∧ tV t (ca c) (gf 1 2) 0 = N 6 c ∧ tV t (ca c) (gf 1 3) 0 = N 7 c ∧ tV t (ca c) (gf 1 4) 0 = N 8 c ∧ tV t (ca c) (gf 1 5) 0 = N 9 c ∧ tV t (ca c) (gf 1 6) 0 = N 10 c ∧ tV t (ca c) (gf 1 7) 0 = N 11 c) ∧ ((0 ≤ tI t (ca c) 12 ∧ tL t (ca c) 12 = 3) ∧ (0 ≤ tI t (ca c) 13 ∧ tL t (ca c) 13 = 4) ∧ (0 ≤ tI t (ca c) 14 ∧ tL t (ca c) 14 = 4) ∧ 0 ≤ tI t (ca c) 15 ∧ tL t (ca c) 15 = 3) ∧ ∀ w, w < 3 → tV t (ca c) (gf 1 12) w = (la (3 * c + w) : Int) ∧ tC t (la (3 * c + w)) = 4 + 1
/-- the caches' fixed fields -/
def KC (t : Th) (ca la : Nat → Nat) (N : Mm) : Prop := (∀ c, Lv N c → KCc t ca la N c) ∧ ∀ l l', Lv N (l / 3) → Lv N (l' / 3) → la l = la l' → l = l'
/-- the next colour and the misses -/
def KV (t : Th) (ca : Nat → Nat) (N : Mm) : Prop := ∀ c, Lv N c → tV t (ca c) (gf 1 8) 0 = N 12 c ∧ tV t (ca c) (gf 1 11) 0 = N 13 c
/-- live objects of a cache -/
def lc (N : Mm) (c : Nat) : Nat → Nat
  | 0 => 0
  | n + 1 => lc N c n + if N 18 n = 2 ∧ N 14 (N 2 (n / 128)).toNat = (c : Int) then 1 else 0
/-- slabs, live ones -/
def KN (t : Th) (ca : Nat → Nat) (N : Mm) (LS : Nat → List Nat) : Prop := ∀ c, Lv N c → tV t (ca c) (gf 1 9) 0 = ((LS (3 * c)).length : Int) + ((LS (3 * c + 1)).length : Int) + ((LS (3 * c + 2)).length : Int)
def KZ (t : Th) (ca : Nat → Nat) (N : Mm) : Prop := ∀ c, Lv N c → tV t (ca c) (gf 1 10) 0 = (lc N c 32768 : Int)
def KI (t : Th) (sa ca : Nat → Nat) (N : Mm) : Prop := ∀ p, Sl N p → tC t (sa p) = 3 + 1 ∧ tV t (sa p) (gf 3 0) 0 = (ca (wN N p) : Int) ∧ tV t (sa p) (gf 3 1) 0 = (p : Int) ∧ tV t (sa p) (gf 3 2) 0 = N 15 p
/-- the came back chain -/
def chT (f : Nat → Int) : List Nat → Prop
  | [] => True
  | i :: r => f i = hdA r ∧ chT f r
def KSp (t : Th) (sa : Nat → Nat) (N : Mm) (FL : Nat → List Nat) (p : Nat) : Prop := tV t (sa p) (gf 3 3) 0 = N 16 p ∧ ∃ (nt L : Nat) (cl : List Nat), FL p = cl ++ List.range' nt (fN N (wN N p) - nt) ∧ (nt ≤ fN N (wN N p) ∧ nt ≤ L ∧ 1 ≤ L ∧ L ≤ 1024) ∧ tV t (sa p) (gf 3 7) 0 = (nt : Int) ∧ tV t (sa p) (gf 3 8) 0 = hdA cl ∧ (0 ≤ tI t (sa p) 9 ∧ tL t (sa p) 9 = L) ∧ (0 ≤ tI t (sa p) 10 ∧ tL t (sa p) 10 = L) ∧ chT (tV t (sa p) (gf 3 9)) cl ∧ (∀ i, i ∈ cl → i < nt) ∧ (∀ i, i < nt → i ∉ cl → tV t (sa p) (gf 3 9) i = if N 18 (U N p i) = 2 then -2 else -3) ∧ (∀ i, i < nt → tV t (sa p) (gf 3 10) i = N 20 (U N p i)) ∧ ∀ i, nt ≤ i → i < fN N (wN N p) → N 20 (U N p i) = N 8 (wN N p)
def KS (t : Th) (sa : Nat → Nat) (N : Mm) (FL : Nat → List Nat) : Prop := ∀ p, Sl N p → KSp t sa N FL p
def Bt (t : Th) : Nat → Int := fun a => tV t a (gf 3 5) 0
def At (t : Th) : Nat → Int := fun a => tV t a (gf 3 6) 0
def KLl (t : Th) (sa la : Nat → Nat) (LS : Nat → List Nat) (l : Nat) : Prop := tV t (la l) (gf 4 0) 0 = hdA ((LS l).map sa) ∧ dlf (Bt t) (At t) (-1) ((LS l).map sa) ∧ ∀ p, p ∈ LS l → tV t (sa p) (gf 3 4) 0 = ((l % 3 : Nat) : Int)
def KL (t : Th) (sa la : Nat → Nat) (N : Mm) (LS : Nat → List Nat) : Prop := ∀ l, l < 24 → Lv N (l / 3) → KLl t sa la LS l
def KP (t : Th) (ca mg dz : Nat → Nat) (N : Mm) : Prop := ∀ c, Lv N c → (∀ q, q < 4 → tV t (ca c) (gf 1 13) q = (mg (2 * (8 * q + c)) : Int) ∧ tV t (ca c) (gf 1 14) q = (mg (2 * (8 * q + c) + 1) : Int)) ∧ (∀ d, d < dz c → tV t (ca c) (gf 1 15) d = (mg (64 + 3 * c + d) : Int)) ∧ tV t (ca c) (gf 1 16) 0 = (dz c : Int) ∧ dz c ≤ 3
def Pr (N : Mm) (hz : Nat → Nat) (s : Nat) : Prop := s < 88 ∧ ((s < 64 ∧ Lv N (cs s)) ∨ 0 < hz s)
def KM (t : Th) (mg hz : Nat → Nat) (N : Mm) : Prop := (∀ s, Pr N hz s → tC t (mg s) = 2 + 1 ∧ (0 ≤ tI t (mg s) 0 ∧ tL t (mg s) 0 = 4) ∧ tV t (mg s) (gf 2 1) 0 = (hz s : Int) ∧ ∀ k, k < hz s → tV t (mg s) (gf 2 0) k = 8 * hv N s k) ∧ ∀ s s', Pr N hz s → Pr N hz s' → mg s = mg s' → s = s'
def HZ (N : Mm) (hz dz : Nat → Nat) : Prop := (∀ s, s < 64 → N 23 s = (hz s : Int)) ∧ ∀ c, c < 8 → N 25 c = (dz c : Int) ∧ ∀ d, d < 3 → hz (64 + 3 * c + d) = if d < dz c then 4 else 0
section
variable {t t' : Th} {js : List Nat} {x b : Nat} {ca la sa mg hz dz : Nat → Nat} {N N' : Mm} {LS FL : Nat → List Nat}
theorem kh_fe (hF : Fe t t' js) (h0 : gf 5 0 ∉ js) (h1 : gf 5 1 ∉ js) (h2 : gf 5 2 ∉ js) (h3 : gf 5 3 ∉ js) (h : KH t x b ca sa N) : KH t' x b ca sa N := by
  obtain ⟨a1, a2, a3, a4, a5, a6, a7⟩ := h
  refine ⟨fe_c hF a1, ?_, ?_, ?_, ?_, fun q hq => ?_, fun c hc => ?_⟩
  · rw [fe_i hF a1 h1, fe_l hF a1 h1]; exact a2
  · rw [fe_i hF a1 h2, fe_l hF a1 h2]; exact a3
  · rw [fe_v hF a1 h0]; exact a4
  · rw [fe_v hF a1 h3]; exact a5
  · rw [fe_v hF a1 h1]; exact a6 q hq
  · rw [fe_v hF a1 h2]; exact a7 c hc
theorem kb_fe (hF : Fe t t' js) (h0 : gf 0 0 ∉ js) (h1 : gf 0 1 ∉ js) (h : KB t b N) : KB t' b N := by
  obtain ⟨a1, a2, a3, a4⟩ := h
  refine ⟨fe_c hF a1, ?_, fun p hp => ?_, ?_⟩
  · rw [fe_i hF a1 h0, fe_l hF a1 h0]; exact a2
  · rw [fe_v hF a1 h0]; exact a3 p hp
  · rw [fe_v hF a1 h1]; exact a4
theorem kc_fe (hF : Fe t t' js) (hj : ∀ k, k < 8 ∨ (12 ≤ k ∧ k < 16) → k = 12 ∨ k < 8 → gf 1 k ∉ js) (hk : ∀ k, 12 ≤ k → k < 16 → ∀ a ci, tC t a = ci + 1 → ci = 1 → tI t' a k = tI t a k ∧ tL t' a k = tL t a k) (h : KC t ca la N) : KC t' ca la N := by
  refine ⟨fun c hc => ?_, h.2⟩
  obtain ⟨a1, ⟨b0, b1, b2, b3, b4, b5, b6, b7⟩, ⟨c2, c3, c4, c5⟩, a4⟩ := h.1 c hc
  have v : ∀ k, k < 8 → ∀ i, tV t' (ca c) (gf 1 k) i = tV t (ca c) (gf 1 k) i := fun k hk i => fe_v hF a1 (hj k (Or.inl hk) (Or.inr hk)) i
  refine ⟨fe_c hF a1, ?_, ?_, fun w hw => ?_⟩
  · rw [v 0 (by decide), v 1 (by decide), v 2 (by decide), v 3 (by decide), v 4 (by decide), v 5 (by decide), v 6 (by decide), v 7 (by decide)]
    exact ⟨b0, b1, b2, b3, b4, b5, b6, b7⟩
  · obtain ⟨d1, d2⟩ := hk 12 (by decide) (by decide) _ _ a1 rfl
    obtain ⟨d3, d4⟩ := hk 13 (by decide) (by decide) _ _ a1 rfl
    obtain ⟨d5, d6⟩ := hk 14 (by decide) (by decide) _ _ a1 rfl
    obtain ⟨d7, d8⟩ := hk 15 (by decide) (by decide) _ _ a1 rfl
    rw [d1, d2, d3, d4, d5, d6, d7, d8]
    exact ⟨c2, c3, c4, c5⟩
  · obtain ⟨z1, z2⟩ := a4 w hw
    exact ⟨by rw [fe_v hF a1 (hj 12 (Or.inr ⟨by decide, by decide⟩) (Or.inl rfl))]; exact z1, fe_c hF z2⟩
theorem kv_fe (hF : Fe t t' js) (h0 : gf 1 8 ∉ js) (h1 : gf 1 11 ∉ js) (hC : KC t ca la N) (h : KV t ca N) : KV t' ca N := fun c hc => by
  have a1 := (hC.1 c hc).1
  rw [fe_v hF a1 h0, fe_v hF a1 h1]; exact h c hc
theorem kn_fe (hF : Fe t t' js) (h0 : gf 1 9 ∉ js) (hC : KC t ca la N) (h : KN t ca N LS) : KN t' ca N LS := fun c hc => by
  have a1 := (hC.1 c hc).1
  rw [fe_v hF a1 h0]; exact h c hc
theorem kz_fe (hF : Fe t t' js) (h0 : gf 1 10 ∉ js) (hC : KC t ca la N) (h : KZ t ca N) : KZ t' ca N := fun c hc => by
  have a1 := (hC.1 c hc).1
  rw [fe_v hF a1 h0]; exact h c hc
theorem ki_fe (hF : Fe t t' js) (h0 : gf 3 0 ∉ js) (h1 : gf 3 1 ∉ js) (h2 : gf 3 2 ∉ js) (h : KI t sa ca N) : KI t' sa ca N := fun p hp => by
  obtain ⟨a1, a2, a3, a4⟩ := h p hp
  refine ⟨fe_c hF a1, ?_, ?_, ?_⟩
  · rw [fe_v hF a1 h0]; exact a2
  · rw [fe_v hF a1 h1]; exact a3
  · rw [fe_v hF a1 h2]; exact a4
theorem ks_fe (hF : Fe t t' js) (h3 : gf 3 3 ∉ js) (h7 : gf 3 7 ∉ js) (h8 : gf 3 8 ∉ js) (h9 : gf 3 9 ∉ js) (h10 : gf 3 10 ∉ js) (hI : KI t sa ca N) (h : KS t sa N FL) : KS t' sa N FL := fun p hp => by
  have a1 := (hI p hp).1
  unfold KSp
  have e9 : tV t' (sa p) (gf 3 9) = tV t (sa p) (gf 3 9) := by funext i; exact fe_v hF a1 h9 i
  have e10 : tV t' (sa p) (gf 3 10) = tV t (sa p) (gf 3 10) := by funext i; exact fe_v hF a1 h10 i
  rw [fe_v hF a1 h3, fe_v hF a1 h7, fe_v hF a1 h8, e9, e10, fe_i hF a1 h9, fe_i hF a1 h10, fe_l hF a1 h9, fe_l hF a1 h10]
  exact h p hp
theorem dlf_congr {B A B' A' : Nat → Int} : ∀ (as : List Nat) (pr : Int), (∀ a, a ∈ as → B' a = B a ∧ A' a = A a) → dlf B A pr as → dlf B' A' pr as := by
  intro as
  induction as with
  | nil => intro _ _ _; trivial
  | cons a r ih =>
    intro pr h1 h2
    refine ⟨?_, ?_, ih _ (fun b hb => h1 b (List.mem_cons_of_mem _ hb)) h2.2.2⟩
    · rw [(h1 a List.mem_cons_self).1]; exact h2.1
    · rw [(h1 a List.mem_cons_self).2]; exact h2.2.1
theorem kl_fe (hF : Fe t t' js) (h4 : gf 3 4 ∉ js) (h5 : gf 3 5 ∉ js) (h6 : gf 3 6 ∉ js) (h0 : gf 4 0 ∉ js) (hC : KC t ca la N) (hI : KI t sa ca N) (hm : ∀ l, l < 24 → ∀ p, p ∈ LS l → Sl N p) (h : KL t sa la N LS) : KL t' sa la N LS := fun l hl hv => by
  obtain ⟨a1, a2, a3⟩ := h l hl hv
  have e1 : 3 * (l / 3) + l % 3 = l := by omega
  have c1 := ((hC.1 _ hv).2.2.2 (l % 3) (by omega)).2
  rw [e1] at c1
  refine ⟨by rw [fe_v hF c1 h0]; exact a1, dlf_congr _ _ (fun a ha => ?_) a2, fun p hp => by rw [fe_v hF (hI p (hm l hl p hp)).1 h4]; exact a3 p hp⟩
  obtain ⟨p, hp, rfl⟩ := List.mem_map.mp ha
  have c2 := (hI p (hm l hl p hp)).1
  exact ⟨fe_v hF c2 h5 0, fe_v hF c2 h6 0⟩
theorem kp_fe (hF : Fe t t' js) (h13 : gf 1 13 ∉ js) (h14 : gf 1 14 ∉ js) (h15 : gf 1 15 ∉ js) (h16 : gf 1 16 ∉ js) (hC : KC t ca la N) (h : KP t ca mg dz N) : KP t' ca mg dz N := fun c hc => by
  have a1 := (hC.1 c hc).1
  obtain ⟨b1, b2, b3, b4⟩ := h c hc
  refine ⟨fun q hq => ?_, fun d hd => ?_, ?_, b4⟩
  · rw [fe_v hF a1 h13, fe_v hF a1 h14]; exact b1 q hq
  · rw [fe_v hF a1 h15]; exact b2 d hd
  · rw [fe_v hF a1 h16]; exact b3
theorem km_fe (hF : Fe t t' js) (h0 : gf 2 0 ∉ js) (h1 : gf 2 1 ∉ js) (h : KM t mg hz N) : KM t' mg hz N := by
  refine ⟨fun s hs => ?_, h.2⟩
  obtain ⟨a1, a2, a3, a4⟩ := h.1 s hs
  refine ⟨fe_c hF a1, ?_, ?_, fun k hk => ?_⟩
  · rw [fe_i hF a1 h0, fe_l hF a1 h0]; exact a2
  · rw [fe_v hF a1 h1]; exact a3
  · rw [fe_v hF a1 h0]; exact a4 k hk
end
