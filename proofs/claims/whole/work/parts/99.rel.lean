/-! ===== the relation of both objects ===== -/
def memP (N R C B : Nat → Nat) (w f nb : Nat) : Prop := okN N w ∧ okM w f ∧ mxN N w = nI (2 ^ f) ∧ okBd nb R C B ∧ (∀ k, k < nb → R k < 2 ^ (w - f) ∧ C k < N 1 * 2 ^ f) ∧ ∀ i j, i < j → j < nb → ¬ (R i = R j ∧ C i = C j)
def memX (mv : MV) (N R C B : Nat → Nat) (nb : Nat) : Prop := (∀ k, k < 9 → mv.2.1 k = nI (N k)) ∧ xBd mv.1 mv.2.2.1 mv.2.2.2.1 mv.2.2.2.2.1 nb R C B
def memY (al : Nat → Int32) (b : Nat) (N R C B : Nat → Nat) (nb : Nat) : Prop := b + 4208 ≤ 43047 ∧ mdl al b N ∧ yBd al b nb R C B
def memR (mv : MV) (al : Nat → Int32) (b : Nat) (N R C B : Nat → Nat) (w f nb : Nat) : Prop := memP N R C B w f nb ∧ memX mv N R C B nb ∧ memY al b N R C B nb ∧ celR mv.2.2.2.2.2.1 mv.2.2.2.2.2.2 al b N w f
def memE (mv : MV) (al : Nat → Int32) (b : Nat) : Prop := ∃ N R C B w f nb, memR mv al b N R C B w f nb
def mvQ (a b : MV) : Prop := b.1 4 = a.1 4 ∧ (∀ k, k < 9 → b.2.1 k = a.2.1 k) ∧ (∀ k, k < 12 → b.2.2.1 k = a.2.2.1 k ∧ b.2.2.2.1 k = a.2.2.2.1 k ∧ b.2.2.2.2.1 k = a.2.2.2.2.1 k) ∧ (∀ k, k < 1056 → b.2.2.2.2.2.1 k = a.2.2.2.2.2.1 k) ∧ ∀ k, k < 33 → b.2.2.2.2.2.2 k = a.2.2.2.2.2.2 k
theorem mvQ_rf (a : MV) : mvQ a a := ⟨rfl, fun _ _ => rfl, fun _ _ => ⟨rfl, rfl, rfl⟩, fun _ _ => rfl, fun _ _ => rfl⟩
theorem ybit_cong {al al2 : Nat → Int32} {b b2 q : Nat} (h : ∀ k, k < 4208 → al2 (b2 + k) = al (b + k)) (hq : q < 133184) : ybit al2 b2 q = ybit al b q := by
  unfold ybit
  have := h (46 + q / 32) (by omega)
  rw [← Nat.add_assoc, ← Nat.add_assoc] at this
  rw [this]
theorem celR_cong {wd wd2 sp sp2 al al2 : Nat → Int32} {b b2 : Nat} {N : Nat → Nat} {w f : Nat} (ok : okN N w) (hf : okM w f) (hw : ∀ k, k < 1056 → wd2 k = wd k) (hs : ∀ k, k < 33 → sp2 k = sp k) (ha : ∀ q, q < 133184 → ybit al2 b2 q = ybit al b q) (h : celR wd sp al b N w f) : celR wd2 sp2 al2 b2 N w f := by
  have h8 := p2f hf.1
  have hN1 := ok.2.2.2.2.1
  have hN3 := ok.2.2.2.2.2.2.1
  have hp : 2 ^ (w - f) ≤ 512 := Nat.le_trans (Nat.pow_le_pow_right (n := 2) (by decide) hf.2.2) (by decide)
  have hp2 : N 1 * 2 ^ f ≤ 32 * 8 := Nat.mul_le_mul hN1 h8.2
  intro r hr
  obtain ⟨h1, h2, h3⟩ := h r hr
  refine ⟨fun c hc => ?_, fun i hi => ?_, fun o ho j j1 j2 => ?_⟩
  · rw [hw _ (wix ok hf hr (Nat.mod_lt _ (Nat.two_pow_pos f))), ha _ (by omega)]; exact h1 c hc
  · have := h2 i hi
    unfold spb at this ⊢
    rw [hs _ (by omega), ha _ (by omega)]; exact this
  · rw [hw _ (wix ok hf hr ho)]; exact h3 o ho j j1 j2
theorem memY_cong {al al2 : Nat → Int32} {b b2 : Nat} {N R C B : Nat → Nat} {nb : Nat} (hb : okBd nb R C B) (hb2 : b2 + 4208 ≤ 43047) (h : ∀ k, k < 46 → al2 (b2 + k) = al (b + k)) (hm : memY al b N R C B nb) : memY al2 b2 N R C B nb := by
  obtain ⟨-, h1, h2⟩ := hm
  refine ⟨hb2, ⟨by omega, fun k hk => ?_⟩, ?_, fun k hk => ?_⟩
  · rw [h k (by omega)]; exact h1.2 k hk
  · rw [h 9 (by decide)]; exact h2.1
  · have hb1 := hb.1
    have q := h2.2 k hk
    refine ⟨?_, ?_, ?_⟩
    · have := h (10 + 3 * k) (by omega)
      rw [← Nat.add_assoc, ← Nat.add_assoc] at this
      rw [this]; exact q.1
    · have := h (10 + 3 * k + 1) (by omega)
      rw [← Nat.add_assoc, ← Nat.add_assoc, ← Nat.add_assoc, ← Nat.add_assoc] at this
      rw [this]; exact q.2.1
    · have := h (10 + 3 * k + 2) (by omega)
      rw [← Nat.add_assoc, ← Nat.add_assoc, ← Nat.add_assoc, ← Nat.add_assoc] at this
      rw [this]; exact q.2.2
theorem memX_cong {a b : MV} {N R C B : Nat → Nat} {nb : Nat} (hb : nb ≤ 12) (h : mvQ a b) (hm : memX a N R C B nb) : memX b N R C B nb := by
  obtain ⟨q1, q2, q3, -, -⟩ := h
  obtain ⟨h1, h2, h3⟩ := hm
  refine ⟨fun k hk => (q2 k hk).trans (h1 k hk), q1.trans h2, fun k hk => ?_⟩
  have := q3 k (by omega)
  have w := h3 k hk
  exact ⟨this.1.trans w.1, this.2.1.trans w.2.1, this.2.2.trans w.2.2⟩
theorem memR_cong {a b : MV} {al al2 : Nat → Int32} {c c2 : Nat} {N R C B : Nat → Nat} {w f nb : Nat} (hq : mvQ a b) (hc : c2 + 4208 ≤ 43047) (h : ∀ k, k < 4208 → al2 (c2 + k) = al (c + k)) (hm : memR a al c N R C B w f nb) : memR b al2 c2 N R C B w f nb := by
  obtain ⟨h1, h2, h3, h4⟩ := hm
  exact ⟨h1, memX_cong h1.2.2.2.1.1 hq h2, memY_cong h1.2.2.2.1 hc (fun k hk => h k (by omega)) h3, celR_cong h1.1 h1.2.1 hq.2.2.2.1 hq.2.2.2.2 (fun q hq => ybit_cong h hq) h4⟩
theorem memE_cong {a b : MV} {al al2 : Nat → Int32} {c c2 : Nat} (hq : mvQ a b) (hc : c2 + 4208 ≤ 43047) (h : ∀ k, k < 4208 → al2 (c2 + k) = al (c + k)) (hm : memE a al c) : memE b al2 c2 := by
  obtain ⟨N, R, C, B, w, f, nb, hm⟩ := hm
  exact ⟨N, R, C, B, w, f, nb, memR_cong hq hc h hm⟩
def wirR (tI rI rr rc : Nat → Int32) (N R C : Nat → Nat) (w f nb : Nat) : Prop := wirW tI N w f ∧ xG R C nb (gvn R C nb (N 3) (N 4)) rI rr rc ∧ bst R C nb (N 3) (N 4) (syS C nb nb) (gvn R C nb (N 3) (N 4)) ∧ ∃ m, rI 5 = nI m ∧ isFw R C nb (N 4) m
def tapR (tI tb yt : Nat → Int32) (yn : Int32) : Prop := ∃ n, n ≤ 300 ∧ tI 1 = nI n ∧ yn = nI n ∧ (∀ i, i < 300 → tb i = (tb i).toInt8.toInt32) ∧ ∀ i, i < n → ∃ v, v < 256 ∧ yt i = nI v ∧ tb i = (nI v).toInt8.toInt32
def pstR (pI : Nat → Int32) (rv : Nat → Option MV) (yu : Int32) (al : Nat → Int32) : Prop := ∃ k nx, k ≤ 6 ∧ nx < 6 ∧ pI 2 = nI k ∧ pI 1 = nI nx ∧ yu = nI k ∧ ∀ i, i < k → ∃ mv, rv ((nx + 6 - k + i) % 6) = some mv ∧ memE mv al (4257 + 4208 * i)
def mvS (sv : SV) : MV := (sv.2.1, sv.2.2.1, sv.2.2.2.1, sv.2.2.2.2.1, sv.2.2.2.2.2.1, sv.2.2.2.2.2.2.1, sv.2.2.2.2.2.2.2.1)
def whyR (nI_ al : Nat → Int32) (b : Nat) : Prop := nI_ 4 = al (b + 4208) ∧ nI_ 5 = al (b + 4209) ∧ nI_ 6 = al (b + 4210)
def imgR (iv : Nat → Option SV) (al yi : Nat → Int32) : Prop := ∀ k, k < 3 → (iv k = none ∧ yi k = 0) ∨ ∃ sv, iv k = some sv ∧ yi k = 1 ∧ memE (mvS sv) al (29505 + 4514 * k) ∧ whyR sv.1 al (29505 + 4514 * k) ∧ tapR sv.2.2.2.2.2.2.2.2.1 sv.2.2.2.2.2.2.2.2.2 (fun i => al (29505 + 4514 * k + 4211 + i)) (al (29505 + 4514 * k + 4211 + 300)) ∧ sv.1 2 = al (29505 + 4514 * k + 4211 + 300 + 1) ∧ sv.1 3 = al (29505 + 4514 * k + 4211 + 300 + 2)
def RelC (x0 : Nat → Int32) (mv : MV) (x8 x9 x10 x11 x12 x13 x14 : Nat → Int32) (rv : Nat → Option MV) (iv : Nat → Option SV) (y0 y1 y2 y3 : Nat → Int32) : Prop :=
  (∃ N R C B w f nb, memR mv y1 0 N R C B w f nb ∧ wirR x11 x12 x13 x14 N R C w f nb) ∧ whyR x0 y1 0 ∧ tapR x8 x9 y2 (y0 3) ∧ (x0 2 = y0 4 ∧ x0 3 = y0 5) ∧ pstR x10 rv (y0 6) y1 ∧ imgR iv y1 y3
def Rel (x : XS) (y : YS) : Prop := RelC (x.1 0) (x.1 1, x.1 2, x.1 3, x.1 4, x.1 5, x.1 6, x.1 7) (x.1 8) (x.1 9) (x.1 10) (x.1 11) (x.1 12) (x.1 13) (x.1 14) x.2.1 x.2.2 (y.1 0) (y.1 1) (y.1 2) (y.1 3)
/-- the reference's scratch may change -/
theorem pstR_cong {pI : Nat → Int32} {rv : Nat → Option MV} {yu : Int32} {al al2 : Nat → Int32} (h : ∀ k, 4257 ≤ k → k < 29505 → al2 k = al k) (hp : pstR pI rv yu al) : pstR pI rv yu al2 := by
  obtain ⟨k, nx, h1, h2, h3, h4, h5, h6⟩ := hp
  refine ⟨k, nx, h1, h2, h3, h4, h5, fun i hi => ?_⟩
  obtain ⟨mv, q1, q2⟩ := h6 i hi
  exact ⟨mv, q1, memE_cong (mvQ_rf mv) (by omega) (fun j hj => h _ (by omega) (by omega)) q2⟩
theorem tapR_cong {tI tb yt yt2 : Nat → Int32} {yn yn2 : Int32} (h : ∀ i, i < 300 → yt2 i = yt i) (hn : yn2 = yn) (ht : tapR tI tb yt yn) : tapR tI tb yt2 yn2 := by
  obtain ⟨n, h1, h2, h3, h4, h5⟩ := ht
  refine ⟨n, h1, h2, hn.trans h3, h4, fun i hi => ?_⟩
  obtain ⟨v, q1, q2, q3⟩ := h5 i hi
  exact ⟨v, q1, (h i (by omega)).trans q2, q3⟩
theorem imgR_cong {iv : Nat → Option SV} {al al2 yi : Nat → Int32} (h : ∀ k, 29505 ≤ k → al2 k = al k) (hi : imgR iv al yi) : imgR iv al2 yi := by
  intro k hk
  rcases hi k hk with q | ⟨sv, q1, q2, q3, q4, q5, q6, q7⟩
  · exact .inl q
  · refine .inr ⟨sv, q1, q2, memE_cong (mvQ_rf _) (by omega) (fun j hj => h _ (by omega)) q3, ?_, ?_, ?_, ?_⟩
    · exact ⟨q4.1.trans (h _ (by omega)).symm, q4.2.1.trans (h _ (by omega)).symm, q4.2.2.trans (h _ (by omega)).symm⟩
    · exact tapR_cong (fun i hi => h _ (by omega)) (h _ (by omega)) q5
    · exact q6.trans (h _ (by omega)).symm
    · exact q7.trans (h _ (by omega)).symm
theorem RelC_y {x0 : Nat → Int32} {mv : MV} {x8 x9 x10 x11 x12 x13 x14 : Nat → Int32} {rv : Nat → Option MV} {iv : Nat → Option SV} {y0 y1 y2 y3 z0 z1 : Nat → Int32} (h3 : z0 3 = y0 3) (h4 : z0 4 = y0 4) (h5 : z0 5 = y0 5) (h6 : z0 6 = y0 6) (ha : ∀ k, (k < 4211 ∨ 4257 ≤ k) → z1 k = y1 k) (h : RelC x0 mv x8 x9 x10 x11 x12 x13 x14 rv iv y0 y1 y2 y3) : RelC x0 mv x8 x9 x10 x11 x12 x13 x14 rv iv z0 z1 y2 y3 := by
  obtain ⟨⟨N, R, C, B, w, f, nb, q1, q2⟩, q3, q4, q5, q6, q7⟩ := h
  refine ⟨⟨N, R, C, B, w, f, nb, memR_cong (mvQ_rf mv) (by omega) (fun k hk => by rw [Nat.zero_add]; exact ha k (by omega)) q1, q2⟩, ?_, ?_, ?_, ?_, ?_⟩
  · exact ⟨q3.1.trans (ha _ (by omega)).symm, q3.2.1.trans (ha _ (by omega)).symm, q3.2.2.trans (ha _ (by omega)).symm⟩
  · rw [h3]; exact q4
  · rw [h4, h5]; exact q5
  · rw [h6]; exact pstR_cong (fun k k1 _ => ha k (by omega)) q6
  · exact imgR_cong (fun k hk => ha k (by omega)) q7
theorem RelC_y0 {x0 : Nat → Int32} {mv : MV} {x8 x9 x10 x11 x12 x13 x14 : Nat → Int32} {rv : Nat → Option MV} {iv : Nat → Option SV} {y0 y1 y2 y3 z0 : Nat → Int32} (hk : ∀ i, i < 11 → z0 i = y0 i) (h : RelC x0 mv x8 x9 x10 x11 x12 x13 x14 rv iv y0 y1 y2 y3) : RelC x0 mv x8 x9 x10 x11 x12 x13 x14 rv iv z0 y1 y2 y3 := RelC_y (hk 3 (by decide)) (hk 4 (by decide)) (hk 5 (by decide)) (hk 6 (by decide)) (fun _ _ => rfl) h
