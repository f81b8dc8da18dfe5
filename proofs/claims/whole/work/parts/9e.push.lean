/-! ===== copies of the reference; what the program settles; acts are kept ===== -/
theorem y_copies (al : Nat → Int32) {s d n : Nat} (hs : s + n ≤ 43047) (hd : d + n ≤ 43047) (hsd : d ≤ s ∨ s + n ≤ d) : ∃ al2, fX11_copies al (nI s) (nI d) (nI n) = some al2 ∧ ∀ k, al2 k = if d ≤ k ∧ k < d + n then al (s + (k - d)) else al k := by
  unfold fX11_copies
  have loop : ∀ (j F i : Nat) (t : Nat → Int32), i + j = n → j < F → (∀ k, t k = if d ≤ k ∧ k < d + i then al (s + (k - d)) else al k) → ∃ al2, fX11_copies_l3 (nI s) (nI d) (nI n) F (nI i) t = some al2 ∧ ∀ k, al2 k = if d ≤ k ∧ k < d + n then al (s + (k - d)) else al k := by
    intro j
    induction j with
    | zero =>
      intro F i t e1 e2 ht
      obtain ⟨F, rfl⟩ : ∃ G, F = G + 1 := ⟨F - 1, by omega⟩
      have : i = n := by omega
      subst this
      rw [fX11_copies_l3, if_pos (nI_le (Nat.le_refl _) (by omega))]
      exact ⟨t, rfl, ht⟩
    | succ j ih =>
      intro F i t e1 e2 ht
      obtain ⟨F, rfl⟩ : ∃ G, F = G + 1 := ⟨F - 1, by omega⟩
      rw [fX11_copies_l3, if_neg (nI_ge (by omega) (by omega)), nI_add, nI_add, gdN (by omega) (by decide), gdN (by omega) (by decide), nI_clamp (by omega), nI_clamp (by omega), show nI i + (1 : Int32) = nI (i + 1) from nI_1 i]
      refine ih F (i + 1) _ (by omega) (by omega) (fun k => ?_)
      have es : t (s + i) = al (s + i) := by rw [ht, if_neg (by omega)]
      by_cases ek : k = d + i
      · subst ek
        rw [ux_at, es, if_pos (by omega), show d + i - d = i from by omega]
      · rw [ux_ne ek, ht]
        by_cases w : d ≤ k ∧ k < d + i
        · rw [if_pos w, if_pos (by omega)]
        · rw [if_neg w, if_neg (by omega)]
  obtain ⟨al2, q1, q2⟩ := loop n FU 0 al (by omega) (by show _ < 4294967296; omega) (fun k => by rw [if_neg (by omega)])
  have q1 : fX11_copies_l3 (nI s) (nI d) (nI n) FU (0 : Int32) al = some al2 := q1
  rw [q1, bnS]
  exact ⟨al2, rfl, q2⟩
theorem x_settle {N R C B : Nat → Nat} {w f nb : Nat} {sI nu br bc bb : Nat → Int32} (hP : memP N R C B w f nb) (hnu : ∀ k, k < 9 → nu k = nI (N k)) (hx : xBd sI br bc bb nb R C B) (tI rI rr rc cd lf fI fz : Nat → Int32) : ∃ t2 r2 rr2 rc2 cd2 lf2 fI2 fz2, fX10_settle sI nu br bc tI rI rr rc cd lf fI fz = some (t2, r2, rr2, rc2, cd2, lf2, fI2, fz2) ∧ wirR t2 r2 rr2 rc2 N R C w f nb := by
  obtain ⟨ok, hM, hmx, hb, hfit, hds⟩ := hP
  unfold fX10_settle
  obtain ⟨fI2, fz2, q1⟩ := x_muxOf ok hnu fI fz
  rw [q1, bnS, hmx]
  unfold fX9_lay
  obtain ⟨r2, rr2, rc2, cd2, lf2, m, u1, u2, u3, u4, u5⟩ := x_find (sp := N 3) (c4 := N 4) hb hx (hnu 3 (by decide)) (hnu 4 (by decide)) ok.2.2.2.2.2.2.1 ok.2.2.2.2.2.2.2.1 rI rr rc cd lf
  dsimp only
  rw [u1, bnS, bnS]
  refine ⟨_, _, _, _, _, _, _, _, rfl, ?_, xG_of u2, u3, m, u4, u5⟩
  have h8 := p2f hM.1
  have hp2 : N 1 * 2 ^ f ≤ 32 * 8 := Nat.mul_le_mul ok.2.2.2.2.1 h8.2
  have hw := pw10 ok.2.2.1
  have e0 : nu 0 = nI (2 ^ w) := by rw [hnu 0 (by decide), ok.1]
  have el : fX10_log (nI (2 ^ f)) = nI f := xlog f (by have := hM.1; omega)
  refine ⟨rfl, el, ?_, ?_⟩
  · show nu 0 >>> (fX10_log (nI (2 ^ f)) &&& 31) = _
    rw [el, e0, shrN _ _ (by omega) (by have := hM.1; omega), pdiv (by have := hM.2.1; omega)]
  · show nu 1 <<< (fX10_log (nI (2 ^ f)) &&& 31) = _
    rw [el, hnu 1 (by decide), shlN _ _ (by have := hM.1; omega) (by omega)]
theorem x_init0 : ∃ d, fX0_init = some d := ⟨_, rfl⟩
theorem x_copy0 (d mv : MV) : ∃ d2, fX0_copyFrom d.1 d.2.1 d.2.2.1 d.2.2.2.1 d.2.2.2.2.1 d.2.2.2.2.2.1 d.2.2.2.2.2.2 mv.1 mv.2.1 mv.2.2.1 mv.2.2.2.1 mv.2.2.2.2.1 mv.2.2.2.2.2.1 mv.2.2.2.2.2.2 = some d2 ∧ mvQ mv d2 := by
  refine ⟨_, rfl, (show upd d.1 4 (mv.1 4) 4 = mv.1 4 from ux_at _ _ _), fun k hk => ?_, fun k hk => ⟨?_, ?_, ?_⟩, fun k hk => ?_, fun k hk => ?_⟩
  all_goals
    refine (pk_cpy_in (Nat.zero_le _) (by omega)).trans ?_
    rw [show 0 + (k - 0) = k from by omega]
theorem pst_push {pI tI al : Nat → Int32} {rv : Nat → Option MV} {mv : MV} (hp : pstR pI rv (tI 6) al) (hm : memE mv al 0) : ∃ pI2 rv2 tJ al2, fX1_remember pI rv mv.1 mv.2.1 mv.2.2.1 mv.2.2.2.1 mv.2.2.2.2.1 mv.2.2.2.2.2.1 mv.2.2.2.2.2.2 = some (pI2, rv2) ∧ fX11_keeps tI al = some (tJ, al2) ∧ pstR pI2 rv2 (tJ 6) al2 ∧ (∀ i, i ≠ 6 → tJ i = tI i) ∧ ∀ k, (k < 4257 ∨ 29505 ≤ k) → al2 k = al k := by
  obtain ⟨k, nx, h1, h2, h3, h4, h5, h6⟩ := hp
  have er : (nI nx + (1 : Int32)) - (nI nx + (1 : Int32)) / (6 : Int32) * (6 : Int32) = nI ((nx + 1) % 6) := by
    rw [show nI nx + (1 : Int32) = nI (nx + 1) from nI_1 nx]
    exact pk_rem (d := 6) (by omega) (by decide) (by decide)
  have ek : (if (6 : Int32) < nI k + (1 : Int32) then (6 : Int32) else nI k + (1 : Int32)) = nI (if k = 6 then 6 else k + 1) := by
    rw [show nI k + (1 : Int32) = nI (k + 1) from nI_1 k]
    by_cases c : k = 6
    · subst c; rfl
    · rw [if_neg c, if_neg (show ¬ (6 : Int32) < nI (k + 1) from nI_nlt (a := 6) (by omega) (by decide))]
  have xr : ∃ d2, fX1_remember pI rv mv.1 mv.2.1 mv.2.2.1 mv.2.2.2.1 mv.2.2.2.2.1 mv.2.2.2.2.2.1 mv.2.2.2.2.2.2 = some (upd (upd pI 1 (nI ((nx + 1) % 6))) 2 (nI (if k = 6 then 6 else k + 1)), va_up rv nx (some d2)) ∧ mvQ mv d2 := by
    unfold fX1_remember
    rw [h4, h3, gdN h2 (by decide), nI_clamp (by omega), er, ek]
    cases hrv : rv nx with
    | some d =>
      obtain ⟨d2, c1, c2⟩ := x_copy0 d mv
      refine ⟨d2, ?_, c2⟩
      show bn (some d) _ = _
      rw [bnS, c1, bnS]
    | none =>
      obtain ⟨d, hd⟩ := x_init0
      obtain ⟨d2, c1, c2⟩ := x_copy0 d mv
      refine ⟨d2, ?_, c2⟩
      show bn fX0_init _ = _
      rw [hd, bnS, c1, bnS]
  obtain ⟨d2, xr, c2⟩ := xr
  rw [xr]
  unfold fX11_keeps
  rw [h5]
  have vup : ∀ j, j ≠ nx → va_up rv nx (some d2) j = rv j := fun j hj => if_neg hj
  have vat : va_up rv nx (some d2) nx = some d2 := if_pos rfl
  by_cases c : k = 6
  · subst c
    rw [if_pos (show nI 6 = (6 : Int32) from rfl)]
    obtain ⟨a1, q1, q2⟩ := y_copies al (s := 8465) (d := 4257) (n := 21040) (by decide) (by decide) (.inl (by decide))
    have q1 : fX11_copies al (8465 : Int32) (4257 : Int32) (21040 : Int32) = some a1 := q1
    obtain ⟨a2, r1, r2⟩ := y_copies a1 (s := 0) (d := 25297) (n := 4208) (by decide) (by decide) (.inr (by decide))
    have r1 : fX11_copies a1 (0 : Int32) ((4257 : Int32) + ((4208 : Int32) * (nI 6 - (1 : Int32)))) (4208 : Int32) = some a2 := r1
    rw [q1, bnS, r1, bnS]
    refine ⟨_, _, _, _, rfl, rfl, ⟨6, (nx + 1) % 6, by decide, Nat.mod_lt _ (by decide), rfl, rfl, rfl, fun i hi => ?_⟩, fun i hi => ux_ne hi, fun j hj => ?_⟩
    · by_cases ei : i = 5
      · subst ei
        refine ⟨d2, ?_, memE_cong c2 (by decide) (fun j hj => ?_) hm⟩
        · rw [show ((nx + 1) % 6 + 6 - 6 + 5) % 6 = nx from by omega]; exact vat
        · rw [r2, if_pos (by omega), q2, if_neg (by omega), show 0 + (4257 + 4208 * 5 + j - 25297) = 0 + j from by omega]
      · obtain ⟨mv', w1, w2⟩ := h6 (i + 1) (by omega)
        refine ⟨mv', ?_, memE_cong (mvQ_rf mv') (by omega) (fun j hj => ?_) w2⟩
        · rw [show ((nx + 1) % 6 + 6 - 6 + i) % 6 = (nx + 6 - 6 + (i + 1)) % 6 from by omega, vup _ (by omega)]; exact w1
        · rw [r2, if_neg (by omega), q2, if_pos (by omega), show 8465 + (4257 + 4208 * i + j - 4257) = 4257 + 4208 * (i + 1) + j from by omega]
    · rw [r2, if_neg (by omega), q2, if_neg (by omega)]
  · rw [if_neg (show ¬ nI k = (6 : Int32) from fun e => c ((nI_eq (b := 6) (by omega) (by decide)).mp e))]
    have ed : (4257 : Int32) + ((4208 : Int32) * nI k) = nI (4257 + 4208 * k) := by
      show nI 4257 + nI 4208 * nI k = _
      rw [pk_mul, nI_add]
    obtain ⟨a2, r1, r2⟩ := y_copies al (s := 0) (d := 4257 + 4208 * k) (n := 4208) (by decide) (by omega) (.inr (by omega))
    have r1 : fX11_copies al (0 : Int32) (nI (4257 + 4208 * k)) (4208 : Int32) = some a2 := r1
    rw [ed, r1, bnS, if_neg c, show nI k + (1 : Int32) = nI (k + 1) from nI_1 k]
    refine ⟨_, _, _, _, rfl, rfl, ⟨k + 1, (nx + 1) % 6, by omega, Nat.mod_lt _ (by decide), rfl, rfl, rfl, fun i hi => ?_⟩, fun i hi => ux_ne hi, fun j hj => ?_⟩
    · by_cases ei : i = k
      · subst ei
        refine ⟨d2, ?_, memE_cong c2 (by omega) (fun j hj => ?_) hm⟩
        · rw [show ((nx + 1) % 6 + 6 - (i + 1) + i) % 6 = nx from by omega]; exact vat
        · rw [r2, if_pos (by omega), show 0 + (4257 + 4208 * i + j - (4257 + 4208 * i)) = 0 + j from by omega]
      · obtain ⟨mv', w1, w2⟩ := h6 i (by omega)
        refine ⟨mv', ?_, memE_cong (mvQ_rf mv') (by omega) (fun j hj => ?_) w2⟩
        · rw [show ((nx + 1) % 6 + 6 - (k + 1) + i) % 6 = (nx + 6 - k + i) % 6 from by omega, vup _ (by omega)]; exact w1
        · rw [r2, if_neg (by omega)]
    · rw [r2, if_neg (by omega)]
/-- only the reasons change -/
theorem RelC_why {x0 z0 : Nat → Int32} {mv : MV} {x8 x9 x10 x11 x12 x13 x14 : Nat → Int32} {rv : Nat → Option MV} {iv : Nat → Option SV} {y0 y1 y2 y3 : Nat → Int32} {a b c : Int32} (e2 : z0 2 = x0 2) (e3 : z0 3 = x0 3) (e4 : z0 4 = a) (e5 : z0 5 = b) (e6 : z0 6 = c) (h : RelC x0 mv x8 x9 x10 x11 x12 x13 x14 rv iv y0 y1 y2 y3) : RelC z0 mv x8 x9 x10 x11 x12 x13 x14 rv iv y0 (upd (upd (upd y1 4208 a) 4209 b) 4210 c) y2 y3 := by
  obtain ⟨⟨N, R, C, B, w, f, nb, q1, q2⟩, q3, q4, q5, q6, q7⟩ := h
  have un : ∀ k, (k < 4208 ∨ 4211 ≤ k) → upd (upd (upd y1 4208 a) 4209 b) 4210 c k = y1 k := fun k hk => by rw [ux_ne (by omega), ux_ne (by omega), ux_ne (by omega)]
  refine ⟨⟨N, R, C, B, w, f, nb, memR_cong (mvQ_rf mv) (by omega) (fun k hk => by rw [Nat.zero_add]; exact un k (by omega)) q1, q2⟩, ⟨e4, e5, e6⟩, q4, ⟨e2.trans q5.1, e3.trans q5.2⟩, ?_, ?_⟩
  · exact pstR_cong (fun k k1 _ => un k (by omega)) q6
  · exact imgR_cong (fun k hk => un k (by omega)) q7
/-! ===== most ===== -/
theorem wi_cong {N M : Nat → Nat} {w f : Nat} (h1 : N 1 = M 1) (h4 : N 4 = M 4) (h5 : N 5 = M 5) : wiN N w f = wiN M w f := by
  have e : CC N f = CC M f := by unfold CC; rw [h1, h4]
  unfold wiN sgN siN
  rw [e, h5]
theorem he_cong {N M : Nat → Nat} {w f : Nat} (h3 : N 3 = M 3) (h6 : N 6 = M 6) : heN N w f = heN M w f := by
  have e : RR N w f = RR M w f := by unfold RR; rw [h3]
  unfold heN
  rw [e, h6]
def mstQ (N : Nat → Nat) (w : Nat) (p0 p1 : Int32) (f : Nat) : Prop := okM w f ∧ ¬ p0 < wiN N w f ∧ ¬ p1 < heN N w f
theorem x_m29 {N : Nat → Nat} {w : Nat} {nu : Nat → Int32} (ok : okN N w) (hp : ∀ k, 0 < k → k < 9 → nu k = nI (N k)) (p0 p1 : Int32) : ∀ (d F i : Nat) (tI z : Nat → Int32), i + d = 4 → d < F → (∃ tJ z2, fX10_most_l29 p0 p1 (nI (2 ^ w)) nu F (nI i) tI z = some (.inl (tJ, z2)) ∧ ∀ f, i ≤ f → f < 4 → ¬ mstQ N w p0 p1 f) ∨ (∃ tJ z2, fX10_most_l29 p0 p1 (nI (2 ^ w)) nu F (nI i) tI z = some (.inr (nI (2 ^ w), tJ, z2)) ∧ ∃ f, i ≤ f ∧ f < 4 ∧ mstQ N w p0 p1 f) := by
  intro d
  induction d with
  | zero =>
    intro F i tI z e1 e2
    obtain ⟨F, rfl⟩ : ∃ G, F = G + 1 := ⟨F - 1, by omega⟩
    have : i = 4 := by omega
    subst this
    rw [fX10_most_l29, if_pos (show (3 : Int32) < nI 4 from by decide)]
    exact .inl ⟨_, _, rfl, fun f h1 h2 => by omega⟩
  | succ d ih =>
    intro F i tI z e1 e2
    obtain ⟨F, rfl⟩ : ∃ G, F = G + 1 := ⟨F - 1, by omega⟩
    rw [fX10_most_l29, if_neg (show ¬ (3 : Int32) < nI i from nI_nlt (a := 3) (by omega) (by omega)), shl1 i (by omega), show nI i + (1 : Int32) = nI (i + 1) from nI_1 i]
    obtain ⟨r, tJ, z2, q1, q2, q3⟩ := x_make ok hp (show i ≤ 3 by omega) tI z
    rw [q1, bnS]
    have go : ¬ mstQ N w p0 p1 i → (∃ tK z3, fX10_most_l29 p0 p1 (nI (2 ^ w)) nu F (nI (i + 1)) tJ z2 = some (.inl (tK, z3)) ∧ ∀ f, i ≤ f → f < 4 → ¬ mstQ N w p0 p1 f) ∨ (∃ tK z3, fX10_most_l29 p0 p1 (nI (2 ^ w)) nu F (nI (i + 1)) tJ z2 = some (.inr (nI (2 ^ w), tK, z3)) ∧ ∃ f, i ≤ f ∧ f < 4 ∧ mstQ N w p0 p1 f) := by
      intro hn
      rcases ih F (i + 1) tJ z2 (by omega) (by omega) with ⟨tK, z3, u1, u2⟩ | ⟨tK, z3, u1, f, u2, u3, u4⟩
      · refine .inl ⟨tK, z3, u1, fun f h1 h2 => ?_⟩
        by_cases e : f = i
        · rw [e]; exact hn
        · exact u2 f (by omega) h2
      · exact .inr ⟨tK, z3, u1, f, by omega, u3, u4⟩
    by_cases c : okM w i
    · have hF := q3 c
      have h12 : (r, tJ, z2).2.1 12 = wiN N w i := hF.2.1.1
      have h13 : (r, tJ, z2).2.1 13 = heN N w i := hF.2.1.2.1
      rw [h12, h13, show (r, tJ, z2).1 = true from q2.mpr c, if_neg (show ¬ bi true = 0 from by decide)]
      by_cases c1 : p0 < wiN N w i
      · rw [if_pos c1]; exact go (fun q => q.2.1 c1)
      · rw [if_neg c1]
        by_cases c2 : p1 < heN N w i
        · rw [if_pos c2]; exact go (fun q => q.2.2 c2)
        · rw [if_neg c2]
          exact .inr ⟨_, _, rfl, i, Nat.le_refl _, by omega, c, c1, c2⟩
    · have hr : (r, tJ, z2).1 = false := by
        cases r
        · rfl
        · exact absurd (q2.mp rfl) c
      rw [hr, if_pos (show bi false = 0 from rfl)]
      exact go (fun q => c q.1)
theorem y_m41 {N : Nat → Nat} {w : Nat} {al : Nat → Int32} (hm : mdl al 4211 N) (ok : okN N w) (p0 p1 : Int32) : ∀ (d F i : Nat) (z : Nat → Int32), i + d = 4 → d < F → (∃ z2, fX11_most_l41 p0 p1 (nI (2 ^ w)) al F (nI (2 ^ i)) z = some (.inl z2) ∧ ∀ f, i ≤ f → f < 4 → ¬ mstQ N w p0 p1 f) ∨ (∃ z2, fX11_most_l41 p0 p1 (nI (2 ^ w)) al F (nI (2 ^ i)) z = some (.inr (nI (2 ^ w), al, z2)) ∧ ∃ f, i ≤ f ∧ f < 4 ∧ mstQ N w p0 p1 f) := by
  intro d
  induction d with
  | zero =>
    intro F i z e1 e2
    obtain ⟨F, rfl⟩ : ∃ G, F = G + 1 := ⟨F - 1, by omega⟩
    have : i = 4 := by omega
    subst this
    rw [fX11_most_l41, if_pos (show (8 : Int32) < nI (2 ^ 4) from by decide)]
    exact .inl ⟨_, rfl, fun f h1 h2 => by omega⟩
  | succ d ih =>
    intro F i z e1 e2
    obtain ⟨F, rfl⟩ : ∃ G, F = G + 1 := ⟨F - 1, by omega⟩
    have h8 := p2f (show i ≤ 3 by omega)
    have e2 : nI (2 ^ i) * (2 : Int32) = nI (2 ^ (i + 1)) := by rw [Nat.pow_succ]; exact pk_mul _ 2
    obtain ⟨r, r1, r2⟩ := y_possible hm ok (show i ≤ 3 by omega)
    have r1 : fX11_isPossible al (4211 : Int32) (nI (2 ^ i)) = some r := r1
    rw [fX11_most_l41, if_neg (show ¬ (8 : Int32) < nI (2 ^ i) from nI_nlt (a := 8) (by omega) (by omega)), e2, r1, bnS]
    have go : ∀ z2, ¬ mstQ N w p0 p1 i → (∃ z3, fX11_most_l41 p0 p1 (nI (2 ^ w)) al F (nI (2 ^ (i + 1))) z2 = some (.inl z3) ∧ ∀ f, i ≤ f → f < 4 → ¬ mstQ N w p0 p1 f) ∨ (∃ z3, fX11_most_l41 p0 p1 (nI (2 ^ w)) al F (nI (2 ^ (i + 1))) z2 = some (.inr (nI (2 ^ w), al, z3)) ∧ ∃ f, i ≤ f ∧ f < 4 ∧ mstQ N w p0 p1 f) := by
      intro z2 hn
      rcases ih F (i + 1) z2 (by omega) (by omega) with ⟨z3, u1, u2⟩ | ⟨z3, u1, f, u2, u3, u4⟩
      · refine .inl ⟨z3, u1, fun f h1 h2 => ?_⟩
        by_cases e : f = i
        · rw [e]; exact hn
        · exact u2 f (by omega) h2
      · exact .inr ⟨z3, u1, f, by omega, u3, u4⟩
    by_cases c : okM w i
    · obtain ⟨z2, s1, -⟩ := y_width hm ok c z
      have s1 : fX11_width al z (4211 : Int32) (nI (2 ^ i)) = some (wiN N w i, z2) := s1
      have s2 : fX11_height al (4211 : Int32) (nI (2 ^ i)) = some (heN N w i) := y_height hm ok c
      rw [r2.mpr c, if_neg (show ¬ bi true = 0 from by decide), s1, bnS, s2, bnS]
      by_cases c1 : p0 < wiN N w i
      · rw [if_pos c1]; exact go _ (fun q => q.2.1 c1)
      · rw [if_neg c1]
        by_cases c2 : p1 < heN N w i
        · rw [if_pos c2]; exact go _ (fun q => q.2.2 c2)
        · rw [if_neg c2]
          exact .inr ⟨_, rfl, i, Nat.le_refl _, by omega, c, c1, c2⟩
    · have hr : r = false := by
        cases r
        · rfl
        · exact absurd (r2.mp rfl) c
      rw [hr, if_pos (show bi false = 0 from rfl)]
      exact go _ (fun q => c q.1)
theorem sim_most : Sim_most Rel := by
  intro x y p0 p1 h
  have h' := h
  obtain ⟨⟨N, R, C, B, w, f, nb, ⟨⟨ok, hM, hmx, hb, hfit, hds⟩, hX, hY, hc⟩, ⟨hW, hG, hbs, hfw⟩⟩, -⟩ := h'
  have hnu : ∀ k, k < 9 → x.1 2 k = nI (N k) := hX.1
  unfold fX10_most fX11_most
  obtain ⟨al1, q1, q2⟩ := y_copies (y.1 1) (s := 0) (d := 4211) (n := 46) (by decide) (by decide) (.inr (by decide))
  have q1 : fX11_copies (y.1 1) (0 : Int32) (4211 : Int32) (46 : Int32) = some al1 := q1
  rw [q1, bnS]
  have okE : ∀ e, e ≤ 6 → okN (upN1 (upN1 N 2 0) 0 (2 ^ (e + 4))) (e + 4) := by
    intro e he
    obtain ⟨n0, w1, w2, n1, n1', n2, n3, n4, n5, n5', n6, n6', n7, n8⟩ := ok
    exact ⟨rfl, by omega, by omega, n1, n1', .inl rfl, n3, n4, n5, n5', n6, n6', n7, n8⟩
  have okX : ∀ e, e ≤ 6 → okN (upN1 N 0 (2 ^ (e + 4))) (e + 4) := by
    intro e he
    obtain ⟨n0, w1, w2, n1, n1', n2, n3, n4, n5, n5', n6, n6', n7, n8⟩ := ok
    exact ⟨rfl, by omega, by omega, n1, n1', n2, n3, n4, n5, n5', n6, n6', n7, n8⟩
  have out : ∀ (t : Nat → Int32), (∀ k, (k < 4211 ∨ 4257 ≤ k) → t k = y.1 1 k) → ∀ z, Rel x ((va_up (va_up y.1 1 t) 4 z), y.2) := fun t ht z => RelC_y rfl rfl rfl rfl ht h
  have loop : ∀ (e F G : Nat) (tI z al z2 : Nat → Int32), e ≤ 6 → e + 1 < F → e + 1 < G → (∀ k, (k < 4211 ∨ 4257 ≤ k) → al k = y.1 1 k) → (∀ k, 0 < k → k < 9 → al (4211 + k) = nI (upN1 N 2 0 k)) → ∃ tJ z3 al2 z4, ((fX10_most_l19 p0 p1 (x.1 2) F (nI (2 ^ (e + 4))) tI z = some (.inl (tJ, z3)) ∧ fX11_most_l23 p0 p1 G (nI (2 ^ (e + 4))) al z2 = some (.inl (al2, z4))) ∨ ∃ v, fX10_most_l19 p0 p1 (x.1 2) F (nI (2 ^ (e + 4))) tI z = some (.inr (v, tJ, z3)) ∧ fX11_most_l23 p0 p1 G (nI (2 ^ (e + 4))) al z2 = some (.inr (v, al2, z4))) ∧ ∀ k, (k < 4211 ∨ 4257 ≤ k) → al2 k = y.1 1 k := by
    intro e
    induction e with
    | zero =>
      intro F G tI z al z2 he hF hG h1 h2
      obtain ⟨F, rfl⟩ : ∃ G, F = G + 2 := ⟨F - 2, by omega⟩
      obtain ⟨G, rfl⟩ : ∃ F, G = F + 2 := ⟨G - 2, by omega⟩
      have hm : mdl (upd al 4211 (nI (2 ^ (0 + 4)))) 4211 (upN1 (upN1 N 2 0) 0 (2 ^ (0 + 4))) := by
        refine ⟨by decide, fun k hk => ?_⟩
        by_cases ek : k = 0
        · subst ek; exact ux_at _ _ _
        · rw [ux_ne (by omega), h2 k (by omega) hk]
          unfold upN1; rw [if_neg ek]
      have X := x_m29 (okX 0 (by omega)) (nu := x.1 2) (fun k k1 k2 => by rw [hnu k k2]; unfold upN1; rw [if_neg (by omega)]) p0 p1 4 FU 0 tI z (by omega) (by decide)
      have Y := y_m41 hm (okE 0 (by omega)) p0 p1 4 FU 0 z2 (by omega) (by decide)
      have ew : ∀ f, mstQ (upN1 N 0 (2 ^ (0 + 4))) (0 + 4) p0 p1 f ↔ mstQ (upN1 (upN1 N 2 0) 0 (2 ^ (0 + 4))) (0 + 4) p0 p1 f := by
        intro f
        unfold mstQ
        rw [wi_cong (N := upN1 N 0 (2 ^ (0 + 4))) (M := upN1 (upN1 N 2 0) 0 (2 ^ (0 + 4))) rfl rfl rfl, he_cong (N := upN1 N 0 (2 ^ (0 + 4))) (M := upN1 (upN1 N 2 0) 0 (2 ^ (0 + 4))) rfl rfl]
      have hal : ∀ k, (k < 4211 ∨ 4257 ≤ k) → upd al 4211 (nI (2 ^ (0 + 4))) k = y.1 1 k := fun k hk => by rw [ux_ne (by omega)]; exact h1 k hk
      rw [fX10_most_l19, fX11_most_l23, if_neg (show ¬ nI (2 ^ (0 + 4)) < (16 : Int32) from by decide), if_neg (show ¬ nI (2 ^ (0 + 4)) < (16 : Int32) from by decide)]
      rcases X with ⟨tJ, z3, u1, u2⟩ | ⟨tJ, z3, u1, f1, u2, u3, u4⟩
      · rcases Y with ⟨z4, v1, v2⟩ | ⟨z4, v1, f2, v2, v3, v4⟩
        · have u1 : fX10_most_l29 p0 p1 (nI (2 ^ (0 + 4))) (x.1 2) FU (0 : Int32) tI z = some (.inl (tJ, z3)) := u1
          have v1 : fX11_most_l41 p0 p1 (nI (2 ^ (0 + 4))) (upd al 4211 (nI (2 ^ (0 + 4)))) FU (1 : Int32) z2 = some (.inl z4) := v1
          rw [u1, bnS, v1, bnS]
          dsimp only
          rw [fX10_most_l19, fX11_most_l23, if_pos (show nI (2 ^ (0 + 4)) / (2 : Int32) < (16 : Int32) from by decide), if_pos (show nI (2 ^ (0 + 4)) / (2 : Int32) < (16 : Int32) from by decide)]
          exact ⟨_, _, _, _, .inl ⟨rfl, rfl⟩, hal⟩
        · exact absurd ((ew f2).mpr v4) (u2 f2 v2 v3)
      · rcases Y with ⟨z4, v1, v2⟩ | ⟨z4, v1, f2, v2, v3, v4⟩
        · exact absurd ((ew f1).mp u4) (v2 f1 u2 u3)
        · have u1 : fX10_most_l29 p0 p1 (nI (2 ^ (0 + 4))) (x.1 2) FU (0 : Int32) tI z = some (.inr (nI (2 ^ (0 + 4)), tJ, z3)) := u1
          have v1 : fX11_most_l41 p0 p1 (nI (2 ^ (0 + 4))) (upd al 4211 (nI (2 ^ (0 + 4)))) FU (1 : Int32) z2 = some (.inr (nI (2 ^ (0 + 4)), upd al 4211 (nI (2 ^ (0 + 4))), z4)) := v1
          rw [u1, bnS, v1, bnS]
          exact ⟨_, _, _, _, .inr ⟨_, rfl, rfl⟩, hal⟩
    | succ e ih =>
      intro F G tI z al z2 he hF hG h1 h2
      obtain ⟨F, rfl⟩ : ∃ G, F = G + 1 := ⟨F - 1, by omega⟩
      obtain ⟨G, rfl⟩ : ∃ F, G = F + 1 := ⟨G - 1, by omega⟩
      have hp := pw10 (show e + 1 + 4 ≤ 10 by omega)
      have hp16 : 16 ≤ 2 ^ (e + 1 + 4) := Nat.pow_le_pow_right (n := 2) (by decide) (show 4 ≤ e + 1 + 4 by omega)
      have hm : mdl (upd al 4211 (nI (2 ^ (e + 1 + 4)))) 4211 (upN1 (upN1 N 2 0) 0 (2 ^ (e + 1 + 4))) := by
        refine ⟨by decide, fun k hk => ?_⟩
        by_cases ek : k = 0
        · subst ek; exact ux_at _ _ _
        · rw [ux_ne (by omega), h2 k (by omega) hk]
          unfold upN1; rw [if_neg ek]
      have X := x_m29 (okX (e + 1) (by omega)) (nu := x.1 2) (fun k k1 k2 => by rw [hnu k k2]; unfold upN1; rw [if_neg (by omega)]) p0 p1 4 FU 0 tI z (by omega) (by decide)
      have Y := y_m41 hm (okE (e + 1) (by omega)) p0 p1 4 FU 0 z2 (by omega) (by decide)
      have ew : ∀ f, mstQ (upN1 N 0 (2 ^ (e + 1 + 4))) (e + 1 + 4) p0 p1 f ↔ mstQ (upN1 (upN1 N 2 0) 0 (2 ^ (e + 1 + 4))) (e + 1 + 4) p0 p1 f := by
        intro f
        unfold mstQ
        rw [wi_cong (N := upN1 N 0 (2 ^ (e + 1 + 4))) (M := upN1 (upN1 N 2 0) 0 (2 ^ (e + 1 + 4))) rfl rfl rfl, he_cong (N := upN1 N 0 (2 ^ (e + 1 + 4))) (M := upN1 (upN1 N 2 0) 0 (2 ^ (e + 1 + 4))) rfl rfl]
      have hal : ∀ k, (k < 4211 ∨ 4257 ≤ k) → upd al 4211 (nI (2 ^ (e + 1 + 4))) k = y.1 1 k := fun k hk => by rw [ux_ne (by omega)]; exact h1 k hk
      have ed : nI (2 ^ (e + 1 + 4)) / (2 : Int32) = nI (2 ^ (e + 4)) := by
        have := pk_div (a := 2 ^ (e + 1 + 4)) (d := 2) (by omega) (by decide) (by decide)
        refine Eq.trans this ?_
        congr 1
        rw [show e + 1 + 4 = (e + 4) + 1 from by omega, Nat.pow_succ]
        omega
      rw [fX10_most_l19, fX11_most_l23, if_neg (show ¬ nI (2 ^ (e + 1 + 4)) < (16 : Int32) from nI_nlt (b := 16) hp16 (by omega)), if_neg (show ¬ nI (2 ^ (e + 1 + 4)) < (16 : Int32) from nI_nlt (b := 16) hp16 (by omega)), ed]
      rcases X with ⟨tJ, z3, u1, u2⟩ | ⟨tJ, z3, u1, f1, u2, u3, u4⟩
      · rcases Y with ⟨z4, v1, v2⟩ | ⟨z4, v1, f2, v2, v3, v4⟩
        · have u1 : fX10_most_l29 p0 p1 (nI (2 ^ (e + 1 + 4))) (x.1 2) FU (0 : Int32) tI z = some (.inl (tJ, z3)) := u1
          have v1 : fX11_most_l41 p0 p1 (nI (2 ^ (e + 1 + 4))) (upd al 4211 (nI (2 ^ (e + 1 + 4)))) FU (1 : Int32) z2 = some (.inl z4) := v1
          rw [u1, bnS, v1, bnS]
          exact ih F G tJ z3 _ z4 (by omega) (by omega) (by omega) hal (fun k k1 k2 => by rw [ux_ne (by omega)]; exact h2 k k1 k2)
        · exact absurd ((ew f2).mpr v4) (u2 f2 v2 v3)
      · rcases Y with ⟨z4, v1, v2⟩ | ⟨z4, v1, f2, v2, v3, v4⟩
        · exact absurd ((ew f1).mp u4) (v2 f1 u2 u3)
        · have u1 : fX10_most_l29 p0 p1 (nI (2 ^ (e + 1 + 4))) (x.1 2) FU (0 : Int32) tI z = some (.inr (nI (2 ^ (e + 1 + 4)), tJ, z3)) := u1
          have v1 : fX11_most_l41 p0 p1 (nI (2 ^ (e + 1 + 4))) (upd al 4211 (nI (2 ^ (e + 1 + 4)))) FU (1 : Int32) z2 = some (.inr (nI (2 ^ (e + 1 + 4)), upd al 4211 (nI (2 ^ (e + 1 + 4))), z4)) := v1
          rw [u1, bnS, v1, bnS]
          exact ⟨_, _, _, _, .inr ⟨_, rfl, rfl⟩, hal⟩
  obtain ⟨tJ, z3, al2, z4, u, uk⟩ := loop 6 FU FU (x.1 17) (x.1 18) (upd al1 4213 (0 : Int32)) (y.1 4) (by decide) (by decide) (by decide) (fun k hk => by rw [ux_ne (by omega), q2, if_neg (by omega)]) (fun k k1 k2 => by
    by_cases ek : k = 2
    · subst ek; exact ux_at _ _ _
    · rw [ux_ne (by omega), q2, if_pos (by omega), show 0 + (4211 + k - 4211) = k from by omega, al_k hY k2]
      unfold upN1; rw [if_neg ek])
  rcases u with ⟨u1, u2⟩ | ⟨v, u1, u2⟩
  · have u1 : fX10_most_l19 p0 p1 (x.1 2) FU (1024 : Int32) (x.1 17) (x.1 18) = some (.inl (tJ, z3)) := u1
    have u2 : fX11_most_l23 p0 p1 FU (1024 : Int32) (upd al1 4213 (0 : Int32)) (y.1 4) = some (.inl (al2, z4)) := u2
    rw [u1, bnS, u2, bnS]
    exact ⟨_, _, rfl, rfl, rfl, out al2 uk z4⟩
  · have u1 : fX10_most_l19 p0 p1 (x.1 2) FU (1024 : Int32) (x.1 17) (x.1 18) = some (.inr (v, tJ, z3)) := u1
    have u2 : fX11_most_l23 p0 p1 FU (1024 : Int32) (upd al1 4213 (0 : Int32)) (y.1 4) = some (.inr (v, al2, z4)) := u2
    rw [u1, bnS, u2, bnS]
    exact ⟨_, _, rfl, rfl, rfl, out al2 uk z4⟩
