/-! ===== view 1 ===== -/
theorem jT_0 {tI tb yI vw : Nat → Int32} (h1 : tI 1 = 0) (h2 : yI 21 = 0) : jT 0 tI tb yI vw := ⟨[], Nat.le_refl _, fun i hi => absurd hi (Nat.not_lt_zero i), ⟨h1, fun i hi => absurd hi (Nat.not_lt_zero i)⟩, h2, fun i hi => absurd hi (Nat.not_lt_zero i)⟩
theorem j_made {N R C B : Nat → Nat} {w f nb : Nat} {nu wI rI rr rc al : Nat → Int32} (hP : memP N R C B w f nb) (hnu : ∀ k, k < 9 → nu k = nI (N k)) (hY : memY al 0 N R C B nb) (hwr : wirR wI rI rr rc N R C w f nb) (fI fz tI tb yI sz gr gc nr vw : Nat → Int32) : ∃ fI2 fz2 tJ tb2 yJ sz2 gr2 gc2 nr2 v2, fX10_tellMade nu wI rI fI fz tI tb = some (fI2, fz2, tJ, tb2) ∧ fX11_laysView yI al sz gr gc nr vw (1 : Int32) = some (yJ, sz2, gr2, gc2, nr2, v2) ∧ jT 400 tJ tb2 yJ v2 ∧ ∀ i, i < 11 → yJ i = yI i := by
  obtain ⟨ok, hM, hmx, hb, hfit, hds⟩ := hP
  obtain ⟨hW, hG, hbs, hfw⟩ := hwr
  have g := gOk_of hbs hfit
  have gl := gR_le g ok
  have hsg : sgN N w f ≤ 8 := (stg_b (w - f) (CC N f)).2
  have hp : 2 ^ (w - f) ≤ 512 := Nat.le_trans (Nat.pow_le_pow_right (n := 2) (by decide) hM.2.2) (by decide)
  have hp2 : N 1 * 2 ^ f ≤ 32 * 8 := Nat.mul_le_mul ok.2.2.2.2.1 (p2f hM.1).2
  obtain ⟨y1, z1, gr1, gc1, nr1, l1, l2, l3, -, l5⟩ := y_laysAll hY.2.1 ok hmx hb hY.2.2 (upd yI 21 (0 : Int32)) sz gr gc nr
  obtain ⟨y14, y11, y12, -, -⟩ := l3
  obtain ⟨x4, x2, x3, -, -⟩ := hG
  generalize gvn R C nb (N 3) (N 4) = bs at *
  obtain ⟨r, fJ, fzJ, m1, m2, m3⟩ := x_make ok (p0 := nu) (fun k _ hk => hnu k hk) hM.1 fI fz
  have hF := m3 hM
  have hF' := hF
  obtain ⟨⟨h1, h2, h3, h4, h5, h6, h9, h10, h11⟩, ⟨h12, h13, h14, h15, h16, h17⟩, hz⟩ := hF
  have e0 : nu 0 = nI (2 ^ w) := by rw [hnu 0 (by decide), ok.1]
  unfold fX10_tellMade fX11_laysView
  rw [e0, hW.1, m1, bnS, l1, bnS]
  unfold fX8_tellMade
  dsimp only
  rw [h12, h13, x_cycle hF', h1, h2, h9, x2, x3, l2]
  have er : fX4_readTime fJ = coN N w f + faN N w f := by
    unfold fX4_readTime
    rw [h11, h14, h15, h16]
    exact i4 (deN N w f + wrN N f) (faN N w f) (20 : Int32) ((5 : Int32) * nI f)
  rw [er, if_neg (show ¬ (1 : Int32) = 0 from by decide)]
  obtain ⟨z2, w1, -⟩ := y_width hY.2.1 ok hM z1
  have w1 : fX11_width al z1 (0 : Int32) (nI (2 ^ f)) = some (wiN N w f, z2) := w1
  have w2 : fX11_height al (0 : Int32) (nI (2 ^ f)) = some (heN N w f) := y_height hY.2.1 ok hM
  have w3 : fX11_common al (0 : Int32) (nI (2 ^ f)) = some (coN N w f) := y_common hY.2.1 ok hM
  have w4 : fX11_fall al (0 : Int32) (nI (2 ^ f)) = some (faN N w f) := y_fall hY.2.1 ok hM
  have w5 : fX11_cycle al (0 : Int32) (nI (2 ^ f)) = some (cyN N w f) := y_cycle hY.2.1 ok hM
  have w6 : fX11_rows al (0 : Int32) (nI (2 ^ f)) = some (nI (2 ^ (w - f))) := y_rows hY.2.1 ok hM.1
  have w7 : fX11_columns al (0 : Int32) (nI (2 ^ f)) = some (nI (N 1 * 2 ^ f)) := y_columns hY.2.1 ok
  have w8 : fX11_stages al (0 : Int32) (nI (2 ^ f)) = some (nI (sgN N w f)) := y_stages hY.2.1 ok hM.1 hM.2.1 hM.2.2
  obtain ⟨z3, w9, w10⟩ := y_sizes hY.2.1 ok hM.1 hM.2.1 hM.2.2 z2
  have w9 : fX11_laysSizes al z2 (0 : Int32) (nI (2 ^ f)) = some z3 := w9
  have j0 : jT 0 (upd tI 1 (0 : Int32)) tb y1 vw := jT_0 (ux_at _ _ _) ((l5 21 (by decide)).trans (ux_at _ _ _))
  obtain ⟨ta, ba, ya, va, pa, qa, ja, ka⟩ := j_pair wd_11 (sm_wi ok hM) (sm_he ok hM) (by decide) j0
  have qa : fX11_line y1 vw (381245 : Int64) (wiN N w f) (heN N w f) (-1 : Int32) = some (ya, va) := qa
  obtain ⟨tb', bb, yb, vb, pb, qb, jb, kb⟩ := j_pair wd_9 (sm_le (sm_add (sm_co ok hM) (sm_fa ok hM)) (by decide)) (sm_cy ok hM) (by decide) ja
  have qb : fX11_line ya va (400577 : Int64) (coN N w f + faN N w f) (cyN N w f) (-1 : Int32) = some (yb, vb) := qb
  obtain ⟨tc, bc, yc, vc, pc, qc, jc, kc⟩ := j_pair wd_12 (sm_le (sm_n (2 ^ (w - f))) (by omega)) (sm_le (sm_n (gR R C nb bs)) (by omega)) (by decide) jb
  have qc : fX11_line yb vb (365869 : Int64) (nI (2 ^ (w - f))) (nI (gR R C nb bs)) (-1 : Int32) = some (yc, vc) := qc
  obtain ⟨td, bd, yd, vd, pd, qd, jd, kd⟩ := j_pair wd_13 (sm_le (sm_n (N 1 * 2 ^ f)) (by omega)) (sm_le (sm_n (gC bs)) (by omega)) (by decide) jc
  have qd : fX11_line yc vc (1384295581 : Int64) (nI (N 1 * 2 ^ f)) (nI (gC bs)) (-1 : Int32) = some (yd, vd) := qd
  obtain ⟨te, be, ye, ve, pe, qe, je, ke⟩ := j_word wd_14 (by decide) jd
  have qe : fX11_word yd vd (283282993 : Int64) = some (ye, ve) := qe
  obtain ⟨tf, bf, yf, vf, pf, qf, jf, kf⟩ := j_numS (sm_le (sm_n (sgN N w f)) (by omega)) (by decide) je
  obtain ⟨tg, bg, yg, vg, pg, qg, jg, kg⟩ := j_sizes ok hM h9 hz w10 (sgN N w f) FU FU 0 _ tf bf yf vf (by omega) (by show _ < 4294967296; omega) (by show _ < 4294967296; omega) (by omega) jf
  have pg : fX8_tellMade_l77 fJ fzJ FU (0 : Int32) tf bf = some (tg, bg) := pg
  have qg : fX11_laysView_l369 (nI (sgN N w f)) z3 FU (0 : Int32) yf vf = some (yg, vg) := qg
  obtain ⟨th, bh, yh, vh, ph, qh, jh, kh⟩ := j_sign 59 jg (by omega) (by decide)
  have ph : fX8_putSign tg bg (59 : Int32) = some (th, bh) := ph
  have qh : fX11_adds yg vg (59 : Int32) = some (yh, vh) := qh
  have a19 : ya 19 = nI (2 ^ f) := (ka 19 (by decide)).trans l2
  have b19 : yb 19 = nI (2 ^ f) := (kb 19 (by decide)).trans a19
  have b11 : yb 11 = nI (gR R C nb bs) := (kb 11 (by decide)).trans ((ka 11 (by decide)).trans y11)
  have c19 : yc 19 = nI (2 ^ f) := (kc 19 (by decide)).trans b19
  have c12 : yc 12 = nI (gC bs) := (kc 12 (by decide)).trans ((kb 12 (by decide)).trans ((ka 12 (by decide)).trans y12))
  have d19 : yd 19 = nI (2 ^ f) := (kd 19 (by decide)).trans c19
  have e19 : ye 19 = nI (2 ^ f) := (ke 19 (by decide)).trans d19
  have f19 : yf 19 = nI (2 ^ f) := (kf 19 (by decide)).trans e19
  rw [pa, bnS, bnS, w1, bnS, w2, bnS]
  dsimp only
  rw [pb, bnS, qa, bnS]
  dsimp only
  rw [a19, w3, bnS, w4, bnS, w5, bnS, pc, bnS, qb, bnS]
  dsimp only
  rw [b19, b11, w6, bnS, pd, bnS, qc, bnS]
  dsimp only
  rw [c19, c12, w7, bnS, pe, bnS, qd, bnS]
  dsimp only
  rw [pf, bnS, qe, bnS]
  dsimp only
  rw [e19, w8, bnS, pg, bnS, qf, bnS]
  dsimp only
  rw [f19, w9, bnS, ph, bnS, qg, bnS]
  dsimp only
  rw [bnS]
  dsimp only
  rw [qh, bnS]
  refine ⟨_, _, _, _, _, _, _, _, _, _, rfl, rfl, jT_le jh (by omega), fun i hi => ?_⟩
  have n21 : i ≠ 21 := by omega
  exact (kh i n21).trans ((kg i n21).trans ((kf i n21).trans ((ke i n21).trans ((kd i n21).trans ((kc i n21).trans ((kb i n21).trans ((ka i n21).trans ((l5 i (.inl hi)).trans (ux_ne n21)))))))))
/-! ===== view 0 ===== -/
theorem l23_0 (nu t b : Nat → Int32) : fX8_tellSpec_l23 (nI 6) nu FU (0 : Int32) t b = some (t, b) := by
  show fX8_tellSpec_l23 (nI 6) nu (4294967295 + 1) (0 : Int32) t b = _
  rw [fX8_tellSpec_l23, gdN (show 6 < 8 by decide) (by decide), nI_clamp (by decide), if_pos (show (sV 4).getD 6 0 ≤ (0 : Int32) from by decide)]
theorem l23_1 {i k : Nat} (hi : i < 8) (hk : k < 9) (h4 : (sV 4).getD i 0 = 1) (h3 : (sV 3).getD i 0 = nI k) (nu t b : Nat → Int32) : fX8_tellSpec_l23 (nI i) nu FU (0 : Int32) t b = bn (fX8_putNumber t b (nu k)) fun a8 => some (a8.1, a8.2) := by
  show fX8_tellSpec_l23 (nI i) nu (4294967294 + 1 + 1) (0 : Int32) t b = _
  rw [fX8_tellSpec_l23, gdN hi (by decide), gdN hi (by decide), nI_clamp (by omega), h4, h3, if_neg (show ¬ (1 : Int32) ≤ (0 : Int32) from by decide), show nI k + (0 : Int32) = nI k from nI_add k 0, gdN hk (by decide), nI_clamp (by omega)]
  cases fX8_putNumber t b (nu k) with
  | none => rfl
  | some a =>
    rw [bnS, bnS, fX8_tellSpec_l23, gdN hi (by decide), nI_clamp (by omega), h4, if_pos (show (1 : Int32) ≤ (0 : Int32) + (1 : Int32) from by decide)]
theorem l23_2 {i k : Nat} (hi : i < 8) (hk : k + 1 < 9) (h4 : (sV 4).getD i 0 = 2) (h3 : (sV 3).getD i 0 = nI k) (nu t b : Nat → Int32) : fX8_tellSpec_l23 (nI i) nu FU (0 : Int32) t b = bn (fX8_putNumber t b (nu k)) fun a8 => bn (fX8_putNumber a8.1 a8.2 (nu (k + 1))) fun a9 => some (a9.1, a9.2) := by
  show fX8_tellSpec_l23 (nI i) nu (4294967293 + 1 + 1 + 1) (0 : Int32) t b = _
  rw [fX8_tellSpec_l23, gdN hi (by decide), gdN hi (by decide), nI_clamp (by omega), h4, h3, if_neg (show ¬ (2 : Int32) ≤ (0 : Int32) from by decide), show nI k + (0 : Int32) = nI k from nI_add k 0, gdN (by omega) (by decide), nI_clamp (by omega)]
  cases fX8_putNumber t b (nu k) with
  | none => rfl
  | some a =>
    rw [bnS, bnS, fX8_tellSpec_l23, gdN hi (by decide), gdN hi (by decide), nI_clamp (by omega), h4, h3, if_neg (show ¬ (2 : Int32) ≤ (0 : Int32) + (1 : Int32) from by decide), show nI k + ((0 : Int32) + (1 : Int32)) = nI (k + 1) from nI_add k 1, gdN hk (by decide), nI_clamp (by omega)]
    cases fX8_putNumber a.1 a.2 (nu (k + 1)) with
    | none => rfl
    | some c =>
      rw [bnS, bnS, fX8_tellSpec_l23, gdN hi (by decide), nI_clamp (by omega), h4, if_pos (show (2 : Int32) ≤ (0 : Int32) + (1 : Int32) + (1 : Int32) from by decide)]
theorem j_l1 {i k v W n F : Nat} {nu tI tb yI vw : Nat → Int32} (hi : i < 6) (hk : k < 9) (h4 : (sV 4).getD i 0 = 1) (h3 : (sV 3).getD i 0 = nI k) (hlw : fX10_lineWord (nI i) = i) (hw : wdP i W) (hnu : nu k = nI v) (hv : v < 10000) (hn : n + 13 ≤ 400) (h : jT n tI tb yI vw) : ∃ tJ tb2 yJ v2, fX8_tellSpec_l7 nu (F + 1) (nI i) tI tb = fX8_tellSpec_l7 nu F (nI (i + 1)) tJ tb2 ∧ fX11_line yI vw (lN W) (nI v) (-1 : Int32) (-1 : Int32) = some (yJ, v2) ∧ jT (n + 13) tJ tb2 yJ v2 ∧ ∀ i, i ≠ 21 → yJ i = yI i := by
  obtain ⟨t1, b1, y1, v1, q1, q2, q3, q4⟩ := j_word hw (by omega) h
  obtain ⟨t2, b2, y2, v2, r1, r2, r3, r4⟩ := j_num (v := v) (d := 3) (by omega) hv (by omega) q3
  obtain ⟨t3, b3, y3, v3, s1, s2, s3, s4⟩ := j_sign 59 r3 (by omega) (by decide)
  have s1 : fX8_putSign t2 b2 (59 : Int32) = some (t3, b3) := s1
  have s2 : fX11_adds y2 v2 (59 : Int32) = some (y3, v3) := s2
  unfold fX11_line fX11_line_j22
  rw [fX8_tellSpec_l7, if_neg (show ¬ (7 : Int32) ≤ nI i from nI_ge (b := 7) (by omega) (by decide)), hlw, q1, bnS, q2, bnS, l23_1 (by omega) hk h4 h3, hnu]
  dsimp only
  rw [r1, bnS, bnS, r2, bnS, if_neg (show ¬ nI i = (6 : Int32) from fun e => by have := (nI_eq (b := 6) (by omega) (by decide)).mp e; omega), if_pos rfl, if_pos rfl]
  dsimp only
  rw [s1, bnS, s2, bnS, show nI i + (1 : Int32) = nI (i + 1) from nI_1 i]
  exact ⟨_, _, _, _, rfl, rfl, jT_le s3 (by omega), fun i hi => (s4 i hi).trans ((r4 i hi).trans (q4 i hi))⟩
theorem j_l2 {i k v u W n F : Nat} {nu tI tb yI vw : Nat → Int32} (hi : i < 6) (hk : k + 1 < 9) (h4 : (sV 4).getD i 0 = 2) (h3 : (sV 3).getD i 0 = nI k) (hlw : fX10_lineWord (nI i) = i) (hw : wdP i W) (hnu : nu k = nI v) (hnu2 : nu (k + 1) = nI u) (hv : v < 10000) (hu : u < 10000) (hn : n + 18 ≤ 400) (h : jT n tI tb yI vw) : ∃ tJ tb2 yJ v2, fX8_tellSpec_l7 nu (F + 1) (nI i) tI tb = fX8_tellSpec_l7 nu F (nI (i + 1)) tJ tb2 ∧ fX11_line yI vw (lN W) (nI v) (nI u) (-1 : Int32) = some (yJ, v2) ∧ jT (n + 18) tJ tb2 yJ v2 ∧ ∀ i, i ≠ 21 → yJ i = yI i := by
  obtain ⟨t1, b1, y1, v1, q1, q2, q3, q4⟩ := j_word hw (by omega) h
  obtain ⟨t2, b2, y2, v2, r1, r2, r3, r4⟩ := j_num (v := v) (d := 3) (by omega) hv (by omega) q3
  obtain ⟨t4, b4, y4, v4, u1, u2, u3, u4⟩ := j_num (v := u) (d := 3) (by omega) hu (by omega) r3
  obtain ⟨t3, b3, y3, v3, s1, s2, s3, s4⟩ := j_sign 59 u3 (by omega) (by decide)
  have s1 : fX8_putSign t4 b4 (59 : Int32) = some (t3, b3) := s1
  have s2 : fX11_adds y4 v4 (59 : Int32) = some (y3, v3) := s2
  unfold fX11_line fX11_line_j22
  rw [fX8_tellSpec_l7, if_neg (show ¬ (7 : Int32) ≤ nI i from nI_ge (b := 7) (by omega) (by decide)), hlw, q1, bnS, q2, bnS, l23_2 (by omega) hk h4 h3, hnu, hnu2]
  dsimp only
  rw [r1, bnS]
  dsimp only
  rw [u1, bnS, bnS, r2, bnS, if_neg (show ¬ nI i = (6 : Int32) from fun e => by have := (nI_eq (b := 6) (by omega) (by decide)).mp e; omega), if_neg (nI_m1 (by omega))]
  dsimp only
  rw [s1, bnS, u2, bnS, if_pos rfl]
  dsimp only
  rw [s2, bnS, show nI i + (1 : Int32) = nI (i + 1) from nI_1 i]
  exact ⟨_, _, _, _, rfl, rfl, jT_le s3 (by omega), fun i hi => (s4 i hi).trans ((u4 i hi).trans ((r4 i hi).trans (q4 i hi)))⟩
theorem j_bads {R C B : Nat → Nat} {nb : Nat} {sI br bc bb al : Nat → Int32} (hb : okBd nb R C B) (hx : xBd sI br bc bb nb R C B) (hy : yBd al 0 nb R C B) : ∀ (d F G k n : Nat) (tI tb yI vw : Nat → Int32), k + d = nb → d < F → d < G → n + 20 * d ≤ 400 → jT n tI tb yI vw → ∃ tJ tb2 yJ v2, fX8_tellSpec_l94 sI br bc bb F (nI k) tI tb = some (tJ, tb2) ∧ fX11_laysView_l176 al G (nI k) yI vw = some (yJ, v2) ∧ jT (n + 20 * d) tJ tb2 yJ v2 ∧ ∀ i, i ≠ 21 → yJ i = yI i := by
  have hb1 := hb.1
  have hy9 : al 9 = nI nb := hy.1
  intro d
  induction d with
  | zero =>
    intro F G k n tI tb yI vw e1 e2 e3 hn h
    obtain ⟨F, rfl⟩ : ∃ G, F = G + 1 := ⟨F - 1, by omega⟩
    obtain ⟨G, rfl⟩ : ∃ F, G = F + 1 := ⟨G - 1, by omega⟩
    rw [fX8_tellSpec_l94, fX11_laysView_l176, hx.1, hy9, if_pos (nI_le (by omega) (by omega)), if_pos (nI_le (by omega) (by omega))]
    exact ⟨_, _, _, _, rfl, rfl, h, fun _ _ => rfl⟩
  | succ d ih =>
    intro F G k n tI tb yI vw e1 e2 e3 hn h
    obtain ⟨F, rfl⟩ : ∃ G, F = G + 1 := ⟨F - 1, by omega⟩
    obtain ⟨G, rfl⟩ : ∃ F, G = F + 1 := ⟨G - 1, by omega⟩
    have hk := hb.2 k (by omega)
    have hkx := hx.2 k (by omega)
    have hky := hy.2 k (by omega)
    obtain ⟨t1, b1, y1, v1, q1, q2, q3, q4⟩ := j_word wd_7 (by omega) h
    have q2 : fX11_word yI vw (1489 : Int64) = some (y1, v1) := q2
    obtain ⟨t2, b2, y2, v2, r1, r2, r3, r4⟩ := j_num (v := R k) (d := 2) (by omega) (by omega) (by omega) q3
    obtain ⟨t4, b4, y4, v4, u1, u2, u3, u4⟩ := j_num (v := C k) (d := 2) (by omega) (by omega) (by omega) r3
    obtain ⟨t5, b5, y5, v5, w1, w2, w3, w4⟩ := j_num (v := B k) (d := 2) (by omega) (by omega) (by omega) u3
    obtain ⟨t3, b3, y3, v3, s1, s2, s3, s4⟩ := j_sign 59 w3 (by omega) (by decide)
    have s1 : fX8_putSign t5 b5 (59 : Int32) = some (t3, b3) := s1
    have s2 : fX11_adds y5 v5 (59 : Int32) = some (y3, v3) := s2
    rw [fX8_tellSpec_l94, fX11_laysView_l176, hx.1, hy9, if_neg (nI_ge (by omega) (by omega)), if_neg (nI_ge (by omega) (by omega)), show fX10_lineWord (7 : Int32) = 7 from rfl, q1, bnS, badAtN, show nI (0 + 10 + 3 * k) + (1 : Int32) = nI (0 + 10 + 3 * k + 1) from nI_1 _, show nI (0 + 10 + 3 * k) + (2 : Int32) = nI (0 + 10 + 3 * k + 2) from nI_add _ 2, gdN (show 0 + 10 + 3 * k < 43047 by omega) (by decide), gdN (show 0 + 10 + 3 * k + 1 < 43047 by omega) (by decide), gdN (show 0 + 10 + 3 * k + 2 < 43047 by omega) (by decide), gdN (show k < 12 by omega) (by decide), nI_clamp (show 0 + 10 + 3 * k < 2 ^ 31 by omega), nI_clamp (show 0 + 10 + 3 * k + 1 < 2 ^ 31 by omega), nI_clamp (show 0 + 10 + 3 * k + 2 < 2 ^ 31 by omega), nI_clamp (show k < 2 ^ 31 by omega), hkx.1, hkx.2.1, hkx.2.2, hky.1, hky.2.1, hky.2.2]
    dsimp only
    rw [r1, bnS, gdN (show k < 12 by omega) (by decide)]
    dsimp only
    rw [u1, bnS, gdN (show k < 12 by omega) (by decide)]
    dsimp only
    rw [w1, bnS]
    dsimp only
    rw [s1, bnS]
    unfold fX11_line fX11_line_j22
    rw [q2, bnS]
    dsimp only
    rw [r2, bnS, if_neg (nI_m1 (by omega))]
    dsimp only
    rw [u2, bnS, if_neg (nI_m1 (by omega))]
    dsimp only
    rw [w2, bnS]
    dsimp only
    rw [s2, bnS, bnS, show nI k + (1 : Int32) = nI (k + 1) from nI_1 k]
    obtain ⟨t6, b6, y6, v6, o1, o2, o3, o4⟩ := ih F G (k + 1) (n + 20) t3 b3 y3 v3 (by omega) (by omega) (by omega) (by omega) (jT_le s3 (by omega))
    exact ⟨t6, b6, y6, v6, o1, o2, jT_le o3 (by omega), fun i hi => (o4 i hi).trans ((s4 i hi).trans ((w4 i hi).trans ((u4 i hi).trans ((r4 i hi).trans (q4 i hi)))))⟩
theorem j_spec {N R C B : Nat → Nat} {w f nb : Nat} {sI nu br bc bb al : Nat → Int32} (hP : memP N R C B w f nb) (hnu : ∀ k, k < 9 → nu k = nI (N k)) (hx : xBd sI br bc bb nb R C B) (hY : memY al 0 N R C B nb) (tI tb yI sz gr gc nr vw : Nat → Int32) : ∃ tJ tb2 yJ sz2 gr2 gc2 nr2 v2, fX8_tellSpec tI tb sI nu br bc bb = some (tJ, tb2) ∧ fX11_laysView yI al sz gr gc nr vw (0 : Int32) = some (yJ, sz2, gr2, gc2, nr2, v2) ∧ jT 400 tJ tb2 yJ v2 ∧ ∀ i, i < 11 → yJ i = yI i := by
  obtain ⟨ok, hM, hmx, hb, hfit, hds⟩ := hP
  have hb1 := hb.1
  have hw := pw10 ok.2.2.1
  obtain ⟨n0, nw1, nw2, n1, n1', n2, n3, n4, n5, n5', n6, n6', n7, n8⟩ := ok
  have ok : okN N w := ⟨n0, nw1, nw2, n1, n1', n2, n3, n4, n5, n5', n6, n6', n7, n8⟩
  have n2' : N 2 ≤ 8 := by
    rcases n2 with e | ⟨g, hg, e⟩
    · omega
    · have := p2f hg; omega
  obtain ⟨y1, z1, gr1, gc1, nr1, l1, l2, l3, -, l5⟩ := y_laysAll hY.2.1 ok hmx hb hY.2.2 (upd yI 21 (0 : Int32)) sz gr gc nr
  have j0 : jT 0 (upd tI 1 (0 : Int32)) tb y1 vw := jT_0 (ux_at _ _ _) ((l5 21 (by decide)).trans (ux_at _ _ _))
  have ak := fun k (hk : k < 9) => al_k hY hk
  obtain ⟨ta, ba, ya, va, pa, qa, ja, ka⟩ := j_l1 (i := 0) (k := 0) (v := N 0) (F := 4294967295) (by decide) (by decide) rfl rfl rfl wd_0 (hnu 0 (by decide)) (by omega) (by decide) j0
  obtain ⟨tb', bb', yb, vb, pb, qb, jb, kb⟩ := j_l1 (i := 0 + 1) (k := 1) (v := N 1) (F := 4294967294) (by decide) (by decide) rfl rfl rfl wd_1 (hnu 1 (by decide)) (by omega) (by decide) ja
  obtain ⟨tc, bc', yc, vc, pc, qc, jc, kc⟩ := j_l1 (i := 0 + 1 + 1) (k := 2) (v := N 2) (F := 4294967293) (by decide) (by decide) rfl rfl rfl wd_2 (hnu 2 (by decide)) (by omega) (by decide) jb
  obtain ⟨td, bd, yd, vd, pd, qd, jd, kd⟩ := j_l2 (i := 0 + 1 + 1 + 1) (k := 3) (v := N 3) (u := N 4) (F := 4294967292) (by decide) (by decide) rfl rfl rfl wd_3 (hnu 3 (by decide)) (hnu 4 (by decide)) (by omega) (by omega) (by decide) jc
  obtain ⟨te, be, ye, ve, pe, qe, je, ke⟩ := j_l2 (i := 0 + 1 + 1 + 1 + 1) (k := 5) (v := N 5) (u := N 6) (F := 4294967291) (by decide) (by decide) rfl rfl rfl wd_4 (hnu 5 (by decide)) (hnu 6 (by decide)) (by omega) (by omega) (by decide) jd
  obtain ⟨tf, bf, yf, vf, pf, qf, jf, kf⟩ := j_l1 (i := 0 + 1 + 1 + 1 + 1 + 1) (k := 7) (v := N 7) (F := 4294967290) (by decide) (by decide) rfl rfl rfl wd_5 (hnu 7 (by decide)) (by omega) (by decide) je
  obtain ⟨tg, bg, yg, vg, pg, qg, jg, kg⟩ := j_word wd_6 (by decide) jf
  obtain ⟨th, bh, yh, vh, ph, qh, jh, kh⟩ := j_sign 32 jg (by decide) (by decide)
  have ph : fX8_putSign tg bg (32 : Int32) = some (th, bh) := ph
  have qh : fX11_adds yg vg (32 : Int32) = some (yh, vh) := qh
  have qa : fX11_line y1 vw (12531637 : Int64) (nI (N 0)) (-1 : Int32) (-1 : Int32) = some (ya, va) := qa
  have qb : fX11_line ya va (46486 : Int64) (nI (N 1)) (-1 : Int32) (-1 : Int32) = some (yb, vb) := qb
  have qc : fX11_line yb vb (10068 : Int64) (nI (N 2)) (-1 : Int32) (-1 : Int32) = some (yc, vc) := qc
  have qd : fX11_line yc vc (10413527 : Int64) (nI (N 3)) (nI (N 4)) (-1 : Int32) = some (yd, vd) := qd
  have qe : fX11_line yd vd (63030 : Int64) (nI (N 5)) (nI (N 6)) (-1 : Int32) = some (ye, ve) := qe
  have qf : fX11_line ye ve (187426886 : Int64) (nI (N 7)) (-1 : Int32) (-1 : Int32) = some (yf, vf) := qf
  have qg : fX11_word yf vf (459791 : Int64) = some (yg, vg) := qg
  -- the word of the wish
  obtain ⟨X, W, hXW, eX, eY⟩ : ∃ X W, wdP X W ∧ fX10_wishWord (nI (N 8)) = X ∧ ∀ (A : Int64 → Option ((Nat → Int32) × (Nat → Int32) × (Nat → Int32) × (Nat → Int32) × (Nat → Int32) × (Nat → Int32))), (if nI (N 8) = 0 then A (32941 : Int64) else (if nI (N 8) = (1 : Int32) then A (400577 : Int64) else A (282078293 : Int64))) = A (lN W) := by
    have e : N 8 = 0 ∨ N 8 = 1 ∨ N 8 = 2 := by omega
    rcases e with e | e | e <;> rw [e]
    · exact ⟨8, 32941, wd_8, rfl, fun A => if_pos rfl⟩
    · exact ⟨9, 400577, wd_9, rfl, fun A => by rw [if_neg (show ¬ nI 1 = 0 from by decide), if_pos (show nI 1 = (1 : Int32) from rfl)]; rfl⟩
    · exact ⟨10, 282078293, wd_10, rfl, fun A => by rw [if_neg (show ¬ nI 2 = 0 from by decide), if_neg (show ¬ nI 2 = (1 : Int32) from by decide)]; rfl⟩
  obtain ⟨ti, bi', yi, vi, pi, qi, ji, ki⟩ := j_word hXW (by decide) jh
  obtain ⟨tj, bj, yj, vj, pj, qj, jj, kj⟩ := j_sign 59 ji (by decide) (by decide)
  have pj : fX8_putSign ti bi' (59 : Int32) = some (tj, bj) := pj
  have qj : fX11_adds yi vi (59 : Int32) = some (yj, vj) := qj
  obtain ⟨tk, bk, yk, vk, pk, qk, jk, kk⟩ := j_bads hb hx hY.2.2 nb FU FU 0 _ tj bj yj vj (by omega) (by show _ < 4294967296; omega) (by show _ < 4294967296; omega) (by omega) jj
  have pk : fX8_tellSpec_l94 sI br bc bb FU (0 : Int32) tj bj = some (tk, bk) := pk
  have qk : fX11_laysView_l176 al FU (0 : Int32) yj vj = some (yk, vk) := qk
  have l7 : fX8_tellSpec_l7 nu FU (0 : Int32) (upd tI 1 (0 : Int32)) tb = some (tj, bj) := by
    refine Eq.trans pa (Eq.trans pb (Eq.trans pc (Eq.trans pd (Eq.trans pe (Eq.trans pf ?_)))))
    show fX8_tellSpec_l7 nu (4294967288 + 1 + 1) (nI 6) tf bf = _
    rw [fX8_tellSpec_l7, if_neg (show ¬ (7 : Int32) ≤ nI 6 from by decide), show fX10_lineWord (nI 6) = 6 from rfl, pg, bnS, l23_0, bnS, if_pos (show nI 6 = (6 : Int32) from rfl)]
    dsimp only
    rw [ph, bnS, hnu 8 (by decide), eX]
    dsimp only
    rw [pi, bnS]
    dsimp only
    rw [pj, bnS, fX8_tellSpec_l7, if_pos (show (7 : Int32) ≤ nI 6 + (1 : Int32) from by decide)]
  unfold fX8_tellSpec fX11_laysView
  rw [l7, bnS, l1, bnS, if_pos rfl]
  dsimp only
  rw [pk, bnS, ak 0 (by decide), ak 1 (by decide), ak 2 (by decide), ak 3 (by decide), ak 4 (by decide), ak 5 (by decide), ak 6 (by decide), ak 7 (by decide), ak 8 (by decide), qa, bnS]
  dsimp only
  rw [qb, bnS]
  dsimp only
  rw [qc, bnS]
  dsimp only
  rw [qd, bnS]
  dsimp only
  rw [qe, bnS]
  dsimp only
  rw [qf, bnS]
  dsimp only
  rw [qg, bnS]
  dsimp only
  rw [qh, bnS]
  dsimp only
  rw [eY (fun s1 => fX11_laysView_j165 s1 yh al z1 gr1 gc1 nr1 vh)]
  unfold fX11_laysView_j165
  rw [qi, bnS]
  dsimp only
  rw [qj, bnS]
  dsimp only
  rw [qk, bnS]
  refine ⟨_, _, _, _, _, _, _, _, rfl, rfl, jT_le jk (by omega), fun i hi => ?_⟩
  have n21 : i ≠ 21 := by omega
  exact (kk i n21).trans ((kj i n21).trans ((ki i n21).trans ((kh i n21).trans ((kg i n21).trans ((kf i n21).trans ((ke i n21).trans ((kd i n21).trans ((kc i n21).trans ((kb i n21).trans ((ka i n21).trans ((l5 i (.inl hi)).trans (ux_ne n21))))))))))))
