/-! ===== numbers that are told are small ===== -/
def sm (x : Int32) (B : Nat) : Prop := ∃ v, v ≤ B ∧ x = nI v
theorem sm_n (v : Nat) : sm (nI v) v := ⟨v, Nat.le_refl _, rfl⟩
theorem sm_le {x : Int32} {A B : Nat} (h : sm x A) (hl : A ≤ B) : sm x B := by
  obtain ⟨v, h1, h2⟩ := h
  exact ⟨v, by omega, h2⟩
theorem sm_add {x y : Int32} {A B : Nat} (h : sm x A) (h2 : sm y B) : sm (x + y) (A + B) := by
  obtain ⟨v, h1, rfl⟩ := h
  obtain ⟨u, h3, rfl⟩ := h2
  exact ⟨v + u, by omega, nI_add v u⟩
theorem sm_mul {x y : Int32} {A B : Nat} (h : sm x A) (h2 : sm y B) : sm (x * y) (A * B) := by
  obtain ⟨v, h1, rfl⟩ := h
  obtain ⟨u, h3, rfl⟩ := h2
  exact ⟨v * u, Nat.mul_le_mul h1 h3, pk_mul v u⟩
theorem sm_div {x : Int32} {A d : Nat} (h : sm x A) (hA : A < 2 ^ 31) (h0 : 0 < d) (hd : d < 2 ^ 31) : sm (x / nI d) (A / d) := by
  obtain ⟨v, h1, rfl⟩ := h
  exact ⟨v / d, Nat.div_le_div_right h1, pk_div (by omega) h0 hd⟩
theorem sm_up {x : Int32} {A b c : Nat} (h : sm x A) (hc : 0 < c) (hb : c ≤ b) (hA : A + b < 2 ^ 31) : sm (upI x (nI b)) (A / c + 1) := by
  obtain ⟨v, h1, rfl⟩ := h
  unfold upI
  refine ⟨(v + b - 1) / b, ?_, ?_⟩
  · have e1 : (v + b - 1) / b ≤ (v + b) / b := Nat.div_le_div_right (by omega)
    have e2 : (v + b) / b = v / b + 1 := Nat.add_div_right v (by omega)
    have e3 : v / b ≤ v / c := Nat.div_le_div_left hb hc
    have e4 : v / c ≤ A / c := Nat.div_le_div_right h1
    omega
  · rw [nI_add, show (1 : Int32) = nI 1 from rfl, pk_sub (by omega), pk_div (by omega) (by omega) (by omega)]
section SMALL_
variable {l C : Nat}
theorem sm_T (h : okLC l C) : ∃ t, 30 ≤ t ∧ t ≤ 12288 ∧ szT l C = nI t := by
  have h1 := tS_10 h (stg_ok l C)
  have h2 : tS l C (stg l C) ≤ 4096 := Nat.le_trans (tS_ok h (stg_ok l C)).2 (by rcases stg_ok l C with e | e | e | e <;> rw [e] <;> decide)
  refine ⟨3 * tS l C (stg l C), by omega, by omega, ?_⟩
  unfold szT
  exact pk_mul 3 _
theorem sm_M (h : okLC l C) : ∀ q, q ≤ 8 → sm (szM (szT l C) (szTop l C) q) (432 + q) := by
  obtain ⟨t, t1, t2, t3⟩ := sm_T h
  have hb := bI_b l (by have := h.2.1; omega) h.1
  have hC := h.2.2.2.1
  unfold szTop
  rw [t3]
  intro q
  induction q with
  | zero =>
    intro _
    have e : sm (((10 : Int32) * nI C) * (nI (bI l) + (2 : Int32))) (10 * 259 * (3 + 2)) := sm_mul (sm_mul (sm_n 10) (sm_le (sm_n C) hC)) (sm_add (sm_le (sm_n (bI l)) hb.2) (sm_n 2))
    exact sm_le (sm_up (c := 30) e (by decide) t1 (by omega)) (by decide)
  | succ q ih =>
    intro hq
    rw [szM]
    have e : sm ((30 : Int32) * szM (nI t) (upI (((10 : Int32) * nI C) * (nI (bI l) + (2 : Int32))) (nI t)) q) (30 * (432 + q)) := sm_mul (sm_n 30) (ih (by omega))
    exact sm_le (sm_up (c := 30) e (by decide) t1 (by omega)) (by omega)
theorem sm_I (h : okLC l C) (k : Nat) : sm (szI l C k) 100000 := by
  have hs := stg_b l C
  unfold szI
  by_cases c : k = 0
  · rw [if_pos c]
    obtain ⟨t, t1, t2, t3⟩ := sm_T h
    have ha := aI_b l
    have hp : 2 ^ l ≤ 512 := Nat.le_trans (Nat.pow_le_pow_right (n := 2) (by decide) h.2.1) (by decide)
    have h4 : 4 ≤ 2 ^ aI l := Nat.pow_le_pow_right (n := 2) (by decide) ha.1
    have h5 : 2 ^ aI l ≤ 8 := Nat.le_trans (Nat.pow_le_pow_right (n := 2) (by decide) ha.2) (by decide)
    have e1 := sm_M h (stg l C - 2) (by omega)
    have e2 : sm (szM (szT l C) (szTop l C) (stg l C - 2) * nI (2 ^ l)) (440 * 512) := sm_mul (sm_le e1 (by omega)) (sm_le (sm_n _) hp)
    rw [shl1 (aI l) (by omega)]
    have e3 := sm_up (c := 4) e2 (by decide) h4 (by omega)
    have e4 : sm (((10 : Int32) * upI (szM (szT l C) (szTop l C) (stg l C - 2) * nI (2 ^ l)) (nI (2 ^ aI l))) * (nI (aI l) + (2 : Int32))) (10 * (440 * 512 / 4 + 1) * (3 + 2)) := sm_mul (sm_mul (sm_n 10) e3) (sm_add (sm_le (sm_n _) ha.2) (sm_n 2))
    rw [t3] at e4 ⊢
    exact sm_le (sm_up (c := 30) e4 (by decide) t1 (by omega)) (by decide)
  · rw [if_neg c]
    exact sm_le (sm_M h (stg l C - 1 - k) (by omega)) (by omega)
end SMALL_
section SMALL2_
variable {N : Nat → Nat} {w f : Nat}
theorem RR_le (ok : okN N w) (hM : okM w f) : RR N w f ≤ 517 := by
  have hp : 2 ^ (w - f) ≤ 512 := Nat.le_trans (Nat.pow_le_pow_right (n := 2) (by decide) hM.2.2) (by decide)
  have := ok.2.2.2.2.2.2.1
  unfold RR; omega
theorem CC_le (ok : okN N w) (hM : okM w f) : CC N f ≤ 259 := (okLC_of ok hM.1 hM.2.1 hM.2.2).2.2.2.1
theorem sm_wi (ok : okN N w) (hM : okM w f) : sm (wiN N w f) 900000000 := by
  have e1 : sm (nI (CC N f) * nI (N 5)) (259 * 20) := sm_mul (sm_le (sm_n _) (CC_le ok hM)) (sm_le (sm_n _) ok.2.2.2.2.2.2.2.2.2.1)
  have e2 : sm ((12 : Int32) * nI (w - f)) (12 * 10) := sm_mul (sm_n 12) (sm_le (sm_n _) (by have := hM.2.2; omega))
  exact sm_le (sm_add (sm_add e1 e2) (sm_I (okLC_of ok hM.1 hM.2.1 hM.2.2) _)) (by decide)
theorem sm_he (ok : okN N w) (hM : okM w f) : sm (heN N w f) 900000000 := by
  have e1 : sm (nI (RR N w f) * nI (N 6)) (517 * 20) := sm_mul (sm_le (sm_n _) (RR_le ok hM)) (sm_le (sm_n _) ok.2.2.2.2.2.2.2.2.2.2.2.1)
  have e2 : sm ((8 : Int32) * nI f) (8 * 3) := sm_mul (sm_n 8) (sm_le (sm_n _) hM.1)
  exact sm_le (sm_add (sm_add e1 (sm_n 30)) e2) (by decide)
theorem sm_de (ok : okN N w) (hM : okM w f) : sm (deN N w f) 40000 := by
  have hLC := okLC_of ok hM.1 hM.2.1 hM.2.2
  have ha := aI_b (w - f)
  have hb := bI_b (w - f) (by have := hM.2.2; omega) hM.2.1
  have hs := stg_b (w - f) (CC N f)
  have h2 : tS (w - f) (CC N f) (sgN N w f) ≤ 4096 := Nat.le_trans (tS_ok hLC (stg_ok _ _)).2 (by
    show Bd (sgN N w f) ≤ 4096
    unfold sgN
    rcases stg_ok (w - f) (CC N f) with e | e | e | e <;> rw [e] <;> decide)
  have hsg : sgN N w f ≤ 8 := hs.2
  have hsg2 : 2 ≤ sgN N w f := hs.1
  unfold deN dI
  have e1 : sm (nI (sgN N w f) * nI (tS (w - f) (CC N f) (sgN N w f))) (8 * 4096) := sm_mul (sm_le (sm_n _) hsg) (sm_le (sm_n _) h2)
  have e2 : ((nI (aI (w - f)) + nI (bI (w - f))) + nI (sgN N w f)) - (2 : Int32) = nI (aI (w - f) + bI (w - f) + sgN N w f - 2) := by
    rw [nI_add, nI_add]
    exact pk_sub (b := 2) (by omega)
  rw [e2]
  exact sm_le (sm_add e1 (sm_mul (sm_n 10) (sm_le (B := 20) (sm_n _) (by omega)))) (by decide)
theorem sm_co (ok : okN N w) (hM : okM w f) : sm (coN N w f) 100000 := by
  have hC := CC_le ok hM
  have e1 : sm (nI (CC N f) * nI (CC N f)) (259 * 259) := sm_mul (sm_le (sm_n _) hC) (sm_le (sm_n _) hC)
  have e2 : sm (wrN N f) (259 * 259 / 20) := sm_div e1 (by decide) (by decide) (by decide)
  exact sm_le (sm_add (sm_add (sm_add (sm_de ok hM) e2) (sm_n 20)) (sm_mul (sm_n 5) (sm_le (sm_n _) hM.1))) (by decide)
theorem sm_fa (ok : okN N w) (hM : okM w f) : sm (faN N w f) 2000 := sm_le (sm_mul (sm_n 3) (sm_le (sm_n _) (RR_le ok hM))) (by decide)
theorem sm_cy (ok : okN N w) (hM : okM w f) : sm (cyN N w f) 900000000 := by
  have hp := plN_b N w f
  have e1 : sm ((30 : Int32) * nI (RR N w f)) (30 * 517) := sm_mul (sm_n 30) (sm_le (sm_n _) (RR_le ok hM))
  have e2 := sm_div (d := plN N w f) e1 (by decide) (by omega) (by omega)
  have e3 : sm (rpN N w f (nI (plN N w f))) (40 + 30 * 517) := sm_add (sm_n 40) (sm_le e2 (Nat.div_le_self _ _))
  exact sm_le (sm_add (sm_co ok hM) e3) (by decide)
end SMALL2_
/-! ===== lines ===== -/
theorem j_numS {x : Int32} {n : Nat} {tI tb yI vw : Nat → Int32} (hx : sm x 900000000) (hn : n + 10 ≤ 400) (h : jT n tI tb yI vw) : ∃ tJ tb2 yJ v2, fX8_putNumber tI tb x = some (tJ, tb2) ∧ fX11_number yI vw x = some (yJ, v2) ∧ jT (n + 10) tJ tb2 yJ v2 ∧ ∀ i, i ≠ 21 → yJ i = yI i := by
  obtain ⟨v, h1, rfl⟩ := hx
  exact j_num (d := 8) (by omega) (by omega) hn h
theorem sm_no {x : Int32} (h : sm x 900000000) : ¬ x = (-1 : Int32) := by
  obtain ⟨v, h1, rfl⟩ := h
  exact nI_m1 (by omega)
theorem j_pair {x W n : Nat} {a b : Int32} {tI tb yI vw : Nat → Int32} (hw : wdP x W) (ha : sm a 900000000) (hb : sm b 900000000) (hn : n + 28 ≤ 400) (h : jT n tI tb yI vw) : ∃ tJ tb2 yJ v2, fX8_putPair tI tb x a b = some (tJ, tb2) ∧ fX11_line yI vw (lN W) a b (-1 : Int32) = some (yJ, v2) ∧ jT (n + 28) tJ tb2 yJ v2 ∧ ∀ i, i ≠ 21 → yJ i = yI i := by
  unfold fX8_putPair fX11_line fX11_line_j22
  obtain ⟨t1, b1, y1, v1, q1, q2, q3, q4⟩ := j_word hw (by omega) h
  obtain ⟨t2, b2, y2, v2, r1, r2, r3, r4⟩ := j_numS ha (by omega) q3
  obtain ⟨t3, b3, y3, v3, s1, s2, s3, s4⟩ := j_numS hb (by omega) r3
  obtain ⟨t4, b4, y4, v4, u1, u2, u3, u4⟩ := j_sign 59 s3 (by omega) (by decide)
  have u1 : fX8_putSign t3 b3 (59 : Int32) = some (t4, b4) := u1
  have u2 : fX11_adds y3 v3 (59 : Int32) = some (y4, v4) := u2
  rw [q1, bnS, q2, bnS]
  dsimp only
  rw [r1, bnS, r2, bnS, if_neg (sm_no hb)]
  dsimp only
  rw [s1, bnS, s2, bnS, if_pos rfl]
  dsimp only
  rw [u1, bnS, u2, bnS]
  exact ⟨_, _, _, _, rfl, rfl, jT_le u3 (by omega), fun i hi => (u4 i hi).trans ((s4 i hi).trans ((r4 i hi).trans (q4 i hi)))⟩
theorem j_sizes {N : Nat → Nat} {w f : Nat} {pI pz sz : Nat → Int32} (ok : okN N w) (hM : okM w f) (h9 : pI 9 = nI (sgN N w f)) (hz : ∀ k, k < sgN N w f → pz k = siN N w f k) (hs : ∀ k, k < sgN N w f → sz k = siN N w f k) : ∀ (d F G k n : Nat) (tI tb yI vw : Nat → Int32), k + d = sgN N w f → d < F → d < G → n + 10 * d ≤ 390 → jT n tI tb yI vw → ∃ tJ tb2 yJ v2, fX8_tellMade_l77 pI pz F (nI k) tI tb = some (tJ, tb2) ∧ fX11_laysView_l369 (nI (sgN N w f)) sz G (nI k) yI vw = some (yJ, v2) ∧ jT (n + 10 * d) tJ tb2 yJ v2 ∧ ∀ i, i ≠ 21 → yJ i = yI i := by
  have hsg : sgN N w f ≤ 8 := (stg_b (w - f) (CC N f)).2
  have hLC := okLC_of ok hM.1 hM.2.1 hM.2.2
  intro d
  induction d with
  | zero =>
    intro F G k n tI tb yI vw e1 e2 e3 hn h
    obtain ⟨F, rfl⟩ : ∃ G, F = G + 1 := ⟨F - 1, by omega⟩
    obtain ⟨G, rfl⟩ : ∃ F, G = F + 1 := ⟨G - 1, by omega⟩
    rw [fX8_tellMade_l77, fX11_laysView_l369, h9, if_pos (nI_le (by omega) (by omega)), if_pos (nI_le (by omega) (by omega))]
    exact ⟨_, _, _, _, rfl, rfl, h, fun _ _ => rfl⟩
  | succ d ih =>
    intro F G k n tI tb yI vw e1 e2 e3 hn h
    obtain ⟨F, rfl⟩ : ∃ G, F = G + 1 := ⟨F - 1, by omega⟩
    obtain ⟨G, rfl⟩ : ∃ F, G = F + 1 := ⟨G - 1, by omega⟩
    obtain ⟨t1, b1, y1, v1, q1, q2, q3, q4⟩ := j_numS (sm_le (sm_I hLC k) (by decide)) (by omega) h
    rw [fX8_tellMade_l77, fX11_laysView_l369, h9, if_neg (nI_ge (by omega) (by omega)), if_neg (show ¬ (8 : Int32) ≤ nI k from nI_ge (b := 8) (by omega) (by decide)), if_neg (nI_ge (by omega) (by omega)), gdN (by omega) (by decide), gdN (by omega) (by decide), nI_clamp (by omega), hz k (by omega), hs k (by omega)]
    have q1 : fX8_putNumber tI tb (siN N w f k) = some (t1, b1) := q1
    have q2 : fX11_number yI vw (siN N w f k) = some (y1, v1) := q2
    rw [q1, bnS, q2, bnS, show nI k + (1 : Int32) = nI (k + 1) from nI_1 k]
    obtain ⟨t2, b2, y2, v2, r1, r2, r3, r4⟩ := ih F G (k + 1) (n + 10) t1 b1 y1 v1 (by omega) (by omega) (by omega) (by omega) q3
    exact ⟨t2, b2, y2, v2, r1, r2, jT_le r3 (by omega), fun i hi => (r4 i hi).trans (q4 i hi)⟩
