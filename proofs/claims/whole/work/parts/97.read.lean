/-! ===== what is read: the reference ===== -/
section YRD_
variable {R C B N : Nat → Nat} {nb w f : Nat} {al : Nat → Int32}
theorem y_laysAll (hm : mdl al 0 N) (ok : okN N w) (hmx : mxN N w = nI (2 ^ f)) (hb : okBd nb R C B) (hy : yBd al 0 nb R C B) (tI z gr gc nr : Nat → Int32) : ∃ tJ z2 gr2 gc2 nr2, fX11_laysAll tI al z gr gc nr = some (tJ, z2, gr2, gc2, nr2) ∧ tJ 19 = nI (2 ^ f) ∧ yG R C nb (gvn R C nb (N 3) (N 4)) tJ gr2 gc2 ∧ bst R C nb (N 3) (N 4) (syS C nb nb) (gvn R C nb (N 3) (N 4)) ∧ ∀ i, (i < 11 ∨ 20 ≤ i) → tJ i = tI i := by
  unfold fX11_laysAll
  obtain ⟨z2, q1⟩ := y_mux hm ok z
  have q1 : fX11_mux al z (0 : Int32) = some (mxN N w, z2) := q1
  rw [q1, bnS]
  have h3 : al 3 = nI (N 3) := by have := hm.2 3 (by decide); rw [Nat.zero_add] at this; exact this
  have h4 : al 4 = nI (N 4) := by have := hm.2 4 (by decide); rw [Nat.zero_add] at this; exact this
  rw [h3]
  dsimp only
  obtain ⟨tJ, gr2, gc2, nr2, w1, w2, w3, w4⟩ := y_given (sp := N 3) (c4 := N 4) hb hy h4 ok.2.2.2.2.2.2.2.1 ok.2.2.2.2.2.2.1 (upd tI 19 (mxN N w)) gr gc nr
  rw [w1, bnS]
  refine ⟨tJ, z2, gr2, gc2, nr2, rfl, ?_, yG_of w2, w3, fun i hi => ?_⟩
  · rw [w4 19 (by omega), ux_at, hmx]
  · rw [w4 i (by omega), ux_ne (by omega)]
variable {bs : Option OF} {gr gc : Nat → Int32}
theorem yG_same {tI tJ : Nat → Int32} (h : yG R C nb bs tI gr gc) (hk : ∀ k, (k < 15 ∨ 19 ≤ k) → tJ k = tI k) : yG R C nb bs tJ gr gc := ⟨(hk 14 (by decide)).trans h.1, (hk 11 (by decide)).trans h.2.1, (hk 12 (by decide)).trans h.2.2.1, h.2.2.2⟩
/-- a cell goes to its place; what it tells -/
theorem y_goes (hm : mdl al 0 N) (ok : okN N w) (hf : okM w f) (hb : okBd nb R C B) (hy : yBd al 0 nb R C B) (hbs : bst R C nb (N 3) (N 4) (syS C nb nb) bs) (hfit : ∀ k, k < nb → R k < 2 ^ (w - f) ∧ C k < N 1 * 2 ^ f) {tI : Nat → Int32} (h19 : tI 19 = nI (2 ^ f)) (hG : yG R C nb bs tI gr gc) {a j : Nat} (ha : a < 2 ^ w) (hj : j < N 1) : ∃ tJ, fX11_goesTo tI al gr gc (nI a) (nI j) = some tJ ∧ tJ 15 = nI (plR R C nb w f bs a) ∧ tJ 16 = nI (plC N f bs a j) ∧ tJ 17 = bi (tld al R C B N nb w f bs a j) ∧ tJ 18 = siB (stk R C B (plR R C nb w f bs a) (plC N f bs a j) nb) ∧ tJ 19 = nI (2 ^ f) ∧ yG R C nb bs tJ gr gc ∧ ∀ k, (k < 15 ∨ 19 ≤ k) → tJ k = tI k := by
  obtain ⟨tJ, q1, q2, q3, q4, q5, q6⟩ := y_goesTo hm ok hf hb hy (gOk_of hbs hfit) h19 hG ha hj
  exact ⟨tJ, q1, q2, q3, by rw [q4]; exact svB_bi hb _, q5, (q6 19 (by decide)).trans h19, yG_same hG q6, q6⟩
theorem y_read_l (hm : mdl al 0 N) (ok : okN N w) (hf : okM w f) (hb : okBd nb R C B) (hy : yBd al 0 nb R C B) (hbs : bst R C nb (N 3) (N 4) (syS C nb nb) bs) (hfit : ∀ k, k < nb → R k < 2 ^ (w - f) ∧ C k < N 1 * 2 ^ f) {a : Nat} (ha : a < 2 ^ w) : ∀ (d F j : Nat) (v : Int32) (tI : Nat → Int32), j + d = N 1 → d < F → tI 19 = nI (2 ^ f) → yG R C nb bs tI gr gc → (∀ i, i < 32 → bt v i = (decide (i < j) && tld al R C B N nb w f bs a i)) → ∃ v2 tJ, fX11_read_l26 (nI a) al gr gc F v (nI j) tI = some (v2, tJ) ∧ (∀ i, i < 32 → bt v2 i = (decide (i < N 1) && tld al R C B N nb w f bs a i)) ∧ ∀ k, (k < 15 ∨ 19 ≤ k) → tJ k = tI k := by
  have h1 : al 1 = nI (N 1) := by have := hm.2 1 (by decide); rw [Nat.zero_add] at this; exact this
  have hN1 := ok.2.2.2.2.1
  intro d
  induction d with
  | zero =>
    intro F j v tI e1 e2 h19 hG hv
    obtain ⟨F, rfl⟩ : ∃ G, F = G + 1 := ⟨F - 1, by omega⟩
    have : j = N 1 := by omega
    rw [fX11_read_l26, h1, if_pos (nI_le (by omega) (by omega))]
    exact ⟨v, tI, rfl, by rw [← this]; exact hv, fun _ _ => rfl⟩
  | succ d ih =>
    intro F j v tI e1 e2 h19 hG hv
    obtain ⟨F, rfl⟩ : ∃ G, F = G + 1 := ⟨F - 1, by omega⟩
    rw [fX11_read_l26, h1, if_neg (nI_ge (by omega) (by omega))]
    obtain ⟨tJ, q1, -, -, q4, -, q6, q7, q8⟩ := y_goes hm ok hf hb hy hbs hfit h19 hG ha (show j < N 1 by omega)
    rw [q1, bnS, q4, show nI j + (1 : Int32) = nI (j + 1) from nI_1 j]
    obtain ⟨v2, tK, r1, r2, r3⟩ := ih F (j + 1) (v ||| (bi (tld al R C B N nb w f bs a j) <<< (nI j &&& 31))) tJ (by omega) (by omega) q6 q7 (fun i hi => by
      rw [b_or, hv i hi, b_shl j (by omega) _ hi]
      by_cases c : i = j
      · subst c
        rw [decide_eq_false (Nat.lt_irrefl _), Bool.false_and, Bool.false_or, decide_eq_true (Nat.le_refl _), Bool.true_and, Nat.sub_self, bt_bi _ (by decide), decide_eq_true rfl, Bool.and_true, decide_eq_true (Nat.lt_succ_self i), Bool.true_and]
      · by_cases c2 : j ≤ i
        · rw [decide_eq_true c2, Bool.true_and, bt_bi _ (by omega), decide_eq_false (show ¬ i - j = 0 by omega), Bool.and_false, Bool.or_false, decide_eq_false (show ¬ i < j by omega), decide_eq_false (show ¬ i < j + 1 by omega)]
        · rw [decide_eq_false c2, Bool.false_and, Bool.or_false, decide_eq_true (show i < j by omega), decide_eq_true (show i < j + 1 by omega)])
    exact ⟨v2, tK, r1, r2, fun k hk => (r3 k hk).trans (q8 k hk)⟩
/-- what a cell gives to a sum -/
def ctN (wh : Nat) (st : Option Nat) (t : Bool) : Nat := if wh = 0 then (if t then 1 else 0) else match st with | none => 0 | some v => if wh = 1 then 1 else if v = wh - 2 then 1 else 0
theorem ctN_eq {wh : Nat} (hwh : wh ≤ 3) {pr pc : Nat} (hb : okBd nb R C B) (x : Bool) : (if nI wh = 0 then bi (svb (stk R C B pr pc nb) x) else (if siB (stk R C B pr pc nb) = 0 then (0 : Int32) else (if nI wh = (1 : Int32) then (1 : Int32) else (if bi (svb (stk R C B pr pc nb) x) = nI wh - (2 : Int32) then (1 : Int32) else (0 : Int32))))) = nI (ctN wh (stk R C B pr pc nb) (svb (stk R C B pr pc nb) x)) := by
  have hs : stk R C B pr pc nb = none ∨ stk R C B pr pc nb = some 0 ∨ stk R C B pr pc nb = some 1 := by
    cases h : stk R C B pr pc nb with
    | none => exact .inl rfl
    | some v =>
      have := (stk_val hb (Nat.le_refl _) h).1
      have e : v = 0 ∨ v = 1 := by omega
      rcases e with e | e <;> subst e
      · exact .inr (.inl rfl)
      · exact .inr (.inr rfl)
  have hw : wh = 0 ∨ wh = 1 ∨ wh = 2 ∨ wh = 3 := by omega
  rcases hs with h | h | h <;> rw [h] <;> rcases hw with q | q | q | q <;> subst q <;> cases x <;> decide
def ctC (wh : Nat) (al : Nat → Int32) (R C B N : Nat → Nat) (nb w f : Nat) (bs : Option OF) (a j : Nat) : Nat := ctN wh (stk R C B (plR R C nb w f bs a) (plC N f bs a j) nb) (tld al R C B N nb w f bs a j)
theorem y_sum21 (hm : mdl al 0 N) (ok : okN N w) (hf : okM w f) (hb : okBd nb R C B) (hy : yBd al 0 nb R C B) (hbs : bst R C nb (N 3) (N 4) (syS C nb nb) bs) (hfit : ∀ k, k < nb → R k < 2 ^ (w - f) ∧ C k < N 1 * 2 ^ f) {wh : Nat} (hwh : wh ≤ 3) {a : Nat} (ha : a < 2 ^ w) : ∀ (d F j s : Nat) (tI : Nat → Int32), j + d = N 1 → d < F → tI 19 = nI (2 ^ f) → yG R C nb bs tI gr gc → ∃ tJ, fX11_summed_l21 (nI wh) (nI a) al gr gc F (nI (s + fb_sm (ctC wh al R C B N nb w f bs a) j)) (nI j) tI = some (nI (s + fb_sm (ctC wh al R C B N nb w f bs a) (N 1)), tJ) ∧ ∀ k, (k < 15 ∨ 19 ≤ k) → tJ k = tI k := by
  have h1 : al 1 = nI (N 1) := by have := hm.2 1 (by decide); rw [Nat.zero_add] at this; exact this
  have hN1 := ok.2.2.2.2.1
  intro d
  induction d with
  | zero =>
    intro F j s tI e1 e2 h19 hG
    obtain ⟨F, rfl⟩ : ∃ G, F = G + 1 := ⟨F - 1, by omega⟩
    have : j = N 1 := by omega
    rw [fX11_summed_l21, h1, if_pos (nI_le (by omega) (by omega)), this]
    exact ⟨tI, rfl, fun _ _ => rfl⟩
  | succ d ih =>
    intro F j s tI e1 e2 h19 hG
    obtain ⟨F, rfl⟩ : ∃ G, F = G + 1 := ⟨F - 1, by omega⟩
    rw [fX11_summed_l21, h1, if_neg (nI_ge (by omega) (by omega))]
    obtain ⟨tJ, q1, -, -, q4, q5, q6, q7, q8⟩ := y_goes hm ok hf hb hy hbs hfit h19 hG ha (show j < N 1 by omega)
    rw [q1, bnS, q4, q5, show nI j + (1 : Int32) = nI (j + 1) from nI_1 j]
    unfold tld
    rw [ctN_eq hwh hb, nI_add]
    obtain ⟨tK, r1, r2⟩ := ih F (j + 1) s tJ (by omega) (by omega) q6 q7
    rw [fb_sm_succ, ← Nat.add_assoc] at r1
    exact ⟨tK, r1, fun k hk => (r2 k hk).trans (q8 k hk)⟩
theorem y_sum8 (hm : mdl al 0 N) (ok : okN N w) (hf : okM w f) (hb : okBd nb R C B) (hy : yBd al 0 nb R C B) (hbs : bst R C nb (N 3) (N 4) (syS C nb nb) bs) (hfit : ∀ k, k < nb → R k < 2 ^ (w - f) ∧ C k < N 1 * 2 ^ f) {wh : Nat} (hwh : wh ≤ 3) : ∀ (d F a : Nat) (tI : Nat → Int32), a + d = 2 ^ w → d < F → tI 19 = nI (2 ^ f) → yG R C nb bs tI gr gc → ∃ tJ, fX11_summed_l8 (nI wh) al gr gc F (nI (fb_sm (fun a => fb_sm (ctC wh al R C B N nb w f bs a) (N 1)) a)) (nI a) tI = some (nI (fb_sm (fun a => fb_sm (ctC wh al R C B N nb w f bs a) (N 1)) (2 ^ w)), tJ) ∧ ∀ k, (k < 15 ∨ 19 ≤ k) → tJ k = tI k := by
  have h0 : al 0 = nI (2 ^ w) := by have := hm.2 0 (by decide); rw [ok.1] at this; exact this
  have hw := pw10 ok.2.2.1
  intro d
  induction d with
  | zero =>
    intro F a tI e1 e2 h19 hG
    obtain ⟨F, rfl⟩ : ∃ G, F = G + 1 := ⟨F - 1, by omega⟩
    have : a = 2 ^ w := by omega
    rw [fX11_summed_l8, h0, if_pos (nI_le (by omega) (by omega)), this]
    exact ⟨tI, rfl, fun _ _ => rfl⟩
  | succ d ih =>
    intro F a tI e1 e2 h19 hG
    obtain ⟨F, rfl⟩ : ∃ G, F = G + 1 := ⟨F - 1, by omega⟩
    rw [fX11_summed_l8, h0, if_neg (nI_ge (by omega) (by omega))]
    obtain ⟨tJ, q1, q2⟩ := y_sum21 (gr := gr) (gc := gc) hm ok hf hb hy hbs hfit hwh (show a < 2 ^ w by omega) (N 1) FU 0 (fb_sm (fun a => fb_sm (ctC wh al R C B N nb w f bs a) (N 1)) a) tI (by omega) (by show _ < 4294967296; have := ok.2.2.2.2.1; omega) h19 hG
    have q1 : fX11_summed_l21 (nI wh) (nI a) al gr gc FU (nI (fb_sm (fun a => fb_sm (ctC wh al R C B N nb w f bs a) (N 1)) a)) (0 : Int32) tI = some (nI (fb_sm (fun a => fb_sm (ctC wh al R C B N nb w f bs a) (N 1)) a + fb_sm (ctC wh al R C B N nb w f bs a) (N 1)), tJ) := q1
    rw [q1, bnS, show nI a + (1 : Int32) = nI (a + 1) from nI_1 a]
    dsimp only
    obtain ⟨tK, r1, r2⟩ := ih F (a + 1) tJ (by omega) (by omega) ((q2 19 (by decide)).trans h19) (yG_same hG q2)
    rw [fb_sm_succ] at r1
    exact ⟨tK, r1, fun k hk => (r2 k hk).trans (q2 k hk)⟩
theorem y_summed (hm : mdl al 0 N) (ok : okN N w) (hf : okM w f) (hmx : mxN N w = nI (2 ^ f)) (hb : okBd nb R C B) (hy : yBd al 0 nb R C B) (hfit : ∀ k, k < nb → R k < 2 ^ (w - f) ∧ C k < N 1 * 2 ^ f) {wh : Nat} (hwh : wh ≤ 3) (tI z gr gc nr : Nat → Int32) : ∃ tJ z2 gr2 gc2 nr2, fX11_summed tI al z gr gc nr (nI wh) = some (nI (fb_sm (fun a => fb_sm (ctC wh al R C B N nb w f (gvn R C nb (N 3) (N 4)) a) (N 1)) (2 ^ w)), tJ, z2, gr2, gc2, nr2) ∧ ∀ i, (i < 11 ∨ 20 ≤ i) → tJ i = tI i := by
  unfold fX11_summed
  obtain ⟨tJ, z2, gr2, gc2, nr2, q1, q2, q3, q4, q5⟩ := y_laysAll hm ok hmx hb hy tI z gr gc nr
  rw [q1, bnS]
  dsimp only
  obtain ⟨tK, r1, r2⟩ := y_sum8 (gr := gr2) (gc := gc2) hm ok hf hb hy q4 hfit hwh (2 ^ w) FU 0 tJ (by omega) (by show _ < 4294967296; have := pw10 ok.2.2.1; omega) q2 q3
  have r1 : fX11_summed_l8 (nI wh) al gr2 gc2 FU (0 : Int32) (0 : Int32) tJ = some (nI (fb_sm (fun a => fb_sm (ctC wh al R C B N nb w f (gvn R C nb (N 3) (N 4)) a) (N 1)) (2 ^ w)), tK) := r1
  rw [r1, bnS]
  exact ⟨tK, z2, gr2, gc2, nr2, rfl, fun i hi => (r2 i (by omega)).trans (q5 i hi)⟩
end YRD_
