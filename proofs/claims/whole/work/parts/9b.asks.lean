/-! ===== more questions ===== -/
theorem al_k {al : Nat → Int32} {N R C B : Nat → Nat} {nb : Nat} (h : memY al 0 N R C B nb) {k : Nat} (hk : k < 9) : al k = nI (N k) := by
  have := h.2.1.2 k hk
  rw [Nat.zero_add] at this
  exact this
theorem al_9 {al : Nat → Int32} {N R C B : Nat → Nat} {nb : Nat} (h : memY al 0 N R C B nb) : al 9 = nI nb := h.2.2.1
theorem gR_le {R C N : Nat → Nat} {nb w f : Nat} {bs : Option OF} (g : gOk R C nb bs (2 ^ (w - f)) (N 1 * 2 ^ f) (N 3) (N 4)) (ok : okN N w) : gR R C nb bs ≤ 4 ∧ gC bs ≤ 2 := ⟨Nat.le_trans g.1 ok.2.2.2.2.2.2.1, Nat.le_trans g.2.1 ok.2.2.2.2.2.2.2.1⟩
theorem sim_given : Sim_given Rel := by
  intro x y p0 p1 h
  have h' := h
  obtain ⟨⟨N, R, C, B, w, f, nb, ⟨⟨ok, hM, hmx, hb, hfit, hds⟩, hX, hY, hc⟩, ⟨hW, hG, hbs, hfw⟩⟩, -⟩ := h'
  obtain ⟨tJ, z, gr, gc, nr, q1, q2, q3, -, q5⟩ := y_laysAll hY.2.1 ok hmx hb hY.2.2 (y.1 0) (y.1 4) (y.1 5) (y.1 6) (y.1 7)
  have g := gOk_of hbs hfit
  have gl := gR_le g ok
  obtain ⟨x4, x2, x3, xr, xc⟩ := hG
  obtain ⟨y14, y11, y12, yr, yc⟩ := q3
  generalize gvn R C nb (N 3) (N 4) = bs at *
  unfold fX10_given fX11_given
  have x2 : x.1 12 2 = nI (gR R C nb bs) := x2
  have x3 : x.1 12 3 = nI (gC bs) := x3
  have xr : ∀ i, i < gR R C nb bs → x.1 13 i = nI (gA R C nb bs i) := xr
  have xc : ∀ i, i < gC bs → x.1 14 i = nI (gKo bs i) := xc
  rw [q1, bnS, show (tJ, z, gr, gc, nr).1 11 = nI (gR R C nb bs) from y11, show (tJ, z, gr, gc, nr).1 12 = nI (gC bs) from y12, x2, x3]
  have fin : ∀ (z0 z4 z5 z6 z7 : Nat → Int32), (∀ i, i < 11 → z0 i = y.1 0 i) → Rel x ((va_up (va_up (va_up (va_up (va_up y.1 0 z0) 4 z4) 5 z5) 6 z6) 7 z7), y.2) := fun z0 z4 z5 z6 z7 hz => RelC_y0 hz h
  by_cases c : p1 = 0
  · rw [if_pos c, if_pos c, if_pos c]
    rcases inM p0 (n := gR R C nb bs) (by omega) with ⟨r1, r2⟩ | ⟨j, r1, r2, r3⟩
    · rw [if_pos r1]
      rcases r2 with r2 | ⟨r2, r3⟩
      · rw [if_pos r2]; exact ⟨_, _, rfl, rfl, rfl, fin _ _ _ _ _ (fun i hi => q5 i (.inl hi))⟩
      · rw [if_neg r2, if_neg (fun z => (fa_of_lt z).2.1 r3)]; exact ⟨_, _, rfl, rfl, rfl, fin _ _ _ _ _ (fun i hi => q5 i (.inl hi))⟩
    · rw [if_neg r3, r2, if_neg (nI_pos (by omega)), if_pos (nI_lt r1 (by omega)), gdN (by omega) (by decide), gdN (by omega) (by decide), nI_clamp (by omega), xr j r1]
      exact ⟨_, _, rfl, rfl, (yr j r1).symm, fin _ _ _ _ _ (fun i hi => q5 i (.inl hi))⟩
  · rw [if_neg c, if_neg c, if_neg c]
    rcases inM p0 (n := gC bs) (by omega) with ⟨r1, r2⟩ | ⟨j, r1, r2, r3⟩
    · rw [if_pos r1]
      rcases r2 with r2 | ⟨r2, r3⟩
      · rw [if_pos r2]; exact ⟨_, _, rfl, rfl, rfl, fin _ _ _ _ _ (fun i hi => q5 i (.inl hi))⟩
      · rw [if_neg r2, if_neg (fun z => (fa_of_lt z).2.1 r3)]; exact ⟨_, _, rfl, rfl, rfl, fin _ _ _ _ _ (fun i hi => q5 i (.inl hi))⟩
    · rw [if_neg r3, r2, if_neg (nI_pos (by omega)), if_pos (nI_lt r1 (by omega)), gdN (by omega) (by decide), gdN (by omega) (by decide), nI_clamp (by omega), xc j r1]
      exact ⟨_, _, rfl, rfl, (yc j r1).symm, fin _ _ _ _ _ (fun i hi => q5 i (.inl hi))⟩
theorem adr (nu : Nat → Int32) {W : Nat} (h0 : nu 0 = nI W) (hW : W < 2 ^ 31) (p : Int32) : (bi (fX10_isAddress nu p) = 0 ∧ bi (fX11_isIn p (0 : Int32) (nI W - (1 : Int32))) = 0) ∨ ∃ a, a < W ∧ p = nI a ∧ ¬ bi (fX10_isAddress nu p) = 0 ∧ ¬ bi (fX11_isIn p (0 : Int32) (nI W - (1 : Int32))) = 0 := by
  unfold fX10_isAddress
  rw [h0]
  rcases inM p (n := W) hW with ⟨r1, r2⟩ | ⟨j, r1, r2, r3⟩
  · refine .inl ⟨?_, r1⟩
    rcases r2 with r2 | ⟨r2, r3⟩
    · rw [if_pos r2]; rfl
    · rw [if_neg r2, if_pos r3]; rfl
  · refine .inr ⟨j, r1, r2, ?_, r3⟩
    rw [r2, if_neg (nI_pos (by omega)), if_neg (nI_ge r1 hW)]
    decide
theorem sim_read : Sim_read Rel := by
  intro x y p0 h
  have h' := h
  obtain ⟨⟨N, R, C, B, w, f, nb, ⟨⟨ok, hM, hmx, hb, hfit, hds⟩, hX, hY, hc⟩, ⟨hW, hG, hbs, hfw⟩⟩, -⟩ := h'
  have hw := pw10 ok.2.2.1
  have h0 : x.1 2 0 = nI (2 ^ w) := by have := hX.1 0 (by decide); rw [ok.1] at this; exact this
  have h0y : y.1 1 0 = nI (2 ^ w) := by have := al_k hY (k := 0) (by decide); rw [ok.1] at this; exact this
  unfold fX10_read fX11_read
  rw [h0y]
  rcases adr (x.1 2) h0 (by omega) p0 with ⟨r1, r2⟩ | ⟨a, r1, r2, r3, r4⟩
  · rw [if_pos r1, if_pos r2]
    exact ⟨_, _, rfl, rfl, rfl, h⟩
  · rw [if_neg r3, if_neg r4, r2]
    obtain ⟨tJ, z, gr, gc, nr, q1, q2, q3, -, q5⟩ := y_laysAll hY.2.1 ok hmx hb hY.2.2 (y.1 0) (y.1 4) (y.1 5) (y.1 6) (y.1 7)
    obtain ⟨v, v1, v2⟩ := x_word hW ok hM hb hX.2 hfit hbs hG hc r1
    obtain ⟨v', tK, u1, u2, u3⟩ := y_read_l (gr := gr) (gc := gc) hY.2.1 ok hM hb hY.2.2 hbs hfit r1 (N 1) FU 0 0 tJ (by omega) (by show _ < 4294967296; have := ok.2.2.2.2.1; omega) q2 q3 (fun i hi => by rw [b_0, decide_eq_false (Nat.not_lt_zero i), Bool.false_and])
    have u1 : fX11_read_l26 (nI a) (y.1 1) gr gc FU (0 : Int32) (0 : Int32) tJ = some (v', tK) := u1
    have v1 : fX9_word (x.1 11) (x.1 12) (x.1 13) (x.1 14) (x.1 1) (x.1 3) (x.1 4) (x.1 5) (x.1 6) (x.1 7) (nI a) = some v := v1
    rw [q1, bnS, v1, bnS, u1, bnS]
    refine ⟨_, _, rfl, rfl, ?_, RelC_y0 (fun i hi => (u3 i (by omega)).trans (q5 i (.inl hi))) h⟩
    exact b_ext (fun i hi => by rw [v2 i hi, u2 i hi])
theorem fnd_stk {R C B : Nat → Nat} {nb : Nat} {sI br bc bb : Nat → Int32} (hb : okBd nb R C B) (hx : xBd sI br bc bb nb R C B) {r c : Nat} (hr : r < 2 ^ 31) (hc : c < 2 ^ 31) : ∃ v, fX5_find sI br bc (nI r) (nI c) = some v ∧ (v = (-1 : Int32) ↔ ∀ k, k < nb → ¬ (R k = r ∧ C k = c)) ∧ ((∀ k, k < nb → ¬ (R k = r ∧ C k = c)) ∨ ∃ k, k < nb ∧ v = nI k ∧ R k = r ∧ C k = c ∧ ∀ j, j < k → ¬ (R j = r ∧ C j = c)) := by
  have hb1 := hb.1
  unfold fX5_find
  have loop : ∀ (d F k : Nat), k + d = nb → d < F → (∀ j, j < k → ¬ (R j = r ∧ C j = c)) → (fX5_find_l2 (nI r) (nI c) sI br bc F (nI k) = some (.inl ()) ∧ ∀ j, j < nb → ¬ (R j = r ∧ C j = c)) ∨ ∃ t, t < nb ∧ R t = r ∧ C t = c ∧ (∀ j, j < t → ¬ (R j = r ∧ C j = c)) ∧ fX5_find_l2 (nI r) (nI c) sI br bc F (nI k) = some (.inr (nI t)) := by
    intro d
    induction d with
    | zero =>
      intro F k e1 e2 hk
      obtain ⟨F, rfl⟩ : ∃ G, F = G + 1 := ⟨F - 1, by omega⟩
      have : k = nb := by omega
      rw [fX5_find_l2, hx.1, if_pos (nI_le (by omega) (by omega))]
      exact .inl ⟨rfl, fun j hj => hk j (by omega)⟩
    | succ d ih =>
      intro F k e1 e2 hk
      obtain ⟨F, rfl⟩ : ∃ G, F = G + 1 := ⟨F - 1, by omega⟩
      have w1 := hb.2 k (by omega)
      have w2 := hx.2 k (by omega)
      rw [fX5_find_l2, hx.1, if_neg (nI_ge (by omega) (by omega)), gdN (by omega) (by decide), nI_clamp (by omega), w2.1, w2.2.1, show nI k + (1 : Int32) = nI (k + 1) from nI_1 k]
      have nx : ¬ (R k = r ∧ C k = c) → ∀ j, j < k + 1 → ¬ (R j = r ∧ C j = c) := by
        intro z j hj
        by_cases e : j = k
        · rw [e]; exact z
        · exact hk j (by omega)
      by_cases c1 : R k = r
      · rw [if_pos (by rw [c1]), gdN (by omega) (by decide)]
        by_cases c2 : C k = c
        · rw [if_pos (by rw [c2])]
          exact .inr ⟨k, by omega, c1, c2, hk, rfl⟩
        · rw [if_neg (fun z => c2 ((nI_eq (by omega) hc).mp z))]
          exact ih F (k + 1) (by omega) (by omega) (nx (fun z => c2 z.2))
      · rw [if_neg (fun z => c1 ((nI_eq (by omega) hr).mp z))]
        exact ih F (k + 1) (by omega) (by omega) (nx (fun z => c1 z.1))
  rcases loop nb FU 0 (by omega) (by show _ < 4294967296; omega) (fun j hj => absurd hj (Nat.not_lt_zero j)) with ⟨q1, q2⟩ | ⟨t, q1, q2, q3, q4, q5⟩
  · have q1 : fX5_find_l2 (nI r) (nI c) sI br bc FU (0 : Int32) = some (.inl ()) := q1
    rw [q1, bnS]
    exact ⟨_, rfl, ⟨fun _ => q2, fun _ => rfl⟩, .inl q2⟩
  · have q5 : fX5_find_l2 (nI r) (nI c) sI br bc FU (0 : Int32) = some (.inr (nI t)) := q5
    rw [q5, bnS]
    exact ⟨_, rfl, ⟨fun z => absurd z (nI_m1 (by omega)), fun z => absurd ⟨q2, q3⟩ (z t q1)⟩, .inr ⟨t, q1, rfl, q2, q3, q4⟩⟩
theorem siB_iff {R C B : Nat → Nat} {pr pc : Nat} : ∀ {n : Nat}, siB (stk R C B pr pc n) = 0 ↔ ∀ k, k < n → ¬ (R k = pr ∧ C k = pc) := by
  intro n
  induction n with
  | zero => exact ⟨fun _ k hk => absurd hk (Nat.not_lt_zero k), fun _ => rfl⟩
  | succ n ih =>
    rw [stk]
    by_cases c : R n = pr ∧ C n = pc
    · rw [if_pos c]
      exact ⟨fun z => absurd z (show ¬ (1 : Int32) = 0 from by decide), fun z => absurd c (z n (Nat.lt_succ_self n))⟩
    · rw [if_neg c, ih]
      constructor
      · intro z k hk
        by_cases e : k = n
        · rw [e]; exact c
        · exact z k (by omega)
      · intro z k hk; exact z k (by omega)
theorem sim_place : Sim_place Rel := by
  intro x y p0 p1 p2 h
  have h' := h
  obtain ⟨⟨N, R, C, B, w, f, nb, ⟨⟨ok, hM, hmx, hb, hfit, hds⟩, hX, hY, hc⟩, ⟨hW, hG, hbs, hfw⟩⟩, -⟩ := h'
  have hw := pw10 ok.2.2.1
  have hN1 := ok.2.2.2.2.1
  have hN3 := ok.2.2.2.2.2.2.1
  have hN4 := ok.2.2.2.2.2.2.2.1
  have h8 := p2f hM.1
  have hp : 2 ^ (w - f) ≤ 512 := Nat.le_trans (Nat.pow_le_pow_right (n := 2) (by decide) hM.2.2) (by decide)
  have hp2 : N 1 * 2 ^ f ≤ 32 * 8 := Nat.mul_le_mul hN1 h8.2
  have h0 : x.1 2 0 = nI (2 ^ w) := by have := hX.1 0 (by decide); rw [ok.1] at this; exact this
  have h1 : x.1 2 1 = nI (N 1) := hX.1 1 (by decide)
  have h0y : y.1 1 0 = nI (2 ^ w) := by have := al_k hY (k := 0) (by decide); rw [ok.1] at this; exact this
  have h1y : y.1 1 1 = nI (N 1) := al_k hY (k := 1) (by decide)
  have g := gOk_of hbs hfit
  unfold fX10_place fX11_place fX11_isCell
  rw [h0y, h1y, h1]
  rcases adr (x.1 2) h0 (by omega) p0 with ⟨r1, r2⟩ | ⟨a, r1, r2, r3, r4⟩
  · rw [if_pos r1, if_pos r2, if_pos (show bi false = 0 from rfl)]
    exact ⟨_, _, rfl, rfl, rfl, h⟩
  · rw [if_neg r3, if_neg r4]
    rcases inM p1 (n := N 1) (by omega) with ⟨s1, s2⟩ | ⟨j, s1, s2, s3⟩
    · rw [if_pos s1, if_pos (show bi false = 0 from rfl)]
      rcases s2 with s2 | ⟨s2, s3⟩
      · rw [if_pos s2]; exact ⟨_, _, rfl, rfl, rfl, h⟩
      · rw [if_neg s2, if_neg (fun z => (fa_of_lt z).2.1 s3)]; exact ⟨_, _, rfl, rfl, rfl, h⟩
    · rw [if_neg s3, if_neg (show ¬ bi true = 0 from by decide), s2, r2, if_neg (nI_pos (by omega)), if_pos (nI_lt s1 (by omega))]
      rcases inN p2 (n := 3) (by decide) with ⟨u1, u2⟩ | ⟨t, u1, u2, u3⟩
      · have u1 : bi (fX11_isIn p2 (0 : Int32) (3 : Int32)) = 0 := u1
        rw [if_pos u1]
        have n0 : ¬ p2 = (0 : Int32) := by rintro rfl; rcases u2 with q | ⟨-, q⟩ <;> exact absurd q (by decide)
        have n1 : ¬ p2 = (1 : Int32) := by rintro rfl; rcases u2 with q | ⟨-, q⟩ <;> exact absurd q (by decide)
        have n2 : ¬ p2 = (2 : Int32) := by rintro rfl; rcases u2 with q | ⟨-, q⟩ <;> exact absurd q (by decide)
        have n3 : ¬ p2 = (3 : Int32) := by rintro rfl; rcases u2 with q | ⟨-, q⟩ <;> exact absurd q (by decide)
        rw [if_neg n0, if_neg n1, if_neg n2, if_neg n3]
        exact ⟨_, _, rfl, rfl, rfl, h⟩
      · have u3 : ¬ bi (fX11_isIn p2 (0 : Int32) (3 : Int32)) = 0 := u3
        obtain ⟨tJ, z, gr, gc, nr, q1, q2, q3, -, q5⟩ := y_laysAll hY.2.1 ok hmx hb hY.2.2 (y.1 0) (y.1 4) (y.1 5) (y.1 6) (y.1 7)
        obtain ⟨tK, v1, v2, v3, v4, v5, -, -, v8⟩ := y_goes (gr := gr) (gc := gc) hY.2.1 ok hM hb hY.2.2 hbs hfit q2 q3 r1 s1
        rw [if_neg u3, q1, bnS]
        dsimp only
        rw [v1, bnS]
        have fin : Rel x ((va_up (va_up (va_up (va_up (va_up y.1 0 tK) 4 z) 5 gr) 6 gc) 7 nr), y.2) := RelC_y0 (fun i hi => (v8 i (by omega)).trans (q5 i (.inl hi))) h
        have hrow := row_lt hM r1
        have hcol := col_lt (N := N) (f := f) (a := a) s1
        have ec := x_columnOf (a := a) hW hM (show j < 32 by omega)
        have er := x_rowOf (a := a) hW hM (by omega)
        have e : t = 0 ∨ t = 1 ∨ t = 2 ∨ t = 3 := by omega
        rcases e with e | e | e | e <;> subst e <;> subst u2
        · rw [if_pos (show nI 0 = (0 : Int32) from rfl), if_pos (show nI 0 = (0 : Int32) from rfl), er]
          have := x_rowPlace (x := a / 2 ^ f) g hN3 hG hW.2.2.1 (by omega) (by omega)
          rw [this, bnS]
          exact ⟨_, _, rfl, rfl, v2.symm, fin⟩
        · rw [if_neg (show ¬ nI 1 = (0 : Int32) from by decide), if_neg (show ¬ nI 1 = (0 : Int32) from by decide), if_pos (show nI 1 = (1 : Int32) from rfl), if_pos (show nI 1 = (1 : Int32) from rfl), ec]
          have := x_columnPlace (x := j * 2 ^ f + a % 2 ^ f) g hN4 hG hW.2.2.2 (by omega) (by omega)
          rw [this, bnS]
          exact ⟨_, _, rfl, rfl, v3.symm, fin⟩
        · rw [if_neg (show ¬ nI 2 = (0 : Int32) from by decide), if_neg (show ¬ nI 2 = (0 : Int32) from by decide), if_neg (show ¬ nI 2 = (1 : Int32) from by decide), if_neg (show ¬ nI 2 = (1 : Int32) from by decide), if_pos (show nI 2 = (2 : Int32) from rfl), if_pos (show nI 2 = (2 : Int32) from rfl)]
          obtain ⟨v, w1, w2⟩ := x_word hW ok hM hb hX.2 hfit hbs hG hc r1
          have w1 : fX9_word (x.1 11) (x.1 12) (x.1 13) (x.1 14) (x.1 1) (x.1 3) (x.1 4) (x.1 5) (x.1 6) (x.1 7) (nI a) = some v := w1
          rw [w1, bnS, ubit1 v (show j < 32 by omega), w2 j (by omega), decide_eq_true s1, Bool.true_and]
          exact ⟨_, _, rfl, rfl, v4.symm, fin⟩
        · rw [if_neg (show ¬ nI 3 = (0 : Int32) from by decide), if_neg (show ¬ nI 3 = (0 : Int32) from by decide), if_neg (show ¬ nI 3 = (1 : Int32) from by decide), if_neg (show ¬ nI 3 = (1 : Int32) from by decide), if_neg (show ¬ nI 3 = (2 : Int32) from by decide), if_neg (show ¬ nI 3 = (2 : Int32) from by decide), if_pos (show nI 3 = (3 : Int32) from rfl), v5, er, ec]
          have x4 : x.1 12 4 = gM (gvn R C nb (N 3) (N 4)) := hG.1
          rw [x4]
          generalize gvn R C nb (N 3) (N 4) = bs at *
          cases bs with
          | some b =>
            rw [if_neg (show ¬ (gM (some b)) = 0 from (show ¬ (1 : Int32) = 0 from by decide)), stk_mended (B := B) hbs hfit, if_pos (show siB none = 0 from rfl)]
            exact ⟨_, _, rfl, rfl, rfl, fin⟩
          | none =>
            rw [if_pos (show gM none = 0 from rfl)]
            obtain ⟨v, w1, w2, -⟩ := fnd_stk hb hX.2 (r := a / 2 ^ f) (c := j * 2 ^ f + a % 2 ^ f) (by omega) (by omega)
            have w1 : fX5_find (x.1 1) (x.1 3) (x.1 4) (nI (a / 2 ^ f)) (nI (j * 2 ^ f + a % 2 ^ f)) = some v := w1
            rw [w1, bnS]
            by_cases c : v = (-1 : Int32)
            · rw [if_pos c, if_pos (show siB (stk R C B (plR R C nb w f none a) (plC N f none a j) nb) = 0 from siB_iff.mpr (w2.mp c))]
              exact ⟨_, _, rfl, rfl, rfl, fin⟩
            · rw [if_neg c, if_neg (show ¬ siB (stk R C B (plR R C nb w f none a) (plC N f none a j) nb) = 0 from fun z => c (w2.mpr (siB_iff.mp z)))]
              exact ⟨_, _, rfl, rfl, rfl, fin⟩
