/-! ===== cell, test, count, fewest ===== -/
theorem y_c51 {tI al sz gr gc nr : Nat → Int32} {n k r : Nat} {a : Nat → Nat} (h11 : tI 11 = nI n) (hn : n ≤ 4) (hgr : ∀ i, i < n → gr i = nI (a i)) (ha : ∀ i, i < n → a i < 2 ^ 31) (hk : k < 12) (hr : r < 2 ^ 31) (hal : al (0 + 10 + 3 * k) = nI r) : ∀ (d F i : Nat), i + d = n → d < F → (∀ t, t < i → a t ≠ r) → (fX11_cell_l51 (nI k) tI al sz gr gc nr F (nI i) = some (.inl ()) ∧ ∀ t, t < n → a t ≠ r) ∨ ((∃ t, t < n ∧ a t = r) ∧ fX11_cell_l51 (nI k) tI al sz gr gc nr F (nI i) = some (.inr ((1 : Int32), tI, sz, gr, gc, nr))) := by
  intro d
  induction d with
  | zero =>
    intro F i e1 e2 h
    obtain ⟨F, rfl⟩ : ∃ G, F = G + 1 := ⟨F - 1, by omega⟩
    rw [fX11_cell_l51, h11, if_pos (nI_le (by omega) (by omega))]
    exact .inl ⟨rfl, fun t ht => h t (by omega)⟩
  | succ d ih =>
    intro F i e1 e2 h
    obtain ⟨F, rfl⟩ : ∃ G, F = G + 1 := ⟨F - 1, by omega⟩
    rw [fX11_cell_l51, h11, if_neg (nI_ge (by omega) (by omega)), gdN (by omega) (by decide), badAtN, gdN (by omega) (by decide), nI_clamp (by omega), nI_clamp (by omega), hgr i (by omega), hal, show nI i + (1 : Int32) = nI (i + 1) from nI_1 i]
    by_cases c : a i = r
    · rw [if_pos (by rw [c])]
      exact .inr ⟨⟨i, by omega, c⟩, rfl⟩
    · rw [if_neg (fun z => c ((nI_eq (ha i (by omega)) hr).mp z))]
      exact ih F (i + 1) (by omega) (by omega) (fun t ht => by
        by_cases et : t = i
        · rw [et]; exact c
        · exact h t (by omega))
theorem y_c87 {tI al sz gr gc nr : Nat → Int32} {n k r : Nat} {a : Nat → Nat} (h11 : tI 12 = nI n) (hn : n ≤ 2) (hgr : ∀ i, i < n → gc i = nI (a i)) (ha : ∀ i, i < n → a i < 2 ^ 31) (hk : k < 12) (hr : r < 2 ^ 31) (hal : al (0 + 10 + 3 * k + 1) = nI r) : ∀ (d F i : Nat), i + d = n → d < F → (∀ t, t < i → a t ≠ r) → (fX11_cell_l87 (nI k) tI al sz gr gc nr F (nI i) = some (.inl ()) ∧ ∀ t, t < n → a t ≠ r) ∨ ((∃ t, t < n ∧ a t = r) ∧ fX11_cell_l87 (nI k) tI al sz gr gc nr F (nI i) = some (.inr ((1 : Int32), tI, sz, gr, gc, nr))) := by
  intro d
  induction d with
  | zero =>
    intro F i e1 e2 h
    obtain ⟨F, rfl⟩ : ∃ G, F = G + 1 := ⟨F - 1, by omega⟩
    rw [fX11_cell_l87, h11, if_pos (nI_le (by omega) (by omega))]
    exact .inl ⟨rfl, fun t ht => h t (by omega)⟩
  | succ d ih =>
    intro F i e1 e2 h
    obtain ⟨F, rfl⟩ : ∃ G, F = G + 1 := ⟨F - 1, by omega⟩
    rw [fX11_cell_l87, h11, if_neg (nI_ge (by omega) (by omega)), gdN (by omega) (by decide), badAtN, show nI (0 + 10 + 3 * k) + (1 : Int32) = nI (0 + 10 + 3 * k + 1) from nI_1 _, gdN (by omega) (by decide), nI_clamp (by omega), nI_clamp (by omega), hgr i (by omega), hal, show nI i + (1 : Int32) = nI (i + 1) from nI_1 i]
    by_cases c : a i = r
    · rw [if_pos (by rw [c])]
      exact .inr ⟨⟨i, by omega, c⟩, rfl⟩
    · rw [if_neg (fun z => c ((nI_eq (ha i (by omega)) hr).mp z))]
      exact ih F (i + 1) (by omega) (by omega) (fun t ht => by
        by_cases et : t = i
        · rw [et]; exact c
        · exact h t (by omega))
theorem sim_cell : Sim_cell Rel := by
  intro x y p0 p1 h
  have h' := h
  obtain ⟨⟨N, R, C, B, w, f, nb, ⟨⟨ok, hM, hmx, hb, hfit, hds⟩, hX, hY, hc⟩, ⟨hW, hG, hbs, hfw⟩⟩, -⟩ := h'
  have hb1 := hb.1
  have h8 := p2f hM.1
  have hp : 2 ^ (w - f) ≤ 512 := Nat.le_trans (Nat.pow_le_pow_right (n := 2) (by decide) hM.2.2) (by decide)
  have hp2 : N 1 * 2 ^ f ≤ 32 * 8 := Nat.mul_le_mul ok.2.2.2.2.1 h8.2
  have g := gOk_of hbs hfit
  have gl := gR_le g ok
  have s4 : x.1 1 4 = nI nb := hX.2.1
  unfold fX10_cell fX11_cell
  rw [al_9 hY, s4]
  rcases inM p0 (n := nb) (by omega) with ⟨r1, r2⟩ | ⟨k, r1, r2, r3⟩
  · rw [if_pos r1]
    rcases r2 with r2 | ⟨r2, r3⟩
    · rw [if_pos r2]; exact ⟨_, _, rfl, rfl, rfl, h⟩
    · rw [if_neg r2, if_neg (fun z => (fa_of_lt z).2.1 r3)]; exact ⟨_, _, rfl, rfl, rfl, h⟩
  · have hk := hb.2 k r1
    have hkx := hX.2.2 k r1
    have hky := hY.2.2.2 k r1
    rw [if_neg r3, r2, if_neg (nI_pos (by omega)), if_pos (nI_lt r1 (by omega))]
    rcases inN p1 (n := 3) (by decide) with ⟨u1, u2⟩ | ⟨t, u1, u2, u3⟩
    · have u1 : bi (fX11_isIn p1 (0 : Int32) (3 : Int32)) = 0 := u1
      have n0 : ¬ p1 = (0 : Int32) := by rintro rfl; rcases u2 with q | ⟨-, q⟩ <;> exact absurd q (by decide)
      have n1 : ¬ p1 = (1 : Int32) := by rintro rfl; rcases u2 with q | ⟨-, q⟩ <;> exact absurd q (by decide)
      have n2 : ¬ p1 = (2 : Int32) := by rintro rfl; rcases u2 with q | ⟨-, q⟩ <;> exact absurd q (by decide)
      have n3 : ¬ p1 = (3 : Int32) := by rintro rfl; rcases u2 with q | ⟨-, q⟩ <;> exact absurd q (by decide)
      rw [if_pos u1, if_neg n0, if_neg n1, if_neg n2, if_neg n3]
      exact ⟨_, _, rfl, rfl, rfl, h⟩
    · have u3 : ¬ bi (fX11_isIn p1 (0 : Int32) (3 : Int32)) = 0 := u3
      rw [if_neg u3]
      have e : t = 0 ∨ t = 1 ∨ t = 2 ∨ t = 3 := by omega
      rcases e with e | e | e | e <;> subst e <;> subst u2
      · rw [if_pos (show nI 0 = (0 : Int32) from rfl), if_neg (show ¬ (3 : Int32) ≤ nI 0 from by decide), badAtN, nI_add, gdN (by omega) (by decide), gdN (by omega) (by decide), nI_clamp (by omega), nI_clamp (by omega)]
        exact ⟨_, _, rfl, rfl, hkx.1.trans hky.1.symm, h⟩
      · rw [if_neg (show ¬ nI 1 = (0 : Int32) from by decide), if_pos (show nI 1 = (1 : Int32) from rfl), if_neg (show ¬ (3 : Int32) ≤ nI 1 from by decide), badAtN, nI_add, gdN (by omega) (by decide), gdN (by omega) (by decide), nI_clamp (by omega), nI_clamp (by omega)]
        exact ⟨_, _, rfl, rfl, hkx.2.1.trans hky.2.1.symm, h⟩
      · rw [if_neg (show ¬ nI 2 = (0 : Int32) from by decide), if_neg (show ¬ nI 2 = (1 : Int32) from by decide), if_pos (show nI 2 = (2 : Int32) from rfl), if_neg (show ¬ (3 : Int32) ≤ nI 2 from by decide), badAtN, nI_add, gdN (by omega) (by decide), gdN (by omega) (by decide), nI_clamp (by omega), nI_clamp (by omega)]
        exact ⟨_, _, rfl, rfl, hkx.2.2.trans hky.2.2.symm, h⟩
      · rw [if_neg (show ¬ nI 3 = (0 : Int32) from by decide), if_neg (show ¬ nI 3 = (1 : Int32) from by decide), if_neg (show ¬ nI 3 = (2 : Int32) from by decide), if_pos (show nI 3 = (3 : Int32) from rfl), if_pos (show (3 : Int32) ≤ nI 3 from by decide)]
        obtain ⟨tJ, z, gr, gc, nr, q1, q2, q3, -, q5⟩ := y_laysAll hY.2.1 ok hmx hb hY.2.2 (y.1 0) (y.1 4) (y.1 5) (y.1 6) (y.1 7)
        obtain ⟨y14, y11, y12, yr, yc⟩ := q3
        have x4 : x.1 12 4 = gM (gvn R C nb (N 3) (N 4)) := hG.1
        rw [q1, bnS, x4]
        dsimp only
        have fin : Rel x ((va_up (va_up (va_up (va_up (va_up y.1 0 tJ) 4 z) 5 gr) 6 gc) 7 nr), y.2) := RelC_y0 (fun i hi => q5 i (.inl hi)) h
        generalize gvn R C nb (N 3) (N 4) = bs at *
        have l1 := y_c51 (sz := z) (gc := gc) (nr := nr) (al := y.1 1) y11 gl.1 yr (fun i hi => by have := g.2.2.1 i hi; omega) (show k < 12 by omega) (show R k < 2 ^ 31 by omega) hky.1 (gR R C nb bs) FU 0 (by omega) (by show _ < 4294967296; omega) (fun t ht => absurd ht (Nat.not_lt_zero t))
        have l2 := y_c87 (sz := z) (gr := gr) (nr := nr) (al := y.1 1) y12 gl.2 yc (fun i hi => by have := g.2.2.2.2.1 i hi; omega) (show k < 12 by omega) (show C k < 2 ^ 31 by omega) hky.2.1 (gC bs) FU 0 (by omega) (by show _ < 4294967296; omega) (fun t ht => absurd ht (Nat.not_lt_zero t))
        rcases l1 with ⟨m1, m2⟩ | ⟨⟨t, m1, m2⟩, m3⟩
        · have m1 : fX11_cell_l51 (nI k) tJ (y.1 1) z gr gc nr FU (0 : Int32) = some (.inl ()) := m1
          rw [m1, bnS]
          rcases l2 with ⟨n1, n2⟩ | ⟨⟨t, n1, n2⟩, n3⟩
          · have n1 : fX11_cell_l87 (nI k) tJ (y.1 1) z gr gc nr FU (0 : Int32) = some (.inl ()) := n1
            dsimp only
            rw [n1, bnS]
            cases bs with
            | none =>
              rw [if_pos (show gM none = 0 from rfl)]
              exact ⟨_, _, rfl, rfl, rfl, fin⟩
            | some b =>
              exfalso
              rcases gCov (R := R) hbs.1 r1 with ⟨i, i1, i2⟩ | ⟨i, i1, i2⟩
              · exact m2 i i1 i2
              · exact n2 i i1 i2
          · have n3 : fX11_cell_l87 (nI k) tJ (y.1 1) z gr gc nr FU (0 : Int32) = some (.inr ((1 : Int32), tJ, z, gr, gc, nr)) := n3
            dsimp only
            rw [n3, bnS]
            cases bs with
            | none => exact absurd n1 (Nat.not_lt_zero t)
            | some b =>
              rw [if_neg (show ¬ (gM (some b)) = 0 from (show ¬ (1 : Int32) = 0 from by decide))]
              exact ⟨_, _, rfl, rfl, rfl, fin⟩
        · have m3 : fX11_cell_l51 (nI k) tJ (y.1 1) z gr gc nr FU (0 : Int32) = some (.inr ((1 : Int32), tJ, z, gr, gc, nr)) := m3
          rw [m3, bnS]
          cases bs with
          | none => exact absurd m1 (Nat.not_lt_zero t)
          | some b =>
            rw [if_neg (show ¬ (gM (some b)) = 0 from (show ¬ (1 : Int32) = 0 from by decide))]
            exact ⟨_, _, rfl, rfl, rfl, fin⟩
/-- the cells that a test finds -/
theorem tst_sum {al : Nat → Int32} {R C B N : Nat → Nat} {nb w f : Nat} {bs : Option OF} (ok : okN N w) (hM : okM w f) (hb : okBd nb R C B) (hfit : ∀ k, k < nb → R k < 2 ^ (w - f) ∧ C k < N 1 * 2 ^ f) (hds : ∀ i j, i < j → j < nb → ¬ (R i = R j ∧ C i = C j)) (hbs : bst R C nb (N 3) (N 4) (syS C nb nb) bs) {wh : Nat} (h0 : wh ≠ 0) : fb_sm (fun a => fb_sm (ctC wh al R C B N nb w f bs a) (N 1)) (2 ^ w) = gNo bs (fb_sm (fun k => if wh = 1 then 1 else if B k = wh - 2 then 1 else 0) nb) := by
  cases bs with
  | some b =>
    refine sm_zero (fun a _ => sm_zero (fun j _ => ?_))
    unfold ctC
    rw [stk_mended (B := B) hbs hfit]
    unfold ctN
    rw [if_neg h0]
  | none =>
    have e := bad_sum (B := B) hM hfit hds (fun v => if wh = 1 then 1 else if v = wh - 2 then 1 else 0) nb (Nat.le_refl _)
    refine Eq.trans ?_ e
    refine fb_sm_cong (fun a _ => fb_sm_cong (fun j _ => ?_))
    show ctN wh (stk R C B (a / 2 ^ f) (j * 2 ^ f + a % 2 ^ f) nb) _ = _
    unfold ctN
    rw [if_neg h0]
    cases stk R C B (a / 2 ^ f) (j * 2 ^ f + a % 2 ^ f) nb with
    | none => rfl
    | some v => rfl
theorem sim_test : Sim_test Rel := by
  intro x y p0 h
  have h' := h
  obtain ⟨⟨N, R, C, B, w, f, nb, ⟨⟨ok, hM, hmx, hb, hfit, hds⟩, hX, hY, hc⟩, ⟨hW, hG, hbs, hfw⟩⟩, -⟩ := h'
  have x4 : x.1 12 4 = gM (gvn R C nb (N 3) (N 4)) := hG.1
  have xb : xBd (x.1 1) (x.1 3) (x.1 4) (x.1 5) nb R C B := hX.2
  unfold fX10_test fX11_test
  have go : ∀ wh v : Nat, wh ≤ 3 → wh ≠ 0 → v ≤ 1 → (∀ k, k < nb → (if B k = v then 0 else 1) = (if wh = 1 then 1 else if B k = wh - 2 then 1 else 0)) → ∃ (ox : Int32) (oy : Int32 × (Nat → Int32) × (Nat → Int32) × (Nat → Int32) × (Nat → Int32) × (Nat → Int32)), (bn (fX9_wrong (x.1 12) (x.1 1) (x.1 5) (nI v)) fun a1 => some a1) = some ox ∧ (bn (fX11_summed (y.1 0) (y.1 1) (y.1 4) (y.1 5) (y.1 6) (y.1 7) (nI wh)) fun a1 => some (a1.1, a1.2.1, a1.2.2.1, a1.2.2.2.1, a1.2.2.2.2.1, a1.2.2.2.2.2)) = some oy ∧ ox = oy.1 ∧ Rel x ((va_up (va_up (va_up (va_up (va_up y.1 0 oy.2.1) 4 oy.2.2.1) 5 oy.2.2.2.1) 6 oy.2.2.2.2.1) 7 oy.2.2.2.2.2), y.2) := by
    intro wh v h1 h2 h3 h4
    obtain ⟨tJ, z, gr, gc, nr, q1, q2⟩ := y_summed hY.2.1 ok hM hmx hb hY.2.2 hfit h1 (y.1 0) (y.1 4) (y.1 5) (y.1 6) (y.1 7)
    rw [x_wrong hb xb x4 h3, bnS, q1, bnS]
    refine ⟨_, _, rfl, rfl, ?_, RelC_y0 (fun i hi => q2 i (.inl hi)) h⟩
    rw [tst_sum ok hM hb hfit hds hbs h2]
    generalize gvn R C nb (N 3) (N 4) = bs
    cases bs with
    | some b => rfl
    | none =>
      show nI _ = nI _
      congr 1
      exact fb_sm_cong h4
  by_cases c : p0 = 0
  · rw [if_pos c, if_pos c]
    exact go 3 0 (by decide) (by decide) (by decide) (fun k hk => by
      have := (hb.2 k hk).2.2
      have e : B k = 0 ∨ B k = 1 := by omega
      rcases e with e | e <;> rw [e] <;> decide)
  · rw [if_neg c, if_neg c]
    exact go 2 1 (by decide) (by decide) (by decide) (fun k hk => by
      have := (hb.2 k hk).2.2
      have e : B k = 0 ∨ B k = 1 := by omega
      rcases e with e | e <;> rw [e] <;> decide)
theorem sim_fewest : Sim_fewest Rel := by
  intro x y h
  have h' := h
  obtain ⟨⟨N, R, C, B, w, f, nb, ⟨⟨ok, hM, hmx, hb, hfit, hds⟩, hX, hY, hc⟩, ⟨hW, hG, hbs, ⟨m, m1, m2, m3, m4⟩⟩⟩, -⟩ := h'
  have hN4 := ok.2.2.2.2.2.2.2.1
  have h4 : y.1 1 4 = nI (N 4) := al_k hY (by decide)
  have m1 : x.1 12 5 = nI m := m1
  unfold fX10_fewest fX11_fewest
  rw [m1]
  have loop : ∀ (d F s : Nat) (tI gr gc nr : Nat → Int32), s + d = 5 → d < F → s ≤ m → (∀ i, i < 11 → tI i = y.1 0 i) → (4 < m ∧ ∃ tJ gr2 gc2 nr2, fX11_fewest_l2 (y.1 1) F (nI s) tI gr gc nr = some (.inl (tJ, gr2, gc2, nr2)) ∧ ∀ i, i < 11 → tJ i = y.1 0 i) ∨ (m ≤ 4 ∧ ∃ tJ gr2 gc2 nr2, fX11_fewest_l2 (y.1 1) F (nI s) tI gr gc nr = some (.inr (nI m, tJ, gr2, gc2, nr2)) ∧ ∀ i, i < 11 → tJ i = y.1 0 i) := by
    intro d
    induction d with
    | zero =>
      intro F s tI gr gc nr e1 e2 hs hk
      obtain ⟨F, rfl⟩ : ∃ G, F = G + 1 := ⟨F - 1, by omega⟩
      have : s = 5 := by omega
      subst this
      rw [fX11_fewest_l2, if_pos (show (4 : Int32) < nI 5 from by decide)]
      exact .inl ⟨by omega, _, _, _, _, rfl, hk⟩
    | succ d ih =>
      intro F s tI gr gc nr e1 e2 hs hk
      obtain ⟨F, rfl⟩ : ∃ G, F = G + 1 := ⟨F - 1, by omega⟩
      obtain ⟨tJ, gr2, gc2, nr2, q1, q2, q3, q4⟩ := y_given (sp := s) (c4 := N 4) hb hY.2.2 h4 hN4 (by omega) tI gr gc nr
      have hk2 : ∀ i, i < 11 → tJ i = y.1 0 i := fun i hi => (q4 i (.inl hi)).trans (hk i hi)
      rw [fX11_fewest_l2, if_neg (show ¬ (4 : Int32) < nI s from nI_nlt (a := 4) (by omega) (by omega)), q1, bnS, show nI s + (1 : Int32) = nI (s + 1) from nI_1 s]
      have q2' := yG_of q2
      rw [show (tJ, gr2, gc2, nr2).1 14 = gM (gvn R C nb s (N 4)) from q2'.1]
      generalize gvn R C nb s (N 4) = bs at *
      cases bs with
      | none =>
        rw [if_pos (show gM none = 0 from rfl)]
        refine ih F (s + 1) tJ gr2 gc2 nr2 (by omega) (by omega) ?_ hk2
        rcases Nat.lt_or_ge s m with z | z
        · exact z
        · exfalso
          rcases m4 with m4 | ⟨o, o1, o2, o3⟩
          · omega
          · exact q3 o o1 ⟨by omega, o2⟩
      | some b =>
        rw [if_neg (show ¬ (gM (some b)) = 0 from (show ¬ (1 : Int32) = 0 from by decide))]
        have := m3 b q3.1 q3.2.1.2
        have := q3.2.1.1
        have : s = m := by omega
        subst this
        exact .inr ⟨by omega, _, _, _, _, rfl, hk2⟩
  rcases loop 5 FU 0 (y.1 0) (y.1 5) (y.1 6) (y.1 7) (by omega) (by decide) (Nat.zero_le _) (fun _ _ => rfl) with ⟨z, tJ, gr2, gc2, nr2, q1, q2⟩ | ⟨z, tJ, gr2, gc2, nr2, q1, q2⟩
  · have q1 : fX11_fewest_l2 (y.1 1) FU (0 : Int32) (y.1 0) (y.1 5) (y.1 6) (y.1 7) = some (.inl (tJ, gr2, gc2, nr2)) := q1
    rw [q1, bnS, if_pos (show (4 : Int32) < nI m from nI_lt (a := 4) z (by omega))]
    exact ⟨_, _, rfl, rfl, rfl, RelC_y0 q2 h⟩
  · have q1 : fX11_fewest_l2 (y.1 1) FU (0 : Int32) (y.1 0) (y.1 5) (y.1 6) (y.1 7) = some (.inr (nI m, tJ, gr2, gc2, nr2)) := q1
    rw [q1, bnS, if_neg (show ¬ (4 : Int32) < nI m from nI_nlt (a := 4) z (by decide))]
    exact ⟨_, _, rfl, rfl, rfl, RelC_y0 q2 h⟩
theorem sim_count : Sim_count Rel := by
  intro x y p0 h
  have h' := h
  obtain ⟨⟨N, R, C, B, w, f, nb, ⟨⟨ok, hM, hmx, hb, hfit, hds⟩, hX, hY, hc⟩, ⟨hW, hG, hbs, hfw⟩⟩, -, ⟨n, t1, t2, t3, -⟩, -, ⟨k, nx, k1, k2, k3, k4, k5, -⟩, -⟩ := h'
  have hb1 := hb.1
  have xb : xBd (x.1 1) (x.1 3) (x.1 4) (x.1 5) nb R C B := hX.2
  obtain ⟨tJ, z, gr, gc, nr, q1, q2, q3, -, q5⟩ := y_laysAll hY.2.1 ok hmx hb hY.2.2 (y.1 0) (y.1 4) (y.1 5) (y.1 6) (y.1 7)
  have fin : Rel x ((va_up (va_up (va_up (va_up (va_up y.1 0 tJ) 4 z) 5 gr) 6 gc) 7 nr), y.2) := RelC_y0 (fun i hi => q5 i (.inl hi)) h
  have h0 : x.1 2 0 = nI (2 ^ w) := by have := hX.1 0 (by decide); rw [ok.1] at this; exact this
  obtain ⟨y14, y11, y12, -, -⟩ := q3
  have x4 : x.1 12 4 = gM (gvn R C nb (N 3) (N 4)) := hG.1
  have x2 : x.1 12 2 = nI (gR R C nb (gvn R C nb (N 3) (N 4))) := hG.2.1
  have x3 : x.1 12 3 = nI (gC (gvn R C nb (N 3) (N 4))) := hG.2.2.1
  unfold fX10_count fX11_count
  rw [q1, bnS]
  dsimp only
  have no : (∀ j, j < 18 → p0 ≠ nI j) → bi (fX11_isIn p0 (0 : Int32) (9 : Int32)) = 0 → ∃ (ox : Int32) (oy : Int32 × (Nat → Int32) × (Nat → Int32) × (Nat → Int32) × (Nat → Int32) × (Nat → Int32)), fX10_count_j28 p0 (x.1 1) (x.1 2) (x.1 3) (x.1 4) (x.1 5) (x.1 6) (x.1 7) (x.1 8) (x.1 10) (x.1 11) (x.1 12) (x.1 13) (x.1 14) = some ox ∧ some ((-1 : Int32), tJ, z, gr, gc, nr) = some oy ∧ ox = oy.1 ∧ Rel x ((va_up (va_up (va_up (va_up (va_up y.1 0 oy.2.1) 4 oy.2.2.1) 5 oy.2.2.2.1) 6 oy.2.2.2.2.1) 7 oy.2.2.2.2.2), y.2) := by
    intro hn _
    unfold fX10_count_j28
    rw [if_neg (show ¬ p0 = (9 : Int32) from hn 9 (by decide)), if_neg (show ¬ p0 = (10 : Int32) from hn 10 (by decide)), if_neg (show ¬ p0 = (11 : Int32) from hn 11 (by decide)), if_neg (show ¬ p0 = (12 : Int32) from hn 12 (by decide)), if_neg (show ¬ p0 = (13 : Int32) from hn 13 (by decide)), if_neg (show ¬ p0 = (14 : Int32) from hn 14 (by decide)), if_neg (show ¬ p0 = (15 : Int32) from hn 15 (by decide)), if_neg (show ¬ p0 = (16 : Int32) from hn 16 (by decide)), if_neg (show ¬ p0 = (17 : Int32) from hn 17 (by decide))]
    exact ⟨_, _, rfl, rfl, rfl, fin⟩
  rcases pk_ix p0 (n := 18) (by decide) with c | c | ⟨j, j1, rfl⟩
  · have hn : ∀ j, j < 18 → p0 ≠ nI j := by
      intro j hj e
      rw [e] at c
      exact nI_pos (by omega) c
    have hi : bi (fX11_isIn p0 (0 : Int32) (9 : Int32)) = 0 := by unfold fX11_isIn; rw [if_pos c]; rfl
    rw [if_pos c, if_pos hi, if_neg (show ¬ p0 = (10 : Int32) from hn 10 (by decide)), if_neg (show ¬ p0 = (11 : Int32) from hn 11 (by decide)), if_neg (show ¬ p0 = (12 : Int32) from hn 12 (by decide)), if_neg (show ¬ p0 = (13 : Int32) from hn 13 (by decide)), if_neg (show ¬ p0 = (14 : Int32) from hn 14 (by decide)), if_neg (show ¬ p0 = (15 : Int32) from hn 15 (by decide)), if_neg (show ¬ p0 = (16 : Int32) from hn 16 (by decide)), if_neg (show ¬ p0 = (17 : Int32) from hn 17 (by decide))]
    exact no hn hi
  · have hn : ∀ j, j < 18 → p0 ≠ nI j := by
      intro j hj e
      rw [e] at c
      exact nI_ge hj (by decide) c
    have c0 : ¬ p0 < 0 := fun z => by
      have := fa_trans z (show (0 : Int32) ≤ nI 18 from by decide)
      exact (fa_of_lt this).2.1 c
    have c9 : (9 : Int32) ≤ p0 := by
      rw [fa_le] at c ⊢
      have : (nI 18).toInt = 18 := by decide
      have : (9 : Int32).toInt = 9 := by decide
      omega
    have c9' : (9 : Int32) < p0 := fa_le_ne c9 (fun e => hn 9 (by decide) e.symm)
    have hi : bi (fX11_isIn p0 (0 : Int32) (9 : Int32)) = 0 := by unfold fX11_isIn; rw [if_neg c0, if_pos c9']; rfl
    rw [if_neg c0, if_pos c9, if_pos hi, if_neg (show ¬ p0 = (10 : Int32) from hn 10 (by decide)), if_neg (show ¬ p0 = (11 : Int32) from hn 11 (by decide)), if_neg (show ¬ p0 = (12 : Int32) from hn 12 (by decide)), if_neg (show ¬ p0 = (13 : Int32) from hn 13 (by decide)), if_neg (show ¬ p0 = (14 : Int32) from hn 14 (by decide)), if_neg (show ¬ p0 = (15 : Int32) from hn 15 (by decide)), if_neg (show ¬ p0 = (16 : Int32) from hn 16 (by decide)), if_neg (show ¬ p0 = (17 : Int32) from hn 17 (by decide))]
    exact no hn hi
  · by_cases c9 : j < 9
    · have hi : ¬ bi (fX11_isIn (nI j) (0 : Int32) (9 : Int32)) = 0 := by
        have : ∀ j, j < 9 → ¬ bi (fX11_isIn (nI j) (0 : Int32) (9 : Int32)) = 0 := by decide +kernel
        exact this j c9
      rw [if_neg (nI_pos (by omega)), if_neg (show ¬ (9 : Int32) ≤ nI j from nI_ge (b := 9) c9 (by decide)), if_neg hi, gdN c9 (by decide), gdN (by omega) (by decide), nI_clamp (by omega)]
      have e1 : x.1 2 j = nI (N j) := hX.1 j c9
      have e2 : y.1 1 j = nI (N j) := al_k hY c9
      exact ⟨_, _, rfl, rfl, e1.trans e2.symm, fin⟩
    · rw [if_neg (nI_pos (by omega)), if_pos (show (9 : Int32) ≤ nI j from nI_le (a := 9) (by omega) (by omega))]
      unfold fX10_count_j28
      have ne : ∀ i, i < 18 → i ≠ j → ¬ nI j = nI i := fun i hi hij e => hij ((nI_eq (by omega) (by omega)).mp e).symm
      have hin : j ≠ 9 → bi (fX11_isIn (nI j) (0 : Int32) (9 : Int32)) = 0 := by
        intro hj
        have : ∀ j, j < 18 → 9 < j → bi (fX11_isIn (nI j) (0 : Int32) (9 : Int32)) = 0 := by decide +kernel
        exact this j j1 (by omega)
      have e : j = 9 ∨ j = 10 ∨ j = 11 ∨ j = 12 ∨ j = 13 ∨ j = 14 ∨ j = 15 ∨ j = 16 ∨ j = 17 := by omega
      rcases e with e | e | e | e | e | e | e | e | e <;> subst e
      · rw [if_pos (show nI 9 = (9 : Int32) from rfl), if_neg (show ¬ bi (fX11_isIn (nI 9) (0 : Int32) (9 : Int32)) = 0 from by decide), gdN (by decide) (by decide)]
        have e2 : y.1 1 9 = nI nb := al_9 hY
        have e1 : x.1 1 4 = nI nb := hX.2.1
        exact ⟨_, _, rfl, rfl, e1.trans e2.symm, fin⟩
      · rw [if_neg (show ¬ nI 10 = (9 : Int32) from by decide), if_pos (show nI 10 = (10 : Int32) from rfl), if_pos (hin (by decide)), if_pos (show nI 10 = (10 : Int32) from rfl)]
        have e1 : x.1 11 1 = nI (2 ^ f) := hW.1
        exact ⟨_, _, rfl, rfl, e1.trans q2.symm, fin⟩
      · rw [if_neg (show ¬ nI 11 = (9 : Int32) from by decide), if_neg (show ¬ nI 11 = (10 : Int32) from by decide), if_pos (show nI 11 = (11 : Int32) from rfl), if_pos (hin (by decide)), if_neg (show ¬ nI 11 = (10 : Int32) from by decide), if_pos (show nI 11 = (11 : Int32) from rfl)]
        refine ⟨_, _, rfl, rfl, ?_, fin⟩
        show (if x.1 12 4 = 0 then (0 : Int32) else 1) = (if tJ 14 = 0 then (0 : Int32) else 1)
        rw [x4, y14]
      · rw [if_neg (show ¬ nI 12 = (9 : Int32) from by decide), if_neg (show ¬ nI 12 = (10 : Int32) from by decide), if_neg (show ¬ nI 12 = (11 : Int32) from by decide), if_pos (show nI 12 = (12 : Int32) from rfl), if_pos (hin (by decide)), if_neg (show ¬ nI 12 = (10 : Int32) from by decide), if_neg (show ¬ nI 12 = (11 : Int32) from by decide), if_pos (show nI 12 = (12 : Int32) from rfl)]
        exact ⟨_, _, rfl, rfl, x2.trans y11.symm, fin⟩
      · rw [if_neg (show ¬ nI 13 = (9 : Int32) from by decide), if_neg (show ¬ nI 13 = (10 : Int32) from by decide), if_neg (show ¬ nI 13 = (11 : Int32) from by decide), if_neg (show ¬ nI 13 = (12 : Int32) from by decide), if_pos (show nI 13 = (13 : Int32) from rfl), if_pos (hin (by decide)), if_neg (show ¬ nI 13 = (10 : Int32) from by decide), if_neg (show ¬ nI 13 = (11 : Int32) from by decide), if_neg (show ¬ nI 13 = (12 : Int32) from by decide), if_pos (show nI 13 = (13 : Int32) from rfl)]
        exact ⟨_, _, rfl, rfl, x3.trans y12.symm, fin⟩
      · rw [if_neg (show ¬ nI 14 = (9 : Int32) from by decide), if_neg (show ¬ nI 14 = (10 : Int32) from by decide), if_neg (show ¬ nI 14 = (11 : Int32) from by decide), if_neg (show ¬ nI 14 = (12 : Int32) from by decide), if_neg (show ¬ nI 14 = (13 : Int32) from by decide), if_pos (show nI 14 = (14 : Int32) from rfl), if_pos (hin (by decide)), if_neg (show ¬ nI 14 = (10 : Int32) from by decide), if_neg (show ¬ nI 14 = (11 : Int32) from by decide), if_neg (show ¬ nI 14 = (12 : Int32) from by decide), if_neg (show ¬ nI 14 = (13 : Int32) from by decide), if_pos (show nI 14 = (14 : Int32) from rfl)]
        obtain ⟨tK, z2, gr2, gc2, nr2, r1, r2⟩ := y_summed (wh := 0) hY.2.1 ok hM hmx hb hY.2.2 hfit (by decide) tJ z gr gc nr
        have r1 : fX11_summed tJ (y.1 1) z gr gc nr (0 : Int32) = _ := r1
        have u := x_ones hW ok hM hb hX.2 hfit hbs hG hc h0
        have u : fX9_ones (x.1 11) (x.1 12) (x.1 13) (x.1 14) (x.1 1) (x.1 2) (x.1 3) (x.1 4) (x.1 5) (x.1 6) (x.1 7) = _ := u
        rw [u, bnS, r1, bnS]
        exact ⟨_, _, rfl, rfl, rfl, RelC_y0 (fun i hi => (r2 i (.inl hi)).trans (q5 i (.inl hi))) h⟩
      · rw [if_neg (show ¬ nI 15 = (9 : Int32) from by decide), if_neg (show ¬ nI 15 = (10 : Int32) from by decide), if_neg (show ¬ nI 15 = (11 : Int32) from by decide), if_neg (show ¬ nI 15 = (12 : Int32) from by decide), if_neg (show ¬ nI 15 = (13 : Int32) from by decide), if_neg (show ¬ nI 15 = (14 : Int32) from by decide), if_pos (show nI 15 = (15 : Int32) from rfl), if_pos (hin (by decide)), if_neg (show ¬ nI 15 = (10 : Int32) from by decide), if_neg (show ¬ nI 15 = (11 : Int32) from by decide), if_neg (show ¬ nI 15 = (12 : Int32) from by decide), if_neg (show ¬ nI 15 = (13 : Int32) from by decide), if_neg (show ¬ nI 15 = (14 : Int32) from by decide), if_pos (show nI 15 = (15 : Int32) from rfl)]
        refine ⟨_, _, rfl, rfl, ?_, fin⟩
        exact k3.trans (k5.symm.trans (q5 6 (by decide)).symm)
      · rw [if_neg (show ¬ nI 16 = (9 : Int32) from by decide), if_neg (show ¬ nI 16 = (10 : Int32) from by decide), if_neg (show ¬ nI 16 = (11 : Int32) from by decide), if_neg (show ¬ nI 16 = (12 : Int32) from by decide), if_neg (show ¬ nI 16 = (13 : Int32) from by decide), if_neg (show ¬ nI 16 = (14 : Int32) from by decide), if_neg (show ¬ nI 16 = (15 : Int32) from by decide), if_pos (show nI 16 = (16 : Int32) from rfl), if_pos (hin (by decide)), if_neg (show ¬ nI 16 = (10 : Int32) from by decide), if_neg (show ¬ nI 16 = (11 : Int32) from by decide), if_neg (show ¬ nI 16 = (12 : Int32) from by decide), if_neg (show ¬ nI 16 = (13 : Int32) from by decide), if_neg (show ¬ nI 16 = (14 : Int32) from by decide), if_neg (show ¬ nI 16 = (15 : Int32) from by decide), if_pos (show nI 16 = (16 : Int32) from rfl)]
        refine ⟨_, _, rfl, rfl, ?_, fin⟩
        exact t2.trans (t3.symm.trans (q5 3 (by decide)).symm)
      · rw [if_neg (show ¬ nI 17 = (9 : Int32) from by decide), if_neg (show ¬ nI 17 = (10 : Int32) from by decide), if_neg (show ¬ nI 17 = (11 : Int32) from by decide), if_neg (show ¬ nI 17 = (12 : Int32) from by decide), if_neg (show ¬ nI 17 = (13 : Int32) from by decide), if_neg (show ¬ nI 17 = (14 : Int32) from by decide), if_neg (show ¬ nI 17 = (15 : Int32) from by decide), if_neg (show ¬ nI 17 = (16 : Int32) from by decide), if_pos (show nI 17 = (17 : Int32) from rfl), if_pos (hin (by decide)), if_neg (show ¬ nI 17 = (10 : Int32) from by decide), if_neg (show ¬ nI 17 = (11 : Int32) from by decide), if_neg (show ¬ nI 17 = (12 : Int32) from by decide), if_neg (show ¬ nI 17 = (13 : Int32) from by decide), if_neg (show ¬ nI 17 = (14 : Int32) from by decide), if_neg (show ¬ nI 17 = (15 : Int32) from by decide), if_neg (show ¬ nI 17 = (16 : Int32) from by decide), if_pos (show nI 17 = (17 : Int32) from rfl)]
        obtain ⟨tK, z2, gr2, gc2, nr2, r1, r2⟩ := y_summed (wh := 1) hY.2.1 ok hM hmx hb hY.2.2 hfit (by decide) tJ z gr gc nr
        have r1 : fX11_summed tJ (y.1 1) z gr gc nr (1 : Int32) = _ := r1
        have w0 : fX9_wrong (x.1 12) (x.1 1) (x.1 5) (0 : Int32) = _ := x_wrong (v := 0) hb xb x4 (by decide)
        have w1 : fX9_wrong (x.1 12) (x.1 1) (x.1 5) (1 : Int32) = _ := x_wrong (v := 1) hb xb x4 (by decide)
        rw [w0, bnS, w1, bnS, r1, bnS]
        refine ⟨_, _, rfl, rfl, ?_, RelC_y0 (fun i hi => (r2 i (.inl hi)).trans (q5 i (.inl hi))) h⟩
        rw [tst_sum ok hM hb hfit hds hbs (by decide)]
        generalize gvn R C nb (N 3) (N 4) = bs
        cases bs with
        | some b => rfl
        | none =>
          show nI (fb_sm (fun k => if B k = 0 then 0 else 1) nb) + nI (fb_sm (fun k => if B k = 1 then 0 else 1) nb) = nI (fb_sm (fun k => if 1 = 1 then 1 else if B k = 1 - 2 then 1 else 0) nb)
          rw [nI_add, ← fb_sm_add]
          congr 1
          exact fb_sm_cong (fun k hk => by
            have := (hb.2 k hk).2.2
            have e : B k = 0 ∨ B k = 1 := by omega
            rcases e with e | e <;> rw [e] <;> decide)
