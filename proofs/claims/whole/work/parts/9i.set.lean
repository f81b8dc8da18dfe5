/-! ===== whether a spec is fit ===== -/
theorem mx_in {N : Nat → Nat} {w : Nat} (ok : okN N w) : ∃ f, f ≤ 3 ∧ mxN N w = nI (2 ^ f) ∧ (N 2 = 0 → okM w f) ∧ (N 2 ≠ 0 → N 2 = 2 ^ f) := by
  unfold mxN
  by_cases c : N 2 = 0
  · rw [if_pos c]
    obtain ⟨f, h1, h2⟩ := wshN_in N (nI (N 8)) ok.2.1 ok.2.2.1
    exact ⟨f, h1.1, h2, fun _ => h1, fun z => absurd c z⟩
  · rw [if_neg c]
    rcases ok.2.2.2.2.2.1 with e | ⟨f, hf, e⟩
    · exact absurd e c
    · exact ⟨f, hf, by rw [e], fun z => absurd z c, fun _ => e⟩
theorem x_liesIn {R C B : Nat → Nat} {nb : Nat} {sI br bc bb : Nat → Int32} (hb : okBd nb R C B) (hx : xBd sI br bc bb nb R C B) {rows cols : Nat} (hr : rows < 2 ^ 31) (hc : cols < 2 ^ 31) : ∃ v, fX5_liesIn sI br bc (nI rows) (nI cols) = some v ∧ (v = true ↔ ∀ k, k < nb → R k < rows ∧ C k < cols) := by
  have hb1 := hb.1
  unfold fX5_liesIn
  have loop : ∀ (d F k : Nat), k + d = nb → d < F → (∀ j, j < k → R j < rows ∧ C j < cols) → (fX5_liesIn_l2 (nI rows) (nI cols) sI br bc F (nI k) = some (.inl ()) ∧ ∀ j, j < nb → R j < rows ∧ C j < cols) ∨ ((¬ ∀ j, j < nb → R j < rows ∧ C j < cols) ∧ fX5_liesIn_l2 (nI rows) (nI cols) sI br bc F (nI k) = some (.inr false)) := by
    intro d
    induction d with
    | zero =>
      intro F k e1 e2 hk
      obtain ⟨F, rfl⟩ : ∃ G, F = G + 1 := ⟨F - 1, by omega⟩
      rw [fX5_liesIn_l2, hx.1, if_pos (nI_le (by omega) (by omega))]
      exact .inl ⟨rfl, fun j hj => hk j (by omega)⟩
    | succ d ih =>
      intro F k e1 e2 hk
      obtain ⟨F, rfl⟩ : ∃ G, F = G + 1 := ⟨F - 1, by omega⟩
      have w1 := hb.2 k (by omega)
      have w2 := hx.2 k (by omega)
      rw [fX5_liesIn_l2, hx.1, if_neg (nI_ge (by omega) (by omega)), gdN (by omega) (by decide), nI_clamp (by omega), w2.1, w2.2.1, show nI k + (1 : Int32) = nI (k + 1) from nI_1 k]
      by_cases c1 : rows ≤ R k
      · rw [if_pos (nI_le c1 (by omega))]
        exact .inr ⟨fun z => by have := (z k (by omega)).1; omega, rfl⟩
      · rw [if_neg (nI_ge (by omega) hr), gdN (by omega) (by decide)]
        by_cases c2 : C k < cols
        · rw [if_pos (nI_lt c2 hc)]
          exact ih F (k + 1) (by omega) (by omega) (fun j hj => by
            by_cases e : j = k
            · rw [e]; exact ⟨by omega, c2⟩
            · exact hk j (by omega))
        · rw [if_neg (nI_nlt (by omega) (by omega))]
          exact .inr ⟨fun z => c2 (z k (by omega)).2, rfl⟩
  rcases loop nb FU 0 (by omega) (by show _ < 4294967296; omega) (fun j hj => absurd hj (Nat.not_lt_zero j)) with ⟨q1, q2⟩ | ⟨q1, q2⟩
  · have q1 : fX5_liesIn_l2 (nI rows) (nI cols) sI br bc FU (0 : Int32) = some (.inl ()) := q1
    rw [q1, bnS]
    exact ⟨true, rfl, fun _ => q2, fun _ => rfl⟩
  · have q2 : fX5_liesIn_l2 (nI rows) (nI cols) sI br bc FU (0 : Int32) = some (.inr false) := q2
    rw [q2, bnS]
    exact ⟨false, rfl, fun z => absurd z (by decide), fun z => absurd z q1⟩
theorem unfit_both {N R C B : Nat → Nat} {w nb b : Nat} {sI nu br bc bb al : Nat → Int32} (ok : okN N w) (hb : okBd nb R C B) (hnu : ∀ k, k < 9 → nu k = nI (N k)) (hx : xBd sI br bc bb nb R C B) (hm : mdl al b N) (hy : yBd al b nb R C B) (fI fz sz : Nat → Int32) : ∃ v u fI2 fz2 sz2, fX10_unfit fI fz sI nu br bc = some (v, fI2, fz2) ∧ fX11_unfit al sz (nI b) = some (u, sz2) ∧ ((v = 0 ∧ u = 0 ∧ ∃ f, okM w f ∧ mxN N w = nI (2 ^ f) ∧ ∀ k, k < nb → R k < 2 ^ (w - f) ∧ C k < N 1 * 2 ^ f) ∨ (v = 6 ∧ u = 6) ∨ (u = 5 ∧ ∃ f, f ≤ 3 ∧ N 2 = 2 ^ f ∧ ((v = 7 ∧ w - f < 3) ∨ (v = 8 ∧ 9 < w - f)))) := by
  have hb1 := hb.1
  have hbb := hm.1
  obtain ⟨f, hf, hmx, hz, hnz⟩ := mx_in ok
  have h8 := p2f hf
  have hw := pw10 ok.2.2.1
  have hw4 := ok.2.1
  have hw10 := ok.2.2.1
  have hp2 : N 1 * 2 ^ f ≤ 32 * 8 := Nat.mul_le_mul ok.2.2.2.2.1 h8.2
  have hp : 2 ^ (w - f) ≤ 1024 := pw10 (by omega)
  obtain ⟨fI2, fz2, q1⟩ := x_muxOf ok hnu fI fz
  have e0 : nu 0 = nI (2 ^ w) := by rw [hnu 0 (by decide), ok.1]
  have el : fX10_log (nI (2 ^ f)) = nI f := xlog f (by omega)
  have er : nu 0 >>> (fX10_log (nI (2 ^ f)) &&& 31) = nI (2 ^ (w - f)) := by rw [el, e0, shrN _ _ (by omega) (by omega), pdiv (by omega)]
  have ec : nu 1 <<< (fX10_log (nI (2 ^ f)) &&& 31) = nI (N 1 * 2 ^ f) := by rw [el, hnu 1 (by decide), shlN _ _ (by omega) (by omega)]
  unfold fX10_unfit fX11_unfit
  rw [q1, bnS, show (mxN N w, fI2, fz2).1 = nI (2 ^ f) from hmx, er, ec, show nI b + (2 : Int32) = nI (b + 2) from nI_add b 2, gdN (by omega) (by decide), gdN (by omega) (by decide), nI_clamp (show b + 2 < 2 ^ 31 by omega), hm.2 2 (by decide)]
  have j29 : okM w f → ∃ u sz2, fX11_unfit_j29 (nI b) al sz = some (u, sz2) ∧ ((u = 0 ∧ ∀ k, k < nb → R k < 2 ^ (w - f) ∧ C k < N 1 * 2 ^ f) ∨ (u = 6 ∧ ¬ ∀ k, k < nb → R k < 2 ^ (w - f) ∧ C k < N 1 * 2 ^ f)) := by
    intro hM
    unfold fX11_unfit_j29
    obtain ⟨z2, z1⟩ := y_mux hm ok sz
    rw [z1, bnS, show (mxN N w, z2).1 = nI (2 ^ f) from hmx]
    have loop : ∀ (d F k : Nat), k + d = nb → d < F → (∀ j, j < k → R j < 2 ^ (w - f) ∧ C j < N 1 * 2 ^ f) → (fX11_unfit_l37 (nI b) (nI (2 ^ f)) al z2 F (nI k) = some (.inl ()) ∧ ∀ j, j < nb → R j < 2 ^ (w - f) ∧ C j < N 1 * 2 ^ f) ∨ ((¬ ∀ j, j < nb → R j < 2 ^ (w - f) ∧ C j < N 1 * 2 ^ f) ∧ fX11_unfit_l37 (nI b) (nI (2 ^ f)) al z2 F (nI k) = some (.inr ((6 : Int32), z2))) := by
      intro d
      induction d with
      | zero =>
        intro F k e1 e2 hk
        obtain ⟨F, rfl⟩ : ∃ G, F = G + 1 := ⟨F - 1, by omega⟩
        rw [fX11_unfit_l37, show nI b + (9 : Int32) = nI (b + 9) from nI_add b 9, gdN (by omega) (by decide), nI_clamp (by omega), hy.1, if_pos (nI_le (by omega) (by omega))]
        exact .inl ⟨rfl, fun j hj => hk j (by omega)⟩
      | succ d ih =>
        intro F k e1 e2 hk
        obtain ⟨F, rfl⟩ : ∃ G, F = G + 1 := ⟨F - 1, by omega⟩
        have w1 := hb.2 k (by omega)
        have w2 := hy.2 k (by omega)
        rw [fX11_unfit_l37, show nI b + (9 : Int32) = nI (b + 9) from nI_add b 9, gdN (by omega) (by decide), nI_clamp (show b + 9 < 2 ^ 31 by omega), hy.1, if_neg (nI_ge (by omega) (by omega)), badOfN, show nI (b + 10 + 3 * k) + (1 : Int32) = nI (b + 10 + 3 * k + 1) from nI_1 _, gdN (by omega) (by decide), y_rows hm ok hf, bnS, nI_clamp (by omega), nI_clamp (by omega), w2.1, w2.2.1, show nI k + (1 : Int32) = nI (k + 1) from nI_1 k]
        by_cases c1 : 2 ^ (w - f) ≤ R k
        · rw [if_pos (nI_le c1 (by omega))]
          exact .inr ⟨fun z => by have := (z k (by omega)).1; omega, rfl⟩
        · rw [if_neg (nI_ge (by omega) (by omega)), gdN (by omega) (by decide), y_columns hm ok, bnS]
          by_cases c2 : C k < N 1 * 2 ^ f
          · rw [if_pos (nI_lt c2 (by omega))]
            exact ih F (k + 1) (by omega) (by omega) (fun j hj => by
              by_cases e : j = k
              · rw [e]; exact ⟨by omega, c2⟩
              · exact hk j (by omega))
          · rw [if_neg (nI_nlt (by omega) (by omega))]
            exact .inr ⟨fun z => c2 (z k (by omega)).2, rfl⟩
    rcases loop nb FU 0 (by omega) (by show _ < 4294967296; omega) (fun j hj => absurd hj (Nat.not_lt_zero j)) with ⟨q1, q2⟩ | ⟨q1, q2⟩
    · have q1 : fX11_unfit_l37 (nI b) (nI (2 ^ f)) al z2 FU (0 : Int32) = some (.inl ()) := q1
      dsimp only
      rw [q1, bnS]
      exact ⟨_, _, rfl, .inl ⟨rfl, q2⟩⟩
    · have q2 : fX11_unfit_l37 (nI b) (nI (2 ^ f)) al z2 FU (0 : Int32) = some (.inr ((6 : Int32), z2)) := q2
      dsimp only
      rw [q2, bnS]
      exact ⟨_, _, rfl, .inr ⟨rfl, q1⟩⟩
  have yes : okM w f → ∃ v u fI3 fz3 sz2, (if (8 : Int32) ≤ nI (2 ^ (w - f)) then (if nI (2 ^ (w - f)) ≤ (512 : Int32) then bn (fX5_liesIn sI br bc (nI (2 ^ (w - f))) (nI (N 1 * 2 ^ f))) fun a5 => some ((if (bi a5) = 0 then (6 : Int32) else (0 : Int32)), fI2, fz2) else some ((8 : Int32), fI2, fz2)) else some ((7 : Int32), fI2, fz2)) = some (v, fI3, fz3) ∧ fX11_unfit_j29 (nI b) al sz = some (u, sz2) ∧ ((v = 0 ∧ u = 0 ∧ ∃ f, okM w f ∧ mxN N w = nI (2 ^ f) ∧ ∀ k, k < nb → R k < 2 ^ (w - f) ∧ C k < N 1 * 2 ^ f) ∨ (v = 6 ∧ u = 6) ∨ (u = 5 ∧ ∃ f, f ≤ 3 ∧ N 2 = 2 ^ f ∧ ((v = 7 ∧ w - f < 3) ∨ (v = 8 ∧ 9 < w - f)))) := by
    intro hM
    have g1 : 8 ≤ 2 ^ (w - f) := Nat.pow_le_pow_right (n := 2) (by decide) hM.2.1
    have g2 : 2 ^ (w - f) ≤ 512 := Nat.le_trans (Nat.pow_le_pow_right (n := 2) (by decide) hM.2.2) (by decide)
    obtain ⟨lv, l1, l2⟩ := x_liesIn (rows := 2 ^ (w - f)) (cols := N 1 * 2 ^ f) hb hx (by omega) (by omega)
    obtain ⟨u, sz2, j1, j2⟩ := j29 hM
    rw [if_pos (show (8 : Int32) ≤ nI (2 ^ (w - f)) from nI_le (a := 8) g1 (by omega)), if_pos (show nI (2 ^ (w - f)) ≤ (512 : Int32) from nI_le (b := 512) g2 (by decide)), l1, bnS, j1]
    rcases j2 with ⟨j2, j3⟩ | ⟨j2, j3⟩
    · rw [l2.mpr j3, if_neg (show ¬ bi true = 0 from by decide)]
      exact ⟨_, _, _, _, _, rfl, rfl, .inl ⟨rfl, j2, f, hM, hmx, j3⟩⟩
    · have : lv = false := by
        cases lv
        · rfl
        · exact absurd (l2.mp rfl) j3
      rw [this, if_pos (show bi false = 0 from rfl)]
      exact ⟨_, _, _, _, _, rfl, rfl, .inr (.inl ⟨rfl, j2⟩)⟩
  by_cases c : N 2 = 0
  · rw [if_pos (show nI (N 2) ≤ 0 by rw [c]; decide)]
    exact yes (hz c)
  · have e2 := hnz c
    rw [if_neg (show ¬ nI (N 2) ≤ 0 by rw [e2]; exact nI_nle (by omega) (by omega))]
    obtain ⟨r, r1, r2⟩ := y_possible hm ok hf
    have r1 : fX11_isPossible al (nI b) (nI (N 2)) = some r := by rw [e2]; exact r1
    rw [r1, bnS]
    by_cases hM : okM w f
    · rw [r2.mpr hM, if_neg (show ¬ bi true = 0 from by decide)]
      exact yes hM
    · have hr : r = false := by
        cases r
        · rfl
        · exact absurd (r2.mp rfl) hM
      rw [hr, if_pos (show bi false = 0 from rfl)]
      by_cases c3 : w - f < 3
      · have g1 : 2 ^ (w - f) < 8 := Nat.pow_lt_pow_right (a := 2) (by decide) (show w - f < 3 by omega)
        rw [if_neg (show ¬ (8 : Int32) ≤ nI (2 ^ (w - f)) from nI_ge (b := 8) g1 (by decide))]
        exact ⟨_, _, _, _, _, rfl, rfl, .inr (.inr ⟨rfl, f, hf, e2, .inl ⟨rfl, c3⟩⟩)⟩
      · have c4 : 9 < w - f := by
          rcases Nat.lt_or_ge 9 (w - f) with z | z
          · exact z
          · exact absurd ⟨hf, by omega, z⟩ hM
        have g1 : 1024 ≤ 2 ^ (w - f) := Nat.pow_le_pow_right (n := 2) (by decide) (show 10 ≤ w - f by omega)
        rw [if_pos (show (8 : Int32) ≤ nI (2 ^ (w - f)) from nI_le (a := 8) (by omega) (by omega)), if_neg (show ¬ nI (2 ^ (w - f)) ≤ (512 : Int32) from nI_ge (a := 512) (by omega) (by omega))]
        exact ⟨_, _, _, _, _, rfl, rfl, .inr (.inr ⟨rfl, f, hf, e2, .inr ⟨rfl, c4⟩⟩)⟩
/-! ===== all cells 0 ===== -/
theorem y_clears (al : Nat → Int32) : ∃ al2, fX11_clears al = some al2 ∧ ∀ k, al2 k = if 46 ≤ k ∧ k < 4208 then 0 else al k := by
  unfold fX11_clears
  have loop : ∀ (d F i : Nat) (t : Nat → Int32), i + d = 4208 → d < F → 46 ≤ i → (∀ k, t k = if 46 ≤ k ∧ k < i then 0 else al k) → ∃ al2, fX11_clears_l3 F (nI i) t = some al2 ∧ ∀ k, al2 k = if 46 ≤ k ∧ k < 4208 then 0 else al k := by
    intro d
    induction d with
    | zero =>
      intro F i t e1 e2 hi ht
      obtain ⟨F, rfl⟩ : ∃ G, F = G + 1 := ⟨F - 1, by omega⟩
      have : i = 4208 := by omega
      subst this
      rw [fX11_clears_l3, if_pos (show (4208 : Int32) ≤ nI 4208 from by decide)]
      exact ⟨t, rfl, ht⟩
    | succ d ih =>
      intro F i t e1 e2 hi ht
      obtain ⟨F, rfl⟩ : ∃ G, F = G + 1 := ⟨F - 1, by omega⟩
      rw [fX11_clears_l3, if_neg (show ¬ (4208 : Int32) ≤ nI i from nI_ge (b := 4208) (by omega) (by decide)), gdN (by omega) (by decide), nI_clamp (by omega), show nI i + (1 : Int32) = nI (i + 1) from nI_1 i]
      refine ih F (i + 1) _ (by omega) (by omega) (by omega) (fun k => ?_)
      by_cases ek : k = i
      · subst ek; rw [ux_at, if_pos (by omega)]
      · rw [ux_ne ek, ht]
        by_cases w : 46 ≤ k ∧ k < i
        · rw [if_pos w, if_pos (by omega)]
        · rw [if_neg w, if_neg (by omega)]
  obtain ⟨al2, q1, q2⟩ := loop 4162 FU 46 al (by decide) (by decide) (Nat.le_refl _) (fun k => by rw [if_neg (by omega)])
  have q1 : fX11_clears_l3 FU (46 : Int32) al = some al2 := q1
  rw [q1, bnS]
  exact ⟨al2, rfl, q2⟩
theorem x_fill (n : Nat) (hn : n < 2 ^ 31) (a : Nat → Int32) : ∃ a2, fJ7_fill_53178 n a (0 : Int32) = some a2 ∧ ∀ k, k < n → a2 k = 0 := by
  unfold fJ7_fill_53178
  have loop : ∀ (d F i : Nat) (t : Nat → Int32), i + d = n → d < F → (∀ k, k < i → t k = 0) → ∃ a2, fJ7_fill_53178_l5 (0 : Int32) (nI n) n F (nI i) t = some a2 ∧ ∀ k, k < n → a2 k = 0 := by
    intro d
    induction d with
    | zero =>
      intro F i t e1 e2 ht
      obtain ⟨F, rfl⟩ : ∃ G, F = G + 1 := ⟨F - 1, by omega⟩
      have : i = n := by omega
      subst this
      rw [fJ7_fill_53178_l5, if_pos (nI_le (Nat.le_refl _) hn)]
      exact ⟨t, rfl, ht⟩
    | succ d ih =>
      intro F i t e1 e2 ht
      obtain ⟨F, rfl⟩ : ∃ G, F = G + 1 := ⟨F - 1, by omega⟩
      rw [fJ7_fill_53178_l5, if_neg (nI_ge (by omega) hn), gdN (by omega) hn, nI_clamp (by omega), show nI i + (1 : Int32) = nI (i + 1) from nI_1 i]
      refine ih F (i + 1) _ (by omega) (by omega) (fun k hk => ?_)
      by_cases ek : k = i
      · subst ek; rw [ux_at]
      · rw [ux_ne ek]; exact ht k (by omega)
  obtain ⟨a2, q1, q2⟩ := loop n FU 0 a (by omega) (by show _ < 4294967296; omega) (fun k hk => absurd hk (Nat.not_lt_zero k))
  have q1 : fJ7_fill_53178_l5 (0 : Int32) (Int32.ofNat n) n FU (0 : Int32) a = some a2 := q1
  rw [q1, bnS]
  exact ⟨a2, rfl, q2⟩
theorem x_clear (wd sp : Nat → Int32) : ∃ wd2 sp2, fX0_clear wd sp = some (wd2, sp2) ∧ (∀ k, k < 1056 → wd2 k = 0) ∧ ∀ k, k < 33 → sp2 k = 0 := by
  unfold fX0_clear
  obtain ⟨a, q1, q2⟩ := x_fill 1056 (by decide) wd
  obtain ⟨b, r1, r2⟩ := x_fill 33 (by decide) sp
  rw [q1, bnS, r1, bnS]
  exact ⟨a, b, rfl, q2, r2⟩
theorem celR_0 {wd sp al : Nat → Int32} {N : Nat → Nat} {w f : Nat} (ok : okN N w) (hf : okM w f) (hw : ∀ k, k < 1056 → wd k = 0) (hs : ∀ k, k < 33 → sp k = 0) (ha : ∀ k, 46 ≤ k → k < 4208 → al k = 0) : celR wd sp al 0 N w f := by
  have h8 := p2f hf.1
  have hN1 := ok.2.2.2.2.1
  have hN3 := ok.2.2.2.2.2.2.1
  have hp : 2 ^ (w - f) ≤ 512 := Nat.le_trans (Nat.pow_le_pow_right (n := 2) (by decide) hf.2.2) (by decide)
  have hp2 : N 1 * 2 ^ f ≤ 32 * 8 := Nat.mul_le_mul hN1 h8.2
  have hy : ∀ q, q < 133184 → ybit al 0 q = false := by
    intro q hq
    unfold ybit
    rw [ha _ (by omega) (by omega), b_0]
  intro r hr
  refine ⟨fun c hc => ?_, fun i hi => ?_, fun o ho j j1 j2 => ?_⟩
  · rw [hw _ (wix ok hf hr (Nat.mod_lt _ (Nat.two_pow_pos f))), b_0, hy _ (by omega)]
  · unfold spb
    rw [hs _ (by omega), b_0, hy _ (by omega)]
  · rw [hw _ (wix ok hf hr ho), b_0]
