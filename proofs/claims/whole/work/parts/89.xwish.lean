/-! ===== the layout that a wish takes: the program ===== -/
theorem plN_b (N : Nat → Nat) (w f : Nat) : 1 ≤ plN N w f ∧ plN N w f ≤ 16 := plQ_b N w f 15
theorem x_cycle {N : Nat → Nat} {w f : Nat} {tI z : Nat → Int32} (h : frm N w f tI z) : fX4_cycle tI = some (cyN N w f) := by
  obtain ⟨⟨-, -, h3, -, -, -, -, -, h11⟩, ⟨-, -, h14, -, h16, h17⟩, -⟩ := h
  have hp := plN_b N w f
  unfold fX4_cycle
  rw [h17, if_pos (show (1 : Int32) ≤ nI (plN N w f) from nI_le (a := 1) hp.1 (by omega)), gzN (by omega) (by omega), h11, h14, h16, h3]
  unfold cyN coN rpN
  rw [Int32.add_assoc (deN N w f + wrN N f) (20 : Int32), Int32.add_assoc ((deN N w f + wrN N f) + _) (40 : Int32)]
theorem x_cost {N : Nat → Nat} {w f : Nat} {tI z : Nat → Int32} (h : frm N w f tI z) (p : Int32) : fX4_cost tI p = some (csN N w f p) := by
  unfold fX4_cost csN
  rw [x_cycle h, bnS]
  obtain ⟨-, ⟨h12, h13, -⟩, -⟩ := h
  unfold fX4_area
  rw [h12, h13]
  by_cases c0 : p = 0
  · rw [if_pos (show p = (0 : Int32) from c0), if_pos c0]
  · rw [if_neg (show ¬ p = (0 : Int32) from c0), if_neg c0]
    by_cases c1 : p = (1 : Int32)
    · rw [if_pos c1, if_pos c1]
    · rw [if_neg c1, if_neg c1, Int32.zero_sub]
theorem shl1 : ∀ f, f < 4 → (1 : Int32) <<< (nI f &&& 31) = nI (2 ^ f) := by decide +kernel
theorem x_choose {N : Nat → Nat} {w : Nat} {p0 : Nat → Int32} (ok : okN N w) (hp : ∀ k, k < 9 → p0 k = nI (N k)) (tI z0 : Nat → Int32) (p : Int32) : ∃ tJ z, fX4_choose tI z0 p0 p = some (wshN N w p, tJ, z) := by
  unfold fX4_choose
  have loop : ∀ (j F k : Nat) (tI z : Nat → Int32), k + j = 4 → j < F → ∃ tJ z2, fX4_choose_l8 p p0 F (wshS N w p k).1 (wshS N w p k).2 (nI k) tI z = some (wshN N w p, tJ, z2) := by
    intro j
    induction j with
    | zero =>
      intro F k tI z h1 h2
      obtain ⟨F, rfl⟩ : ∃ G, F = G + 1 := ⟨F - 1, by omega⟩
      have : k = 4 := by omega
      subst this
      rw [fX4_choose_l8, if_pos (show (3 : Int32) < nI 4 from by decide)]
      exact ⟨tI, z, rfl⟩
    | succ j ih =>
      intro F k tI z h1 h2
      obtain ⟨F, rfl⟩ : ∃ G, F = G + 1 := ⟨F - 1, by omega⟩
      have hk : k ≤ 3 := by omega
      rw [fX4_choose_l8, if_neg (show ¬ (3 : Int32) < nI k from nI_nlt (a := 3) (by omega) (by omega)), shl1 k (by omega), hp 0 (by decide), ok.1, show nI k + (1 : Int32) = nI (k + 1) from nI_1 k]
      obtain ⟨r, tJ, z2, hr, hr2, hr3⟩ := x_make ok (fun k _ h => hp k h) hk tI z
      rw [hr, bnS]
      have := ih F (k + 1) tJ z2 (by omega) (by omega)
      rw [wshS] at this
      by_cases c : okM w k
      · rw [if_pos c] at this
        rw [hr2.mpr c, if_neg (show ¬ bi true = 0 from by decide), x_cost (hr3 c)]
        by_cases c1 : (wshS N w p k).1 = (-1 : Int32)
        · rw [if_pos c1] at this ⊢
          exact this
        · rw [if_neg c1] at this ⊢
          rw [bnS]
          by_cases c2 : csN N w k p < (wshS N w p k).2
          · rw [if_pos c2] at this
            rw [if_neg (fa_of_lt c2).2.1]
            exact this
          · rw [if_neg c2] at this
            rw [if_pos (fa_of_nlt c2)]
            exact this
      · have hr4 : r = false := by
          cases r
          · rfl
          · exact absurd (hr2.mp rfl) c
        rw [if_neg c] at this
        rw [hr4, if_pos (show bi false = 0 from by decide)]
        exact this
  obtain ⟨tJ, z, h⟩ := loop 4 FU 0 tI z0 rfl (by show 4 < 4294967296; decide)
  have h' : fX4_choose_l8 p p0 FU (-1 : Int32) (0 : Int32) (0 : Int32) tI z0 = some (wshN N w p, tJ, z) := h
  refine ⟨tJ, z, ?_⟩
  rw [h', bnS]
theorem x_muxOf {N : Nat → Nat} {w : Nat} {p0 : Nat → Int32} (ok : okN N w) (hp : ∀ k, k < 9 → p0 k = nI (N k)) (tI z0 : Nat → Int32) : ∃ tJ z, fX4_muxOf tI z0 p0 = some (mxN N w, tJ, z) := by
  unfold fX4_muxOf mxN
  rw [hp 2 (by decide), hp 8 (by decide)]
  have hN2 : N 2 < 2 ^ 31 := by
    rcases ok.2.2.2.2.2.1 with e | ⟨f, hf, e⟩
    · omega
    · have := p2f hf; omega
  by_cases c : N 2 = 0
  · rw [if_pos c, c, if_pos (show nI 0 = 0 from rfl)]
    obtain ⟨tJ, z, h⟩ := x_choose ok hp tI z0 (nI (N 8))
    exact ⟨tJ, z, by rw [h, bnS]⟩
  · rw [if_neg c, if_neg (nI_ne0 (by omega) hN2)]
    exact ⟨tI, z0, rfl⟩
