/-! ===== the layout that a wish takes: the reference ===== -/
noncomputable def wshS (N : Nat → Nat) (w : Nat) (p : Int32) : Nat → Int32 × Int32
  | 0 => ((-1 : Int32), (0 : Int32))
  | f + 1 => @ite _ (okM w f) (Classical.propDecidable _) (if (wshS N w p f).1 = (-1 : Int32) then (nI (2 ^ f), csN N w f p) else if csN N w f p < (wshS N w p f).2 then (nI (2 ^ f), csN N w f p) else wshS N w p f) (wshS N w p f)
noncomputable def wshN (N : Nat → Nat) (w : Nat) (p : Int32) : Int32 := (wshS N w p 4).1
noncomputable def mxN (N : Nat → Nat) (w : Nat) : Int32 := if N 2 = 0 then wshN N w (nI (N 8)) else nI (N 2)
theorem wshS_in (N : Nat → Nat) (w : Nat) (p : Int32) : ∀ k, k ≤ 4 → ((wshS N w p k).1 = -1 ∧ ∀ f, f < k → ¬ okM w f) ∨ ∃ f, f < k ∧ okM w f ∧ (wshS N w p k).1 = nI (2 ^ f) := by
  intro k
  induction k with
  | zero => intro _; exact .inl ⟨rfl, fun f h => absurd h (Nat.not_lt_zero f)⟩
  | succ k ih =>
    intro hk
    have ih := ih (by omega)
    rw [wshS]
    by_cases c : okM w k
    · rw [if_pos c]
      by_cases c1 : (wshS N w p k).1 = (-1 : Int32)
      · rw [if_pos c1]
        exact .inr ⟨k, by omega, c, rfl⟩
      · rw [if_neg c1]
        by_cases c2 : csN N w k p < (wshS N w p k).2
        · rw [if_pos c2]
          exact .inr ⟨k, by omega, c, rfl⟩
        · rw [if_neg c2]
          rcases ih with ih | ⟨f, h1, h2, h3⟩
          · exact absurd ih.1 c1
          · exact .inr ⟨f, by omega, h2, h3⟩
    · rw [if_neg c]
      rcases ih with ih | ⟨f, h1, h2, h3⟩
      · refine .inl ⟨ih.1, fun f hf => ?_⟩
        by_cases e : f = k
        · rw [e]; exact c
        · exact ih.2 f (by omega)
      · exact .inr ⟨f, by omega, h2, h3⟩
theorem wshN_in (N : Nat → Nat) {w : Nat} (p : Int32) (h1 : 4 ≤ w) (h2 : w ≤ 10) : ∃ f, okM w f ∧ wshN N w p = nI (2 ^ f) := by
  rcases wshS_in N w p 4 (Nat.le_refl _) with h | ⟨f, -, h, e⟩
  · exfalso
    by_cases c : w ≤ 9
    · exact h.2 0 (by decide) ⟨by decide, by omega, by omega⟩
    · exact h.2 1 (by decide) ⟨by decide, by omega, by omega⟩
  · exact ⟨f, h, e⟩
section YV_
variable {al : Nat → Int32} {b w : Nat} {N : Nat → Nat}
theorem y_wishedBy (hm : mdl al b N) (ok : okN N w) (z0 : Nat → Int32) (p : Int32) : ∃ z, fX11_wishedBy al z0 (nI b) p = some (wshN N w p, z) := by
  unfold fX11_wishedBy
  have loop : ∀ (j F k : Nat) (z : Nat → Int32), k + j = 4 → j < F → ∃ z2, fX11_wishedBy_l8 (nI b) p al F (wshS N w p k).1 (wshS N w p k).2 (nI (2 ^ k)) z = some (wshN N w p, z2) := by
    intro j
    induction j with
    | zero =>
      intro F k z h1 h2
      obtain ⟨F, rfl⟩ : ∃ G, F = G + 1 := ⟨F - 1, by omega⟩
      have : k = 4 := by omega
      subst this
      rw [fX11_wishedBy_l8, if_pos (show (8 : Int32) < nI (2 ^ 4) from by decide)]
      exact ⟨z, rfl⟩
    | succ j ih =>
      intro F k z h1 h2
      obtain ⟨F, rfl⟩ : ∃ G, F = G + 1 := ⟨F - 1, by omega⟩
      have hk : k ≤ 3 := by omega
      have h8 := p2f hk
      have e2 : nI (2 ^ k) * (2 : Int32) = nI (2 ^ (k + 1)) := by rw [Nat.pow_succ]; exact pk_mul _ 2
      rw [fX11_wishedBy_l8, if_neg (show ¬ (8 : Int32) < nI (2 ^ k) from nI_nlt (a := 8) (by omega) (by omega)), e2]
      obtain ⟨r, hr, hr2⟩ := y_possible hm ok hk
      rw [hr, bnS]
      by_cases c : okM w k
      · rw [hr2.mpr c, if_neg (show ¬ bi true = 0 from by decide)]
        obtain ⟨z2, hz⟩ := y_cost hm ok c z p
        rw [hz, bnS]
        have := ih F (k + 1) z2 (by omega) (by omega)
        rw [wshS, if_pos c] at this
        by_cases c1 : (wshS N w p k).1 = (-1 : Int32)
        · rw [if_pos c1] at this ⊢
          exact this
        · rw [if_neg c1] at this ⊢
          by_cases c2 : csN N w k p < (wshS N w p k).2
          · rw [if_pos c2] at this ⊢
            exact this
          · rw [if_neg c2] at this ⊢
            exact this
      · have hr3 : r = false := by
          cases r
          · rfl
          · exact absurd (hr2.mp rfl) c
        rw [hr3, if_pos (show bi false = 0 from by decide)]
        have := ih F (k + 1) z (by omega) (by omega)
        rw [wshS, if_neg c] at this
        exact this
  obtain ⟨z, h⟩ := loop 4 FU 0 z0 rfl (by show 4 < 4294967296; decide)
  refine ⟨z, ?_⟩
  have h' : fX11_wishedBy_l8 (nI b) p al FU (-1 : Int32) (0 : Int32) (1 : Int32) z0 = some (wshN N w p, z) := h
  rw [h', bnS]
theorem y_mux (hm : mdl al b N) (ok : okN N w) (z0 : Nat → Int32) : ∃ z, fX11_mux al z0 (nI b) = some (mxN N w, z) := by
  unfold fX11_mux
  have e2 : nI b + (2 : Int32) = nI (b + 2) := nI_add b 2
  have e8 : nI b + (8 : Int32) = nI (b + 8) := nI_add b 8
  have hb := hm.1
  rw [e2, e8, gdN (by omega) (by decide), nI_clamp (by omega), hm.2 2 (by decide)]
  unfold mxN
  have hN2 : N 2 < 2 ^ 31 := by
    rcases ok.2.2.2.2.2.1 with e | ⟨f, hf, e⟩
    · omega
    · have := p2f hf; omega
  by_cases c : N 2 = 0
  · rw [if_pos c, c, if_pos (show nI 0 ≤ 0 from by decide), gdN (by omega) (by decide), nI_clamp (by omega), hm.2 8 (by decide)]
    obtain ⟨z, hz⟩ := y_wishedBy hm ok z0 (nI (N 8))
    exact ⟨z, by rw [hz, bnS]⟩
  · rw [if_neg c, if_neg (show ¬ nI (N 2) ≤ 0 from nI_nle (by omega) hN2), gdN (by omega) (by decide)]
    exact ⟨z0, rfl⟩
end YV_
