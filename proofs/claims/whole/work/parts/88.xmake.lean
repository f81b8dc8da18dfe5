/-! ===== a form that is made ===== -/
def frm (N : Nat → Nat) (w f : Nat) (tI z : Nat → Int32) : Prop :=
  (tI 1 = nI (2 ^ (w - f)) ∧ tI 2 = nI (N 1 * 2 ^ f) ∧ tI 3 = nI (RR N w f) ∧ tI 4 = nI (CC N f) ∧ tI 5 = nI (w - f) ∧ tI 6 = nI f ∧ tI 9 = nI (sgN N w f) ∧ tI 10 = nI (tS (w - f) (CC N f) (sgN N w f)) ∧ tI 11 = deN N w f) ∧ (tI 12 = wiN N w f ∧ tI 13 = heN N w f ∧ tI 14 = wrN N f ∧ tI 15 = faN N w f ∧ tI 16 = (20 : Int32) + (5 : Int32) * nI f ∧ tI 17 = nI (plN N w f)) ∧ ∀ k, k < sgN N w f → z k = siN N w f k
theorem x_pulls {N : Nat → Nat} {w f : Nat} {tI : Nat → Int32} (h3 : tI 3 = nI (RR N w f)) (h15 : tI 15 = faN N w f) : fX4_mostPulls tI (nI (N 7)) = some (nI (plN N w f)) := by
  unfold fX4_mostPulls
  have loop : ∀ (k F : Nat), k ≤ 15 → k < F → ∃ r, fX4_mostPulls_l3 (nI (N 7)) tI F (nI (k + 1)) = some r ∧ (match r with | .inl _ => some (1 : Int32) | .inr y => some y) = some (nI (plQ N w f k)) := by
    intro k
    induction k with
    | zero =>
      intro F _ hF
      obtain ⟨F, rfl⟩ : ∃ G, F = G + 1 := ⟨F - 1, by omega⟩
      rw [fX4_mostPulls_l3, if_pos (show nI (0 + 1) ≤ (1 : Int32) from by decide)]
      exact ⟨_, rfl, rfl⟩
    | succ k ih =>
      intro F hk hF
      obtain ⟨F, rfl⟩ : ∃ G, F = G + 1 := ⟨F - 1, by omega⟩
      have em : nI (k + 1 + 1) + (-1 : Int32) = nI (k + 1) := by
        rw [← nI_1 (k + 1), Int32.add_assoc]; show nI (k + 1) + 0 = nI (k + 1); rw [Int32.add_zero]
      rw [fX4_mostPulls_l3, if_neg (show ¬ nI (k + 1 + 1) ≤ (1 : Int32) from fun q => absurd (nI_lt (a := 1) (b := k + 1 + 1) (by omega) (by omega)) (fun q2 => (fa_of_lt q2).2.1 q)), gzN (by omega) (by omega), h3, h15, em, plQ, show (40 : Int32) + ((30 : Int32) * nI (RR N w f)) / nI (k + 1 + 1) = rpN N w f (nI (k + 2)) from rfl]
      by_cases c : plP N w f (k + 2)
      · rw [if_pos c, if_neg (show ¬ _ < _ from c)]
        exact ⟨_, rfl, rfl⟩
      · rw [if_neg c, if_pos (show _ < _ from Classical.not_not.mp c)]
        exact ih F (by omega) (by omega)
  obtain ⟨r, h1, h2⟩ := loop 15 FU (Nat.le_refl _) (by show 15 < 4294967296; decide)
  have h1' : fX4_mostPulls_l3 (nI (N 7)) tI FU (16 : Int32) = some r := h1
  rw [h1', bnS]
  exact h2
theorem x_canBe2 : ∀ f, f < 4 → fX10_canBe (2 : Int32) (nI (2 ^ f)) = some true := by decide +kernel
theorem x_make {N : Nat → Nat} {w f : Nat} {p0 : Nat → Int32} (ok : okN N w) (hp : ∀ k, 0 < k → k < 9 → p0 k = nI (N k)) (hf : f ≤ 3) (tI z0 : Nat → Int32) : ∃ r tJ z, fX4_make tI z0 p0 (nI (2 ^ w)) (nI (2 ^ f)) = some (r, tJ, z) ∧ (r = true ↔ okM w f) ∧ (okM w f → frm N w f tJ z) := by
  have hw := ok.2.1
  have hw2 := ok.2.2.1
  have h8 := p2f hf
  unfold fX4_make
  rw [if_neg (show ¬ nI (2 ^ f) = 0 from nI_ne0 (by omega) (by omega)), x_canBe2 f (by omega), bnS, if_neg (show ¬ bi true = 0 from by decide), xlog f (by omega), shrN _ _ (p31 (by omega)) (by omega), pdiv (by omega)]
  by_cases c1 : 3 ≤ w - f
  · have hge : 8 ≤ 2 ^ (w - f) := Nat.pow_le_pow_right (n := 2) (by decide) c1
    have hlt : 2 ^ (w - f) < 2 ^ 31 := p31 (by omega)
    rw [if_neg (show ¬ nI (2 ^ (w - f)) < (8 : Int32) from nI_nlt (b := 8) hge hlt)]
    by_cases c2 : w - f ≤ 9
    · have hle : 2 ^ (w - f) ≤ 512 := Nat.le_trans (Nat.pow_le_pow_right (n := 2) (by decide) c2) (by decide)
      have hM : okM w f := ⟨hf, c1, c2⟩
      have hLC : okLC (w - f) (CC N f) := okLC_of ok hf c1 c2
      rw [if_pos (show nI (2 ^ (w - f)) ≤ (512 : Int32) from nI_le (b := 512) hle (by decide)), xlog (w - f) (by omega)]
      rw [hp 1 (by decide) (by decide), hp 3 (by decide) (by decide), hp 4 (by decide) (by decide), hp 5 (by decide) (by decide), hp 6 (by decide) (by decide), hp 7 (by decide) (by decide)]
      have eC : (nI (N 1) * nI (2 ^ f) + nI (N 4)) + (1 : Int32) = nI (CC N f) := by rw [pk_mul, nI_add, nI_1]; rfl
      have eR : (nI (2 ^ (w - f)) + nI (N 3)) + (1 : Int32) = nI (RR N w f) := by rw [nI_add, nI_1]; rfl
      have eK : nI (N 1) * nI (2 ^ f) = nI (N 1 * 2 ^ f) := pk_mul _ _
      rw [eC, eR, eK]
      obtain ⟨tJ, q1, q2, q3, q4, q5⟩ := x_stages (tI := upd (upd (upd (upd (upd (upd tI 1 (nI (2 ^ (w - f)))) 2 (nI (N 1 * 2 ^ f))) 3 (nI (RR N w f))) 4 (nI (CC N f))) 5 (nI (w - f))) 6 (nI f)) hLC rfl rfl rfl
      rw [q1, bnS]
      obtain ⟨z, s1, s2⟩ := x_sizes hLC q2 z0
      rw [s1, bnS]
      obtain ⟨⟨g1, g4, g5, g7, g8⟩, g9, g10, g11⟩ := q2
      have hs := stg_b (w - f) (CC N f)
      have e9 : tJ 9 - (1 : Int32) = nI (sgN N w f - 1) := by rw [g9]; exact pk_sub (b := 1) (by omega)
      have q3' : tJ 2 = nI (N 1 * 2 ^ f) := q3
      have q4' : tJ 3 = nI (RR N w f) := q4
      have q5' : tJ 6 = nI f := q5
      rw [e9, gdN (show sgN N w f - 1 < 8 by unfold sgN; omega) (by decide), nI_clamp (show sgN N w f - 1 < 2 ^ 31 by unfold sgN; omega), s2 (sgN N w f - 1) (by unfold sgN; omega), g4, g5, q4', q5']
      rw [x_pulls (N := N) (w := w) (f := f) (tI := upd (upd (upd (upd (upd tJ 12 (nI (CC N f) * nI (N 5) + (12 : Int32) * nI (w - f) + szI (w - f) (CC N f) (sgN N w f - 1))) 13 (nI (RR N w f) * nI (N 6) + (30 : Int32) + (8 : Int32) * nI f)) 14 (nI (CC N f) * nI (CC N f) / (20 : Int32))) 15 ((3 : Int32) * nI (RR N w f))) 16 ((20 : Int32) + (5 : Int32) * nI f)) q4' rfl, bnS]
      exact ⟨true, _, z, rfl, ⟨fun _ => hM, fun _ => rfl⟩, fun _ => ⟨⟨g1, q3', q4', g4, g5, q5', g9, g10, g11⟩, ⟨rfl, rfl, rfl, rfl, rfl, rfl⟩, s2⟩⟩
    · have hle : 1024 ≤ 2 ^ (w - f) := Nat.pow_le_pow_right (n := 2) (by decide) (show 10 ≤ w - f by omega)
      rw [if_neg (show ¬ nI (2 ^ (w - f)) ≤ (512 : Int32) from fun q => (fa_of_lt (nI_lt (a := 512) (b := 2 ^ (w - f)) (by omega) hlt)).2.1 q)]
      refine ⟨false, _, _, rfl, ⟨fun q => absurd q (by decide), fun q => absurd q.2.2 c2⟩, fun q => absurd q.2.2 c2⟩
  · have hle : 2 ^ (w - f) < 8 := Nat.pow_lt_pow_right (a := 2) (by decide) (show w - f < 3 by omega)
    rw [if_pos (show nI (2 ^ (w - f)) < (8 : Int32) from nI_lt (b := 8) hle (by decide))]
    refine ⟨false, _, _, rfl, ⟨fun q => absurd q (by decide), fun q => absurd q.2.1 c1⟩, fun q => absurd q.2.1 c1⟩
