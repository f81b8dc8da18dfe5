/-! ===== the other numbers of a shape: the reference ===== -/
def CC (N : Nat → Nat) (f : Nat) : Nat := N 1 * 2 ^ f + N 4 + 1
def RR (N : Nat → Nat) (w f : Nat) : Nat := 2 ^ (w - f) + N 3 + 1
noncomputable def sgN (N : Nat → Nat) (w f : Nat) : Nat := stg (w - f) (CC N f)
noncomputable def siN (N : Nat → Nat) (w f k : Nat) : Int32 := szI (w - f) (CC N f) k
noncomputable def deN (N : Nat → Nat) (w f : Nat) : Int32 := dI (w - f) (CC N f) (sgN N w f)
noncomputable def wiN (N : Nat → Nat) (w f : Nat) : Int32 := ((nI (CC N f) * nI (N 5)) + ((12 : Int32) * nI (w - f))) + siN N w f (sgN N w f - 1)
def heN (N : Nat → Nat) (w f : Nat) : Int32 := ((nI (RR N w f) * nI (N 6)) + (30 : Int32)) + ((8 : Int32) * nI f)
def wrN (N : Nat → Nat) (f : Nat) : Int32 := (nI (CC N f) * nI (CC N f)) / (20 : Int32)
def faN (N : Nat → Nat) (w f : Nat) : Int32 := (3 : Int32) * nI (RR N w f)
def rpN (N : Nat → Nat) (w f : Nat) (p : Int32) : Int32 := (40 : Int32) + (((30 : Int32) * nI (RR N w f)) / p)
noncomputable def coN (N : Nat → Nat) (w f : Nat) : Int32 := ((deN N w f + wrN N f) + (20 : Int32)) + ((5 : Int32) * nI f)
/-- fast enough with this many pulls -/
def plP (N : Nat → Nat) (w f k : Nat) : Prop := ¬ (rpN N w f (nI k) * (100 : Int32)) < (faN N w f * ((100 : Int32) + nI (N 7)))
noncomputable def plQ (N : Nat → Nat) (w f : Nat) : Nat → Nat
  | 0 => 1
  | k + 1 => @ite _ (plP N w f (k + 2)) (Classical.propDecidable _) (k + 2) (plQ N w f k)
noncomputable def plN (N : Nat → Nat) (w f : Nat) : Nat := plQ N w f 15
theorem plQ_b (N : Nat → Nat) (w f : Nat) : ∀ k, 1 ≤ plQ N w f k ∧ plQ N w f k ≤ k + 1 := by
  intro k
  induction k with
  | zero => exact ⟨Nat.le_refl _, Nat.le_refl _⟩
  | succ k ih =>
    rw [plQ]
    split <;> omega
noncomputable def cyN (N : Nat → Nat) (w f : Nat) : Int32 := coN N w f + rpN N w f (nI (plN N w f))
noncomputable def csN (N : Nat → Nat) (w f : Nat) (p : Int32) : Int32 := if p = 0 then wiN N w f * heN N w f else if p = (1 : Int32) then cyN N w f else if 0 ≤ wiN N w f - heN N w f then wiN N w f - heN N w f else -(wiN N w f - heN N w f)
/-- this layout can be -/
def okM (w f : Nat) : Prop := f ≤ 3 ∧ 3 ≤ w - f ∧ w - f ≤ 9
section YU_
variable {al : Nat → Int32} {b w f : Nat} {N : Nat → Nat}
theorem y_width (hm : mdl al b N) (ok : okN N w) (hf : okM w f) (z0 : Nat → Int32) : ∃ z, fX11_width al z0 (nI b) (nI (2 ^ f)) = some (wiN N w f, z) ∧ ∀ k, k < sgN N w f → z k = siN N w f k := by
  obtain ⟨z, h1, h2⟩ := y_sizes hm ok hf.1 hf.2.1 hf.2.2 z0
  refine ⟨z, ?_, h2⟩
  have hs := stg_b (w - f) (CC N f)
  unfold fX11_width
  rw [h1, bnS, y_allColumns hm ok, bnS]
  rw [y_lines hm ok hf.1, y_stages hm ok hf.1 hf.2.1 hf.2.2]
  have e1 : nI (stg (w - f) (N 1 * 2 ^ f + N 4 + 1)) - (1 : Int32) = nI (sgN N w f - 1) := pk_sub (b := 1) (show 1 ≤ sgN N w f by unfold sgN; omega)
  obtain ⟨hm1, hm2⟩ := hm
  rw [show nI b + (5 : Int32) = nI (b + 5) from nI_add b 5, gdN (by omega) (by decide), nI_clamp (by omega), hm2 5 (by decide), bnS, bnS, e1, gdN (by unfold sgN; omega) (by decide), nI_clamp (by unfold sgN; omega), h2 (sgN N w f - 1) (by unfold sgN CC at *; omega)]
  rfl
theorem y_height (hm : mdl al b N) (ok : okN N w) (hf : okM w f) : fX11_height al (nI b) (nI (2 ^ f)) = some (heN N w f) := by
  unfold fX11_height
  rw [y_allRows hm ok hf.1, bnS, ylog f (by have := hf.1; omega)]
  obtain ⟨hm1, hm2⟩ := hm
  rw [show nI b + (6 : Int32) = nI (b + 6) from nI_add b 6, gdN (by omega) (by decide), nI_clamp (by omega), hm2 6 (by decide), bnS]
  rfl
theorem y_wire (hm : mdl al b N) (ok : okN N w) : fX11_wire al (nI b) (nI (2 ^ f)) = some (wrN N f) := by
  unfold fX11_wire
  rw [y_allColumns hm ok, bnS, bnS]
  rfl
theorem y_fall (hm : mdl al b N) (ok : okN N w) (hf : okM w f) : fX11_fall al (nI b) (nI (2 ^ f)) = some (faN N w f) := by
  unfold fX11_fall
  rw [y_allRows hm ok hf.1, bnS]
  rfl
theorem y_common (hm : mdl al b N) (ok : okN N w) (hf : okM w f) : fX11_common al (nI b) (nI (2 ^ f)) = some (coN N w f) := by
  unfold fX11_common
  rw [y_stages hm ok hf.1 hf.2.1 hf.2.2, bnS, y_delay hm ok hf.1 hf.2.1 hf.2.2 (stg_ok _ _), bnS, y_wire hm ok, bnS, ylog f (by have := hf.1; omega), bnS]
  rfl
theorem y_replica (hm : mdl al b N) (ok : okN N w) (hf : okM w f) (k : Nat) (h0 : 0 < k) (h1 : k < 2 ^ 31) : fX11_replica al (nI b) (nI (2 ^ f)) (nI k) = some (rpN N w f (nI k)) := by
  unfold fX11_replica
  rw [y_allRows hm ok hf.1, bnS, gzN h0 h1]
  rfl
theorem y_pulls (hm : mdl al b N) (ok : okN N w) (hf : okM w f) : fX11_pulls al (nI b) (nI (2 ^ f)) = some (nI (plN N w f)) := by
  unfold fX11_pulls
  have e7 : nI b + (7 : Int32) = nI (b + 7) := nI_add b 7
  have loop : ∀ (j F k : Nat), k + j = 15 → j < F → fX11_pulls_l5 (nI b) (nI (2 ^ f)) al F (nI (plQ N w f k)) (nI (k + 2)) = some (nI (plN N w f)) := by
    intro j
    induction j with
    | zero =>
      intro F k h1 h2
      obtain ⟨F, rfl⟩ : ∃ G, F = G + 1 := ⟨F - 1, by omega⟩
      have : k = 15 := by omega
      subst this
      rw [fX11_pulls_l5, if_pos (show (16 : Int32) < nI (15 + 2) from by decide)]
      rfl
    | succ j ih =>
      intro F k h1 h2
      obtain ⟨F, rfl⟩ : ∃ G, F = G + 1 := ⟨F - 1, by omega⟩
      rw [fX11_pulls_l5, if_neg (show ¬ (16 : Int32) < nI (k + 2) from nI_nlt (a := 16) (by omega) (by omega)), y_replica hm ok hf (k + 2) (by omega) (by omega), bnS, y_fall hm ok hf, bnS]
      rw [e7, gdN (by have := hm.1; omega) (by decide), nI_clamp (by have := hm.1; omega), hm.2 7 (by decide)]
      rw [show nI (k + 2) + (1 : Int32) = nI (k + 1 + 2) from nI_1 (k + 2)]
      have e : (if (rpN N w f (nI (k + 2)) * (100 : Int32)) < (faN N w f * ((100 : Int32) + nI (N 7))) then nI (plQ N w f k) else nI (k + 2)) = nI (plQ N w f (k + 1)) := by
        rw [plQ]
        by_cases c : plP N w f (k + 2)
        · rw [if_pos c, if_neg (show ¬ _ < _ from c)]
        · rw [if_neg c, if_pos (Classical.not_not.mp c)]
      rw [e]
      exact ih F (k + 1) (by omega) (by omega)
  have := loop 15 FU 0 rfl (by show 15 < 4294967296; decide)
  rw [show (1 : Int32) = nI (plQ N w f 0) from rfl, show (2 : Int32) = nI (0 + 2) from rfl, this, bnS]
theorem y_cycle (hm : mdl al b N) (ok : okN N w) (hf : okM w f) : fX11_cycle al (nI b) (nI (2 ^ f)) = some (cyN N w f) := by
  unfold fX11_cycle
  have hp : 1 ≤ plN N w f ∧ plN N w f ≤ 16 := plQ_b N w f 15
  rw [y_common hm ok hf, bnS, y_pulls hm ok hf, bnS, y_replica hm ok hf _ (by omega) (by omega), bnS]
  rfl
theorem y_cost (hm : mdl al b N) (ok : okN N w) (hf : okM w f) (z0 : Nat → Int32) (p : Int32) : ∃ z, fX11_cost al z0 (nI b) (nI (2 ^ f)) p = some (csN N w f p, z) := by
  obtain ⟨z, h1, -⟩ := y_width hm ok hf z0
  unfold fX11_cost
  rw [h1, bnS, y_height hm ok hf, bnS]
  unfold csN
  by_cases c0 : p = 0
  · rw [if_pos c0, if_pos c0]
    obtain ⟨z2, h2, -⟩ := y_width hm ok hf z
    exact ⟨z2, by rw [h2, bnS, bnS]⟩
  · rw [if_neg c0, if_neg c0]
    by_cases c1 : p = (1 : Int32)
    · rw [if_pos c1, if_pos c1, y_cycle hm ok hf, bnS]
      exact ⟨z, rfl⟩
    · rw [if_neg c1, if_neg c1]
      refine ⟨z, ?_⟩
      split <;> rfl
theorem y_possible (hm : mdl al b N) (ok : okN N w) (hf : f ≤ 3) : ∃ r, fX11_isPossible al (nI b) (nI (2 ^ f)) = some r ∧ (r = true ↔ okM w f) := by
  unfold fX11_isPossible
  have e : fX11_isMux (nI (2 ^ f)) = true := by
    have : f = 0 ∨ f = 1 ∨ f = 2 ∨ f = 3 := by omega
    rcases this with q | q | q | q <;> subst q <;> rfl
  rw [e, if_neg (show ¬ bi true = 0 from by decide), y_rows hm ok hf, bnS]
  have hw := ok.2.1
  have hw2 := ok.2.2.1
  generalize hk : w - f = k
  have hk10 : k ≤ 10 := by omega
  have key : ∀ k, k ≤ 10 → ((bi (fX11_isIn (nI (2 ^ k)) (8 : Int32) (512 : Int32))) = 0 ↔ ¬ (3 ≤ k ∧ k ≤ 9)) := by decide +kernel
  by_cases c : 3 ≤ k ∧ k ≤ 9
  · rw [if_neg (fun h => (key k hk10).mp h c)]
    exact ⟨true, rfl, fun _ => ⟨hf, by omega, by omega⟩, fun _ => rfl⟩
  · rw [if_pos ((key k hk10).mpr c)]
    refine ⟨false, rfl, fun h => absurd h (by decide), fun h => ?_⟩
    unfold okM at h
    omega
end YU_
