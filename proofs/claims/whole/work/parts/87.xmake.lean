/-! ===== shapes: the program ===== -/
/-- what the form holds before the stages are chosen -/
def frmA (l C : Nat) (tI : Nat → Int32) : Prop := tI 1 = nI (2 ^ l) ∧ tI 4 = nI C ∧ tI 5 = nI l ∧ tI 7 = nI (aI l) ∧ tI 8 = nI (bI l)
theorem x_least {l C n : Nat} {tI : Nat → Int32} (h : okLC l C) (hf : frmA l C tI) (hn : okS n) : fX4_leastTenths tI (nI n) = some (nI (tS l C n)) := by
  obtain ⟨f1, f2, f3, f4, f5⟩ := hf
  have ha := aI_b l
  have hb := bI_b l (by have := h.2.1; omega) h.1
  have hR : 2 ^ l < 2 ^ 31 := p31 (by have := h.2.1; omega)
  obtain ⟨t, h1, -, h2⟩ := leastT_ok tI (aI l) (bI l) (2 ^ l) C n f4 f5 f1 f2 (by omega) (by omega) hR (by have := h.2.2.2.1; omega) (by unfold okS at hn; omega) (by unfold okS at hn; omega) (gP l C n) rfl (gP_0 h) (gP_51 h hn) (gP_4096 h hn)
  rw [h1]
  unfold tS
  rw [tT_eq h2]
theorem x_delay {l C n : Nat} {tI : Nat → Int32} (hf : frmA l C tI) : fX4_delayOf tI (nI n) (nI (tS l C n)) = dI l C n := by
  unfold fX4_delayOf
  rw [hf.2.2.2.1, hf.2.2.2.2]
  rfl
/-- and behind it, with this number of stages -/
def frmB (l C s : Nat) (tI : Nat → Int32) : Prop := frmA l C tI ∧ tI 9 = nI s ∧ tI 10 = nI (tS l C s) ∧ tI 11 = dI l C s
theorem frmA_upd {l C : Nat} {tI : Nat → Int32} (h : frmA l C tI) (x y z : Int32) : frmA l C (upd (upd (upd tI 9 x) 10 y) 11 z) := h
theorem x_upward (p q : Int32) (h : (1 : Int32) ≤ q) (h2 : nz q = true) : fX10_upward p q = some (upI p q) := by
  unfold fX10_upward
  rw [if_pos h, h2]
  rfl
theorem x_step {l C n s : Nat} {tI : Nat → Int32} (h : okLC l C) (hf : frmB l C s tI) (hn : okS n) (F : Nat) : ∃ tJ, fX4_chooseStages_l61 (F + 1) (nI n) tI = fX4_chooseStages_l61 F (nI (n + 2)) tJ ∧ frmB l C (if dI l C s ≤ dI l C n then s else n) tJ ∧ tJ 2 = tI 2 ∧ tJ 3 = tI 3 ∧ tJ 6 = tI 6 := by
  obtain ⟨h0, h1, h2, h3⟩ := hf
  rw [fX4_chooseStages_l61, if_neg (show ¬ (8 : Int32) < nI n from nI_nlt (a := 8) (by unfold okS at hn; omega) (by omega)), x_least h h0 hn, bnS, x_delay h0, h3, show nI n + (2 : Int32) = nI (n + 2) from nI_add n 2]
  by_cases c : dI l C s ≤ dI l C n
  · rw [if_pos c, if_pos c]
    exact ⟨tI, rfl, ⟨h0, h1, h2, h3⟩, rfl, rfl, rfl⟩
  · rw [if_neg c, if_neg c]
    refine ⟨_, rfl, ⟨frmA_upd h0 _ _ _, rfl, rfl, ?_⟩, rfl, rfl, rfl⟩
    exact x_delay (tI := upd (upd tI 9 (nI n)) 10 (nI (tS l C n))) h0
theorem x_stages {l C : Nat} {tI : Nat → Int32} (h : okLC l C) (h1 : tI 1 = nI (2 ^ l)) (h4 : tI 4 = nI C) (h5 : tI 5 = nI l) : ∃ tJ, fX4_chooseStages tI = some tJ ∧ frmB l C (stg l C) tJ ∧ tJ 2 = tI 2 ∧ tJ 3 = tI 3 ∧ tJ 6 = tI 6 := by
  have ha := aI_b l
  have hl := h.2.1
  unfold fX4_chooseStages
  have e5 : (if (tI 5) < (5 : Int32) then (2 : Int32) else (3 : Int32)) = nI (aI l) := by
    rw [h5]
    unfold aI
    by_cases c : l < 5
    · rw [if_pos c, if_pos (show nI l < (5 : Int32) from nI_lt c (by decide))]; rfl
    · rw [if_neg c, if_neg (show ¬ nI l < (5 : Int32) from nI_nlt (b := 5) (by omega) (by omega))]; rfl
  have eb : upI (nI l) (nI (aI l)) = nI (bI l) := by
    unfold upI
    rw [nI_add, show (1 : Int32) = nI 1 from rfl, pk_sub (by omega), pk_div (by omega) (by omega) (by omega)]
    rfl
  rw [e5, x_upward _ _ (show nI 1 ≤ nI (aI l) from nI_le (by omega) (by omega)) (nzN (by omega) (by omega)), bnS, h5, eb]
  have hm : ∀ (g : Nat → Int32), g 1 = tI 1 → g 4 = tI 4 → g 5 = tI 5 → g 7 = nI (aI l) → g 8 = nI (bI l) → frmA l C g := fun g a1 a4 a5 a7 a8 => ⟨a1.trans h1, a4.trans h4, a5.trans h5, a7, a8⟩
  rw [show (2 : Int32) = nI 2 from rfl, x_least h (hm (upd (upd (upd tI 7 (nI (aI l))) 8 (nI (bI l))) 9 (nI 2)) rfl rfl rfl rfl rfl) (.inl rfl), bnS, x_delay (hm (upd (upd (upd (upd tI 7 (nI (aI l))) 8 (nI (bI l))) 9 (nI 2)) 10 (nI (tS l C 2))) rfl rfl rfl rfl rfl)]
  have h0 : frmB l C 2 (upd (upd (upd (upd (upd tI 7 (nI (aI l))) 8 (nI (bI l))) 9 (nI 2)) 10 (nI (tS l C 2))) 11 (dI l C 2)) := ⟨hm _ rfl rfl rfl rfl rfl, rfl, rfl, rfl⟩
  generalize hT : upd (upd (upd (upd (upd tI 7 (nI (aI l))) 8 (nI (bI l))) 9 (nI 2)) 10 (nI (tS l C 2))) 11 (dI l C 2) = T0 at h0
  have q2 : T0 2 = tI 2 := by rw [← hT]; rfl
  have q3 : T0 3 = tI 3 := by rw [← hT]; rfl
  have q6 : T0 6 = tI 6 := by rw [← hT]; rfl
  obtain ⟨T1, r1, g1, a2, a3, a6⟩ := x_step h h0 (n := 4) (.inr (.inl rfl)) 4294967295
  obtain ⟨T2, r2, g2, b2, b3, b6⟩ := x_step (s := s4 l C) h g1 (n := 4 + 2) (.inr (.inr (.inl rfl))) 4294967294
  obtain ⟨T3, r3, g3, c2, c3, c6⟩ := x_step (s := s6 l C) h g2 (n := 4 + 2 + 2) (.inr (.inr (.inr rfl))) 4294967293
  have e : fX4_chooseStages_l61 FU (4 : Int32) T0 = some T3 := by
    refine Eq.trans r1 (Eq.trans r2 (Eq.trans r3 ?_))
    show fX4_chooseStages_l61 (4294967292 + 1) _ T3 = some T3
    rw [fX4_chooseStages_l61, if_pos (show (8 : Int32) < nI (4 + 2 + 2 + 2) from by decide)]
  rw [e, bnS]
  exact ⟨T3, rfl, g3, c2.trans (b2.trans (a2.trans q2)), c3.trans (b3.trans (a3.trans q3)), c6.trans (b6.trans (a6.trans q6))⟩
theorem x_sizes {l C : Nat} {tI : Nat → Int32} (h : okLC l C) (hf : frmB l C (stg l C) tI) (z0 : Nat → Int32) : ∃ z, fX4_sizeStages tI z0 = some z ∧ ∀ k, k < stg l C → z k = szI l C k := by
  obtain ⟨⟨f1, f4, f5, f7, f8⟩, f9, f10, f11⟩ := hf
  have hs := stg_b l C
  have hT := szT_ok h
  have ha := aI_b l
  unfold fX4_sizeStages
  have e1 : nI (stg l C) - (1 : Int32) = nI (stg l C - 1) := pk_sub (b := 1) (by omega)
  have eT : (3 : Int32) * tI 10 = szT l C := by rw [f10]; rfl
  have hup : ∀ p, fX10_upward p (szT l C) = some (upI p (szT l C)) := fun p => x_upward p _ hT.2 hT.1
  have hsh : (1 : Int32) ≤ ((1 : Int32) <<< (nI (aI l) &&& 31)) ∧ nz ((1 : Int32) <<< (nI (aI l) &&& 31)) = true := by
    have : aI l = 2 ∨ aI l = 3 := by omega
    rcases this with q | q <;> rw [q] <;> decide
  have em : ∀ j : Nat, nI (j + 1) + (-1 : Int32) = nI j := by
    intro j; rw [← nI_1 j, Int32.add_assoc]; show nI j + 0 = nI j; rw [Int32.add_zero]
  have hend : ∀ (F : Nat) (x : Int32) (z : Nat → Int32), 0 < F → fX4_sizeStages_l12 tI F x (nI 0 + (-1 : Int32)) z = some z := by
    intro F x z hF
    obtain ⟨F, rfl⟩ : ∃ G, F = G + 1 := ⟨F - 1, by omega⟩
    rw [fX4_sizeStages_l12, if_pos (show nI 0 + (-1 : Int32) < 0 from by decide)]
  have low : ∀ (j F : Nat) (z : Nat → Int32), j + 1 < stg l C → j + 1 < F → (∀ k, j < k → k < stg l C → z k = szI l C k) → ∃ z2, fX4_sizeStages_l12 tI F (szI l C (j + 1)) (nI j) z = some z2 ∧ ∀ k, k < stg l C → z2 k = szI l C k := by
    intro j
    induction j with
    | zero =>
      intro F z hj hF hz
      obtain ⟨F, rfl⟩ : ∃ G, F = G + 1 := ⟨F - 1, by omega⟩
      rw [fX4_sizeStages_l12, if_neg (show ¬ nI 0 < 0 from by decide), f9, e1, if_neg (show ¬ nI 0 = nI (stg l C - 1) from fun q => absurd ((nI_eq (by omega) (by omega)).mp q) (by omega)), if_pos (show nI 0 = 0 from rfl)]
      rw [f1, f7, x_upward _ _ hsh.1 hsh.2, bnS, eT, hup, bnS, gdN (by decide) (by decide), gdN (by decide) (by decide), hend _ _ _ (by omega)]
      refine ⟨_, rfl, ?_⟩
      intro k hk
      by_cases e0 : k = 0
      · subst e0
        show upd z 0 _ 0 = _
        rw [ux_at]
        show _ = szI l C 0
        unfold szI
        rw [if_pos rfl, if_neg (by decide)]
        rw [show stg l C - 1 - (0 + 1) = stg l C - 2 from by omega]
        congr 1
        rw [Int32.mul_comm _ (10 : Int32), ← Int32.mul_assoc]
      · show upd z 0 _ k = _
        rw [ux_ne e0]
        exact hz k (by omega) hk
    | succ j ih =>
      intro F z hj hF hz
      obtain ⟨F, rfl⟩ : ∃ G, F = G + 1 := ⟨F - 1, by omega⟩
      rw [fX4_sizeStages_l12, if_neg (show ¬ nI (j + 1) < 0 from nI_nlt (b := 0) (by omega) (by omega)), f9, e1, if_neg (show ¬ nI (j + 1) = nI (stg l C - 1) from fun q => absurd ((nI_eq (by omega) (by omega)).mp q) (by omega)), if_neg (show ¬ nI (j + 1) = 0 from nI_ne0 (by omega) (by omega))]
      rw [eT, hup, bnS, gdN (by omega) (by decide), gdN (by omega) (by decide), nI_clamp (by omega), ux_at, em]
      have e3 : upI ((szI l C (j + 1 + 1) * ((1 : Int32) + (2 : Int32))) * (10 : Int32)) (szT l C) = szI l C (j + 1) := by
        unfold szI
        rw [if_neg (by omega), if_neg (by omega), show stg l C - 1 - (j + 1) = (stg l C - 1 - (j + 1 + 1)) + 1 from by omega, szM, Int32.mul_assoc, Int32.mul_comm _ (((1 : Int32) + (2 : Int32)) * (10 : Int32))]
        rfl
      rw [e3]
      refine ih F _ (by omega) (by omega) ?_
      intro k hk1 hk2
      by_cases ek : k = j + 1
      · subst ek; rw [ux_at]
      · rw [ux_ne ek]; exact hz k (by omega) hk2
  have first : ∃ z2, fX4_sizeStages_l12 tI FU (tI 4) (nI (stg l C - 1)) z0 = some z2 ∧ ∀ k, k < stg l C → z2 k = szI l C k := by
    show ∃ z2, fX4_sizeStages_l12 tI (4294967295 + 1) (tI 4) (nI (stg l C - 1)) z0 = some z2 ∧ _
    rw [fX4_sizeStages_l12, if_neg (show ¬ nI (stg l C - 1) < 0 from nI_nlt (b := 0) (by omega) (by omega)), f9, e1, if_pos rfl, eT, hup, bnS, gdN (by omega) (by decide), gdN (by omega) (by decide), nI_clamp (by omega), ux_at, f4, f8]
    have e3 : upI ((nI C * (nI (bI l) + (2 : Int32))) * (10 : Int32)) (szT l C) = szI l C (stg l C - 2 + 1) := by
      unfold szI
      rw [if_neg (by omega), show stg l C - 1 - (stg l C - 2 + 1) = 0 from by omega, szM]
      unfold szTop
      congr 1
      rw [Int32.mul_comm _ (10 : Int32), ← Int32.mul_assoc]
    rw [e3, show stg l C - 1 = (stg l C - 2) + 1 from by omega, em]
    refine low (stg l C - 2) _ _ (by omega) (by omega) ?_
    intro k hk1 hk2
    have : k = stg l C - 2 + 1 := by omega
    subst this
    rw [ux_at]
  obtain ⟨z2, g1, g2⟩ := first
  rw [f9, e1, g1, bnS]
  exact ⟨z2, rfl, g2⟩
