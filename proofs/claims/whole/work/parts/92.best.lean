/-! ===== which choice is better ===== -/
theorem mor : ∀ r, r < 5 → ∀ r2, r2 < 5 → ∀ c, c < 3 → ∀ c2, c2 < 3 → (((((nI r + nI c) - nI r2) - nI c2) = 0) ↔ r + c = r2 + c2) ∧ ((0 ≤ (((nI r + nI c) - nI r2) - nI c2)) ↔ r2 + c2 ≤ r + c) := by decide +kernel
section BETTER_
variable {rw2 lf gr gc : Nat → Int32} {a a2 : Nat → Nat} {r r2 : Nat}
theorem x_lex (tI : Nat → Int32) (h8 : tI 8 = nI r) (h2 : tI 2 = nI r) (hr : r ≤ 4) (hl : hld lf a r) (hg : hld rw2 a2 r) : ∀ (j F i : Nat), i + j = r → j < F → (∀ t, t < i → a t = a2 t) → (fX3_isBetter_l55 tI rw2 lf F (nI i) = some (.inl ()) ∧ ∀ t, t < r → a t = a2 t) ∨ ∃ bb, fX3_isBetter_l55 tI rw2 lf F (nI i) = some (.inr bb) ∧ (bb = true ↔ encR a r < encR a2 r) ∧ (bb = false ↔ encR a2 r < encR a r) := by
  intro j
  induction j with
  | zero =>
    intro F i e1 e2 h
    obtain ⟨F, rfl⟩ : ∃ G, F = G + 1 := ⟨F - 1, by omega⟩
    have : i = r := by omega
    subst this
    rw [fX3_isBetter_l55, h8, if_pos (nI_le (Nat.le_refl _) (by omega))]
    exact .inl ⟨rfl, h⟩
  | succ j ih =>
    intro F i e1 e2 h
    obtain ⟨F, rfl⟩ : ∃ G, F = G + 1 := ⟨F - 1, by omega⟩
    have w1 := hl i (by omega)
    have w2 := hg i (by omega)
    rw [fX3_isBetter_l55, h8, h2, if_neg (nI_ge (by omega) (by omega)), if_neg (nI_ge (by omega) (by omega)), gdN (by omega) (by decide), gdN (by omega) (by decide), nI_clamp (by omega), w1.1, w2.1, show nI i + (1 : Int32) = nI (i + 1) from nI_1 i]
    by_cases c : a i = a2 i
    · rw [if_pos (by rw [c])]
      exact ih F (i + 1) (by omega) (by omega) (fun t ht => by
        by_cases et : t = i
        · rw [et]; exact c
        · exact h t (by omega))
    · rw [if_neg (fun z => c ((nI_eq (by omega) (by omega)).mp z)), gdN (by omega) (by decide), gdN (by omega) (by decide)]
      right
      by_cases c2 : a2 i ≤ a i
      · rw [if_pos (nI_le c2 (by omega))]
        have q := encR_lex (a := a2) (b := a) (i := i) (fun t ht => (h t ht).symm) (by omega) (n := r) (by omega) (fun t ht => (hg t ht).2)
        exact ⟨false, rfl, ⟨fun z => absurd z (by decide), fun z => by omega⟩, ⟨fun _ => q, fun _ => rfl⟩⟩
      · rw [if_neg (nI_ge (by omega) (by omega))]
        have q := encR_lex (a := a) (b := a2) (i := i) h (by omega) (n := r) (by omega) (fun t ht => (hl t ht).2)
        exact ⟨true, rfl, ⟨fun _ => q, fun _ => rfl⟩, ⟨fun z => absurd z (by decide), fun z => by omega⟩⟩
theorem y_lex (tI : Nat → Int32) (h13 : tI 13 = nI r) (hr : r ≤ 4) (hl : hld lf a r) (hg : hld gr a2 r) : ∀ (j F i : Nat), i + j = r → j < F → (∀ t, t < i → a t = a2 t) → (fX11_isBetter_l76 tI gr lf F (nI i) = some (.inl ()) ∧ ∀ t, t < r → a t = a2 t) ∨ ∃ bb, fX11_isBetter_l76 tI gr lf F (nI i) = some (.inr bb) ∧ (bb = true ↔ encR a r < encR a2 r) ∧ (bb = false ↔ encR a2 r < encR a r) := by
  intro j
  induction j with
  | zero =>
    intro F i e1 e2 h
    obtain ⟨F, rfl⟩ : ∃ G, F = G + 1 := ⟨F - 1, by omega⟩
    have : i = r := by omega
    subst this
    rw [fX11_isBetter_l76, h13, if_pos (nI_le (Nat.le_refl _) (by omega))]
    exact .inl ⟨rfl, h⟩
  | succ j ih =>
    intro F i e1 e2 h
    obtain ⟨F, rfl⟩ : ∃ G, F = G + 1 := ⟨F - 1, by omega⟩
    have w1 := hl i (by omega)
    have w2 := hg i (by omega)
    rw [fX11_isBetter_l76, h13, if_neg (nI_ge (by omega) (by omega)), gdN (by omega) (by decide), gdN (by omega) (by decide), nI_clamp (by omega), w1.1, w2.1, show nI i + (1 : Int32) = nI (i + 1) from nI_1 i]
    by_cases c : a i = a2 i
    · rw [if_pos (by rw [c])]
      exact ih F (i + 1) (by omega) (by omega) (fun t ht => by
        by_cases et : t = i
        · rw [et]; exact c
        · exact h t (by omega))
    · rw [if_neg (fun z => c ((nI_eq (by omega) (by omega)).mp z)), gdN (by omega) (by decide), gdN (by omega) (by decide)]
      right
      by_cases c2 : a2 i ≤ a i
      · rw [if_pos (nI_le c2 (by omega))]
        have q := encR_lex (a := a2) (b := a) (i := i) (fun t ht => (h t ht).symm) (by omega) (n := r) (by omega) (fun t ht => (hg t ht).2)
        exact ⟨false, rfl, ⟨fun z => absurd z (by decide), fun z => by omega⟩, ⟨fun _ => q, fun _ => rfl⟩⟩
      · rw [if_neg (nI_ge (by omega) (by omega))]
        have q := encR_lex (a := a) (b := a2) (i := i) h (by omega) (n := r) (by omega) (fun t ht => (hl t ht).2)
        exact ⟨true, rfl, ⟨fun _ => q, fun _ => rfl⟩, ⟨fun z => absurd z (by decide), fun z => by omega⟩⟩
end BETTER_
section CHOICE_
variable {R C B : Nat → Nat} {nb : Nat}
theorem x_better {o b : OF} {tI rw2 lf : Nat → Int32} (hR : ∀ k, k < nb → R k < 512) (h8 : tI 8 = nI (ofR R C nb o)) (h2 : tI 2 = nI (ofR R C nb b)) (h3 : tI 3 = nI (ofC b)) (ho : ofR R C nb o ≤ 4) (hb : ofR R C nb b ≤ 4) (hl : hld lf (ofA R C nb o) (ofR R C nb o)) (hg : hld rw2 (ofA R C nb b) (ofR R C nb b)) : ∃ bb, fX3_isBetter tI rw2 lf (nI (ofC o)) = some bb ∧ (bb = true ↔ kyX R C nb o < kyX R C nb b) := by
  have c1 := ofC_le o
  have c2 := ofC_le b
  have e1 := kyE_lt (C := C) (o := o) hR ho
  have e2 := kyE_lt (C := C) (o := b) hR hb
  unfold fX3_isBetter
  rw [h8, h2, h3]
  have m := mor (ofR R C nb o) (by omega) (ofR R C nb b) (by omega) (ofC o) (by omega) (ofC b) (by omega)
  unfold kyX kyT
  by_cases t : ofR R C nb o + ofC o = ofR R C nb b + ofC b
  · rw [if_pos (m.1.mpr t)]
    by_cases t2 : ofC o = ofC b
    · rw [if_pos (by rw [t2])]
      have t3 : ofR R C nb o = ofR R C nb b := by omega
      have hg2 : hld rw2 (ofA R C nb b) (ofR R C nb o) := by rw [t3]; exact hg
      have hE : kyE R C nb b = encR (ofA R C nb b) (ofR R C nb o) := by unfold kyE; rw [t3]
      rcases x_lex tI h8 (by rw [h2, t3]) ho hl hg2 (ofR R C nb o) FU 0 (by omega) (by show _ < 4294967296; omega) (fun t h => absurd h (Nat.not_lt_zero t)) with ⟨q1, q2⟩ | ⟨bb, q1, q2, q3⟩
      · have q1 : fX3_isBetter_l55 tI rw2 lf FU (0 : Int32) = some (.inl ()) := q1
        rw [q1, bnS]
        refine ⟨false, rfl, fun z => absurd z (by decide), fun z => ?_⟩
        have : kyE R C nb o = kyE R C nb b := by rw [hE]; exact encR_eq q2
        omega
      · have q1 : fX3_isBetter_l55 tI rw2 lf FU (0 : Int32) = some (.inr bb) := q1
        rw [q1, bnS]
        refine ⟨bb, rfl, ?_⟩
        rw [hE]
        show _ ↔ _ + encR (ofA R C nb o) (ofR R C nb o) < _
        rw [q2]
        constructor
        · intro z; omega
        · intro z; omega
    · rw [if_neg (fun z => t2 ((nI_eq (by omega) (by omega)).mp z))]
      by_cases t3 : ofC b ≤ ofC o
      · rw [if_pos (nI_le t3 (by omega))]
        exact ⟨false, rfl, fun z => absurd z (by decide), fun z => by omega⟩
      · rw [if_neg (nI_ge (by omega) (by omega))]
        exact ⟨true, rfl, fun _ => by omega, fun _ => rfl⟩
  · rw [if_neg (fun z => t (m.1.mp z))]
    by_cases t3 : ofR R C nb b + ofC b ≤ ofR R C nb o + ofC o
    · rw [if_pos (m.2.mpr t3)]
      exact ⟨false, rfl, fun z => absurd z (by decide), fun z => by omega⟩
    · rw [if_neg (fun z => t3 (m.2.mp z))]
      exact ⟨true, rfl, fun _ => by omega, fun _ => rfl⟩
theorem y_better {o b : OF} {tI gr gc lf : Nat → Int32} (hR : ∀ k, k < nb → R k < 512) (vo : vOf o) (vb : vOf b) (h14 : tI 14 = 1) (h13 : tI 13 = nI (ofR R C nb o)) (h11 : tI 11 = nI (ofR R C nb b)) (h12 : tI 12 = nI (ofC b)) (ho : ofR R C nb o ≤ 4) (hb : ofR R C nb b ≤ 4) (hl : hld lf (ofA R C nb o) (ofR R C nb o)) (hg : hld gr (ofA R C nb b) (ofR R C nb b)) (g0 : gc 0 = cI b.1) (g1 : gc 1 = cI b.2) : ∃ bb, fX11_isBetter tI gr gc lf (cI o.1) (cI o.2) (nI (ofC o)) = some bb ∧ (bb = true ↔ kyF R C nb o < kyF R C nb b) := by
  have c1 := ofC_le o
  have c2 := ofC_le b
  have e1 := kyE_lt (C := C) (o := o) hR ho
  have e2 := kyE_lt (C := C) (o := b) hR hb
  obtain ⟨vo1, vo2, vo3⟩ := vo
  obtain ⟨vb1, vb2, vb3⟩ := vb
  unfold fX11_isBetter
  rw [h14, h13, h11, h12, nI_add, nI_add, if_neg (show ¬ (1 : Int32) = 0 from by decide)]
  unfold kyF kyX kyT
  by_cases t : ofR R C nb o + ofC o = ofR R C nb b + ofC b
  · rw [if_pos (by rw [t])]
    by_cases t2 : ofC o = ofC b
    · rw [if_pos (by rw [t2])]
      have t3 : ofR R C nb o = ofR R C nb b := by omega
      have hg2 : hld gr (ofA R C nb b) (ofR R C nb o) := by rw [t3]; exact hg
      have hE : kyE R C nb b = encR (ofA R C nb b) (ofR R C nb o) := by unfold kyE; rw [t3]
      rcases y_lex tI h13 ho hl hg2 (ofR R C nb o) FU 0 (by omega) (by show _ < 4294967296; omega) (fun t h => absurd h (Nat.not_lt_zero t)) with ⟨q1, q2⟩ | ⟨bb, q1, q2, q3⟩
      · have q1 : fX11_isBetter_l76 tI gr lf FU (0 : Int32) = some (.inl ()) := q1
        have hEE : kyE R C nb o = kyE R C nb b := by rw [hE]; exact encR_eq q2
        rw [q1, bnS]
        show ∃ bb, (if nI (ofC o) ≤ 0 then fX11_isBetter_j161 (cI o.2) (nI (ofC o)) gc else (if cI o.1 = gc 0 then fX11_isBetter_j161 (cI o.2) (nI (ofC o)) gc else (if gc 0 ≤ cI o.1 then some false else some true))) = some bb ∧ _
        unfold fX11_isBetter_j161
        rw [g0, g1, hEE, t, t2]
        have k1 : o.1 = 0 → ofC o = 0 := by intro z; unfold ofC; rw [if_pos z, if_pos (vo1 z)]
        have k2 : b.1 = 0 → ofC b = 0 := by intro z; unfold ofC; rw [if_pos z, if_pos (vb1 z)]
        have k3 : o.1 ≠ 0 → o.2 = 0 → ofC o = 1 := by intro z z2; unfold ofC; rw [if_neg z, if_pos z2]
        have k4 : b.1 ≠ 0 → b.2 = 0 → ofC b = 1 := by intro z z2; unfold ofC; rw [if_neg z, if_pos z2]
        have k5 : o.1 ≠ 0 → o.2 ≠ 0 → ofC o = 2 := by intro z z2; unfold ofC; rw [if_neg z, if_neg z2]
        have k6 : b.1 ≠ 0 → b.2 ≠ 0 → ofC b = 2 := by intro z z2; unfold ofC; rw [if_neg z, if_neg z2]
        by_cases d0 : ofC b = 0
        · rw [d0, if_pos (show nI 0 ≤ 0 from by decide), if_pos (show nI 0 ≤ 1 from by decide)]
          have w1 : o.1 = 0 := by
            rcases Nat.eq_zero_or_pos o.1 with z | z
            · exact z
            · exfalso
              by_cases z2 : o.2 = 0
              · have := k3 (by omega) z2; omega
              · have := k5 (by omega) z2; omega
          have w2 : b.1 = 0 := by
            rcases Nat.eq_zero_or_pos b.1 with z | z
            · exact z
            · exfalso
              by_cases z2 : b.2 = 0
              · have := k4 (by omega) z2; omega
              · have := k6 (by omega) z2; omega
          have w3 := vo1 w1
          have w4 := vb1 w2
          exact ⟨false, rfl, fun z => absurd z (by decide), fun z => by omega⟩
        · have w1 : o.1 ≠ 0 := fun z => by have := k1 z; omega
          have w2 : b.1 ≠ 0 := fun z => by have := k2 z; omega
          rw [if_neg (show ¬ nI (ofC b) ≤ 0 from nI_nle (by omega) (by omega)), cI_pos (o := o.1) (by omega), cI_pos (o := b.1) (by omega)]
          by_cases f0 : o.1 = b.1
          · rw [if_pos (by rw [f0])]
            by_cases d1 : ofC b = 1
            · rw [d1, if_pos (show nI 1 ≤ 1 from by decide)]
              have w3 : o.2 = 0 := by
                rcases Nat.eq_zero_or_pos o.2 with z | z
                · exact z
                · have := k5 w1 (by omega); omega
              have w4 : b.2 = 0 := by
                rcases Nat.eq_zero_or_pos b.2 with z | z
                · exact z
                · have := k6 w2 (by omega); omega
              exact ⟨false, rfl, fun z => absurd z (by decide), fun z => by omega⟩
            · have w3 : o.2 ≠ 0 := fun z => by have := k3 w1 z; omega
              have w4 : b.2 ≠ 0 := fun z => by have := k4 w2 z; omega
              rw [if_neg (show ¬ nI (ofC b) ≤ 1 from nI_ge (a := 1) (by omega) (by omega)), cI_pos (o := o.2) (by omega), cI_pos (o := b.2) (by omega)]
              by_cases f1 : b.2 - 1 ≤ o.2 - 1
              · rw [if_pos (nI_le f1 (by omega))]
                exact ⟨false, rfl, fun z => absurd z (by decide), fun z => by omega⟩
              · rw [if_neg (nI_ge (by omega) (by omega))]
                exact ⟨true, rfl, fun _ => by omega, fun _ => rfl⟩
          · rw [if_neg (fun z => f0 (by have := (nI_eq (by omega) (by omega)).mp z; omega))]
            by_cases f1 : b.1 - 1 ≤ o.1 - 1
            · rw [if_pos (nI_le f1 (by omega))]
              exact ⟨false, rfl, fun z => absurd z (by decide), fun z => by omega⟩
            · rw [if_neg (nI_ge (by omega) (by omega))]
              exact ⟨true, rfl, fun _ => by omega, fun _ => rfl⟩
      · have q1 : fX11_isBetter_l76 tI gr lf FU (0 : Int32) = some (.inr bb) := q1
        rw [q1, bnS]
        refine ⟨bb, rfl, ?_⟩
        have hEo : kyE R C nb o = encR (ofA R C nb o) (ofR R C nb o) := rfl
        rw [hE, hEo]
        cases bb with
        | true =>
          have := q2.mp rfl
          exact ⟨fun _ => by omega, fun _ => rfl⟩
        | false =>
          have := q3.mp rfl
          exact ⟨fun z => absurd z (by decide), fun z => by omega⟩
    · rw [if_neg (fun z => t2 ((nI_eq (by omega) (by omega)).mp z))]
      by_cases t3 : ofC b ≤ ofC o
      · rw [if_pos (nI_le t3 (by omega))]
        exact ⟨false, rfl, fun z => absurd z (by decide), fun z => by omega⟩
      · rw [if_neg (nI_ge (by omega) (by omega))]
        exact ⟨true, rfl, fun _ => by omega, fun _ => rfl⟩
  · rw [if_neg (fun z => t ((nI_eq (by omega) (by omega)).mp z))]
    by_cases t3 : ofR R C nb b + ofC b ≤ ofR R C nb o + ofC o
    · rw [if_pos (nI_le t3 (by omega))]
      exact ⟨false, rfl, fun z => absurd z (by decide), fun z => by omega⟩
    · rw [if_neg (nI_ge (by omega) (by omega))]
      exact ⟨true, rfl, fun _ => by omega, fun _ => rfl⟩
end CHOICE_
