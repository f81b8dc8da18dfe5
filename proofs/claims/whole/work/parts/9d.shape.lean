/-! ===== what a number can be ===== -/
theorem sgetN (l : List Int32) (j : Nat) (hj : j < 2 ^ 31) : l.getD (nI j).toNatClampNeg 0 = l.getD j 0 := by rw [nI_clamp hj]
def cbR (L G : Nat) (p1 : Int32) : Bool := fX11_isIn p1 (nI L) (nI G)
theorem isIn_no {p a b : Int32} (h : p < a ∨ b < p) : fX11_isIn p a b = false := by
  unfold fX11_isIn
  by_cases c : p < a
  · rw [if_pos c]
  · rw [if_neg c]
    rcases h with h | h
    · exact absurd h c
    · rw [if_pos h]
theorem isIn_yes {p a b : Int32} (h1 : ¬ p < a) (h2 : ¬ b < p) : fX11_isIn p a b = true := by
  unfold fX11_isIn
  rw [if_neg h1, if_neg h2]
theorem canBe_pl (j : Nat) (hj : j < 9) (h0 : j ≠ 0) (h2 : j ≠ 2) (p1 : Int32) : fX10_canBe (nI j) p1 = some (fX11_isIn p1 ((sV 1).getD j 0) ((sV 2).getD j 0)) := by
  unfold fX10_canBe
  rw [if_neg (nI_pos (by omega)), if_neg (show ¬ (9 : Int32) ≤ nI j from nI_ge (b := 9) hj (by decide)), gdN hj (by decide), gdN hj (by decide), nI_clamp (by omega), if_neg (nI_ne0 (by omega) (by omega)), if_neg (show ¬ nI j = (2 : Int32) from fun e => h2 ((nI_eq (b := 2) (by omega) (by decide)).mp e)), if_pos (show (0 : Int32) = 0 from rfl)]
  by_cases c : p1 < (sV 1).getD j 0
  · rw [if_pos c, isIn_no (.inl c)]
  · rw [if_neg c]
    by_cases c2 : p1 ≤ (sV 2).getD j 0
    · rw [if_pos c2, isIn_yes c (fun z => (fa_of_lt z).2.1 c2)]
    · rw [if_neg c2, isIn_no (.inr (fa_of_nle c2))]
theorem canBe_0 (p1 : Int32) : fX10_canBe (0 : Int32) p1 = some (fX11_canBe (0 : Int32) p1) := by
  unfold fX10_canBe fX11_canBe
  rw [if_neg (show ¬ (0 : Int32) < 0 from by decide), if_neg (show ¬ (9 : Int32) ≤ 0 from by decide), show gi (0 : Int32) 9 = true from by decide, gdT, gdT, show (sV 1).getD (0 : Int32).toNatClampNeg 0 = (16 : Int32) from rfl, show (sV 2).getD (0 : Int32).toNatClampNeg 0 = (1024 : Int32) from rfl, if_pos (show (0 : Int32) = 0 from rfl), if_pos (show (0 : Int32) = (0 : Int32) from rfl), if_neg (show ¬ (1 : Int32) = 0 from by decide)]
  by_cases c : p1 < (16 : Int32)
  · rw [if_pos c, isIn_no (.inl c), if_pos (show bi false = 0 from rfl)]
  · rw [if_neg c]
    by_cases c2 : p1 ≤ (1024 : Int32)
    · rw [if_pos c2, isIn_yes c (fun z => (fa_of_lt z).2.1 c2), if_neg (show ¬ bi true = 0 from by decide)]
      split <;> rfl
    · rw [if_neg c2, isIn_no (.inr (fa_of_nle c2)), if_pos (show bi false = 0 from rfl)]
theorem mux_9 : ∀ j, j < 9 → ((if (nI j &&& (nI j - (1 : Int32))) = 0 then some true else some false) = some (if nI j = 0 then true else (if (bi (fX11_isMux (nI j))) = 0 then false else true))) := by decide +kernel
theorem isMux_no {p : Int32} (h : p < 0 ∨ (8 : Int32) < p) : fX11_isMux p = false ∧ ¬ p = 0 := by
  have n : ∀ q : Int32, 0 ≤ q → q ≤ (8 : Int32) → ¬ p = q := by
    intro q h1 h2 e
    subst e
    rcases h with h | h
    · exact (fa_of_lt h).2.1 h1
    · exact (fa_of_lt h).2.1 h2
  unfold fX11_isMux
  rw [if_neg (n 1 (by decide) (by decide)), if_neg (n 2 (by decide) (by decide)), if_neg (n 4 (by decide) (by decide)), if_neg (n 8 (by decide) (by decide))]
  exact ⟨rfl, n 0 (by decide) (by decide)⟩
theorem canBe_2 (p1 : Int32) : fX10_canBe (2 : Int32) p1 = some (fX11_canBe (2 : Int32) p1) := by
  unfold fX10_canBe fX11_canBe
  rw [if_neg (show ¬ (2 : Int32) < 0 from by decide), if_neg (show ¬ (9 : Int32) ≤ 2 from by decide), show gi (2 : Int32) 9 = true from by decide, gdT, gdT, show (sV 1).getD (2 : Int32).toNatClampNeg 0 = (0 : Int32) from rfl, show (sV 2).getD (2 : Int32).toNatClampNeg 0 = (8 : Int32) from rfl, if_neg (show ¬ (2 : Int32) = 0 from by decide), if_pos (show (2 : Int32) = (2 : Int32) from rfl), if_neg (show ¬ (1 : Int32) = 0 from by decide), if_neg (show ¬ (2 : Int32) = (0 : Int32) from by decide), if_neg (show ¬ (2 : Int32) = (1 : Int32) from by decide), if_pos (show (2 : Int32) = (2 : Int32) from rfl)]
  rcases pk_ix p1 (n := 9) (by decide) with c | c | ⟨j, hj, rfl⟩
  · have := isMux_no (.inl c)
    rw [if_pos (show p1 < (0 : Int32) from c), if_neg this.2, this.1, if_pos (show bi false = 0 from rfl)]
  · have c8 : (8 : Int32) < p1 := fa_trans (show (8 : Int32) < nI 9 from by decide) c
    have := isMux_no (.inr c8)
    have c0 : ¬ p1 < (0 : Int32) := fun z => by
      have := fa_trans z (show (0 : Int32) ≤ 8 from by decide)
      exact (fa_of_lt this).2.2.1 c8
    rw [if_neg c0, if_neg (fa_of_lt c8).2.1, if_neg this.2, this.1, if_pos (show bi false = 0 from rfl)]
  · rw [if_neg (show ¬ nI j < (0 : Int32) from nI_pos (by omega)), if_pos (show nI j ≤ (8 : Int32) from nI_le (b := 8) (by omega) (by decide))]
    exact mux_9 j hj
theorem canBe_eq (p0 p1 : Int32) : fX10_canBe p0 p1 = some (fX11_canBe p0 p1) := by
  rcases pk_ix p0 (n := 9) (by decide) with c | c | ⟨j, hj, rfl⟩
  · have hn : ∀ j, j < 9 → ¬ p0 = nI j := fun j hj e => by rw [e] at c; exact nI_pos (by omega) c
    unfold fX10_canBe fX11_canBe
    rw [if_pos c, if_neg (show ¬ p0 = (0 : Int32) from hn 0 (by decide)), if_neg (show ¬ p0 = (1 : Int32) from hn 1 (by decide)), if_neg (show ¬ p0 = (2 : Int32) from hn 2 (by decide)), if_neg (show ¬ p0 = (3 : Int32) from hn 3 (by decide)), if_neg (show ¬ p0 = (4 : Int32) from hn 4 (by decide)), if_neg (show ¬ p0 = (5 : Int32) from hn 5 (by decide)), if_neg (show ¬ p0 = (6 : Int32) from hn 6 (by decide)), if_neg (show ¬ p0 = (7 : Int32) from hn 7 (by decide)), if_neg (show ¬ p0 = (8 : Int32) from hn 8 (by decide))]
  · have hn : ∀ j, j < 9 → ¬ p0 = nI j := fun j hj e => by rw [e] at c; exact nI_ge hj (by decide) c
    have c0 : ¬ p0 < 0 := fun z => by
      have := fa_trans z (show (0 : Int32) ≤ nI 9 from by decide)
      exact (fa_of_lt this).2.1 c
    unfold fX10_canBe fX11_canBe
    rw [if_neg c0, if_pos (show (9 : Int32) ≤ p0 from c), if_neg (show ¬ p0 = (0 : Int32) from hn 0 (by decide)), if_neg (show ¬ p0 = (1 : Int32) from hn 1 (by decide)), if_neg (show ¬ p0 = (2 : Int32) from hn 2 (by decide)), if_neg (show ¬ p0 = (3 : Int32) from hn 3 (by decide)), if_neg (show ¬ p0 = (4 : Int32) from hn 4 (by decide)), if_neg (show ¬ p0 = (5 : Int32) from hn 5 (by decide)), if_neg (show ¬ p0 = (6 : Int32) from hn 6 (by decide)), if_neg (show ¬ p0 = (7 : Int32) from hn 7 (by decide)), if_neg (show ¬ p0 = (8 : Int32) from hn 8 (by decide))]
  · have e : j = 0 ∨ j = 1 ∨ j = 2 ∨ j = 3 ∨ j = 4 ∨ j = 5 ∨ j = 6 ∨ j = 7 ∨ j = 8 := by omega
    rcases e with e | e | e | e | e | e | e | e | e <;> subst e
    · exact canBe_0 p1
    · exact canBe_pl 1 (by decide) (by decide) (by decide) p1
    · exact canBe_2 p1
    · exact canBe_pl 3 (by decide) (by decide) (by decide) p1
    · exact canBe_pl 4 (by decide) (by decide) (by decide) p1
    · exact canBe_pl 5 (by decide) (by decide) (by decide) p1
    · exact canBe_pl 6 (by decide) (by decide) (by decide) p1
    · exact canBe_pl 7 (by decide) (by decide) (by decide) p1
    · exact canBe_pl 8 (by decide) (by decide) (by decide) p1
def okV (k v : Nat) : Prop := match k with
  | 0 => ∃ e, 4 ≤ e ∧ e ≤ 10 ∧ v = 2 ^ e
  | 1 => 1 ≤ v ∧ v ≤ 32
  | 2 => v = 0 ∨ ∃ f, f ≤ 3 ∧ v = 2 ^ f
  | 3 => v ≤ 4
  | 4 => v ≤ 2
  | 5 => 1 ≤ v ∧ v ≤ 20
  | 6 => 1 ≤ v ∧ v ≤ 20
  | 7 => v ≤ 100
  | _ => v ≤ 2
theorem isIn_of {p : Int32} {L G : Nat} (hG : G < 2 ^ 31) (hL : L < 2 ^ 31) (h : fX11_isIn p (nI L) (nI G) = true) : ∃ v, p = nI v ∧ L ≤ v ∧ v ≤ G := by
  unfold fX11_isIn at h
  by_cases c : p < nI L
  · rw [if_pos c] at h; cases h
  · rw [if_neg c] at h
    by_cases c2 : nI G < p
    · rw [if_pos c2] at h; cases h
    · have h0 : ¬ p < 0 := fun z => c (fa_trans z (nI_pos' hL))
      obtain ⟨v, v1, rfl⟩ := nI_of h0
      refine ⟨v, rfl, ?_, ?_⟩
      · rcases Nat.lt_or_ge v L with z | z
        · exact absurd (nI_lt z hL) c
        · exact z
      · rcases Nat.lt_or_ge G v with z | z
        · exact absurd (nI_lt z v1) c2
        · exact z
theorem pow_16 : ∀ v, v < 1025 → 16 ≤ v → (nI v &&& (nI v - (1 : Int32))) = 0 → (v = 16 ∨ v = 32 ∨ v = 64 ∨ v = 128 ∨ v = 256 ∨ v = 512 ∨ v = 1024) := by decide +kernel
theorem canBe_ok {p0 p1 : Int32} (h : fX11_canBe p0 p1 = true) : ∃ k v, k < 9 ∧ p0 = nI k ∧ p1 = nI v ∧ okV k v := by
  unfold fX11_canBe at h
  by_cases c0 : p0 = (0 : Int32)
  · rw [if_pos c0] at h
    by_cases d : bi (fX11_isIn p1 (16 : Int32) (1024 : Int32)) = 0
    · rw [if_pos d] at h; cases h
    · rw [if_neg d] at h
      have d2 : fX11_isIn p1 (nI 16) (nI 1024) = true := by
        cases e : fX11_isIn p1 (nI 16) (nI 1024) with
        | true => rfl
        | false =>
          have e : fX11_isIn p1 (16 : Int32) (1024 : Int32) = false := e
          rw [e] at d; exact absurd rfl d
      obtain ⟨v, rfl, v1, v2⟩ := isIn_of (by decide) (by decide) d2
      refine ⟨0, v, by decide, c0, rfl, ?_⟩
      by_cases d3 : (nI v &&& (nI v - (1 : Int32))) = 0
      · rcases pow_16 v (by omega) v1 d3 with q | q | q | q | q | q | q
        · exact ⟨4, by decide, by decide, q⟩
        · exact ⟨5, by decide, by decide, q⟩
        · exact ⟨6, by decide, by decide, q⟩
        · exact ⟨7, by decide, by decide, q⟩
        · exact ⟨8, by decide, by decide, q⟩
        · exact ⟨9, by decide, by decide, q⟩
        · exact ⟨10, by decide, by decide, q⟩
      · rw [if_neg d3] at h; cases h
  · rw [if_neg c0] at h
    by_cases c1 : p0 = (1 : Int32)
    · rw [if_pos c1] at h
      obtain ⟨v, rfl, v1, v2⟩ := isIn_of (L := 1) (G := 32) (by decide) (by decide) h
      exact ⟨1, v, by decide, c1, rfl, v1, v2⟩
    · rw [if_neg c1] at h
      by_cases c2 : p0 = (2 : Int32)
      · rw [if_pos c2] at h
        by_cases d : p1 = 0
        · exact ⟨2, 0, by decide, c2, d, .inl rfl⟩
        · rw [if_neg d] at h
          unfold fX11_isMux at h
          by_cases m1 : p1 = (1 : Int32)
          · exact ⟨2, 1, by decide, c2, m1, .inr ⟨0, by decide, rfl⟩⟩
          · by_cases m2 : p1 = (2 : Int32)
            · exact ⟨2, 2, by decide, c2, m2, .inr ⟨1, by decide, rfl⟩⟩
            · by_cases m4 : p1 = (4 : Int32)
              · exact ⟨2, 4, by decide, c2, m4, .inr ⟨2, by decide, rfl⟩⟩
              · by_cases m8 : p1 = (8 : Int32)
                · exact ⟨2, 8, by decide, c2, m8, .inr ⟨3, by decide, rfl⟩⟩
                · rw [if_neg m1, if_neg m2, if_neg m4, if_neg m8, if_pos (show bi false = 0 from rfl)] at h; cases h
      · rw [if_neg c2] at h
        by_cases c3 : p0 = (3 : Int32)
        · rw [if_pos c3] at h
          obtain ⟨v, rfl, v1, v2⟩ := isIn_of (L := 0) (G := 4) (by decide) (by decide) h
          exact ⟨3, v, by decide, c3, rfl, v2⟩
        · rw [if_neg c3] at h
          by_cases c4 : p0 = (4 : Int32)
          · rw [if_pos c4] at h
            obtain ⟨v, rfl, v1, v2⟩ := isIn_of (L := 0) (G := 2) (by decide) (by decide) h
            exact ⟨4, v, by decide, c4, rfl, v2⟩
          · rw [if_neg c4] at h
            by_cases c5 : p0 = (5 : Int32)
            · rw [if_pos c5] at h
              obtain ⟨v, rfl, v1, v2⟩ := isIn_of (L := 1) (G := 20) (by decide) (by decide) h
              exact ⟨5, v, by decide, c5, rfl, v1, v2⟩
            · rw [if_neg c5] at h
              by_cases c6 : p0 = (6 : Int32)
              · rw [if_pos c6] at h
                obtain ⟨v, rfl, v1, v2⟩ := isIn_of (L := 1) (G := 20) (by decide) (by decide) h
                exact ⟨6, v, by decide, c6, rfl, v1, v2⟩
              · rw [if_neg c6] at h
                by_cases c7 : p0 = (7 : Int32)
                · rw [if_pos c7] at h
                  obtain ⟨v, rfl, v1, v2⟩ := isIn_of (L := 0) (G := 100) (by decide) (by decide) h
                  exact ⟨7, v, by decide, c7, rfl, v2⟩
                · rw [if_neg c7] at h
                  by_cases c8 : p0 = (8 : Int32)
                  · rw [if_pos c8] at h
                    obtain ⟨v, rfl, v1, v2⟩ := isIn_of (L := 0) (G := 2) (by decide) (by decide) h
                    exact ⟨8, v, by decide, c8, rfl, v2⟩
                  · rw [if_neg c8] at h; cases h
def upN1 (N : Nat → Nat) (k v : Nat) : Nat → Nat := fun i => if i = k then v else N i
theorem okN_up {N : Nat → Nat} {w k v : Nat} (ok : okN N w) (hk : k < 9) (hv : okV k v) : ∃ w2, okN (upN1 N k v) w2 := by
  obtain ⟨n0, w1, w2, n1, n1', n2, n3, n4, n5, n5', n6, n6', n7, n8⟩ := ok
  have e : k = 0 ∨ k = 1 ∨ k = 2 ∨ k = 3 ∨ k = 4 ∨ k = 5 ∨ k = 6 ∨ k = 7 ∨ k = 8 := by omega
  rcases e with e | e | e | e | e | e | e | e | e <;> subst e
  · obtain ⟨e, e1, e2, e3⟩ := hv
    exact ⟨e, e3, e1, e2, n1, n1', n2, n3, n4, n5, n5', n6, n6', n7, n8⟩
  · exact ⟨w, n0, w1, w2, hv.1, hv.2, n2, n3, n4, n5, n5', n6, n6', n7, n8⟩
  · exact ⟨w, n0, w1, w2, n1, n1', hv, n3, n4, n5, n5', n6, n6', n7, n8⟩
  · exact ⟨w, n0, w1, w2, n1, n1', n2, hv, n4, n5, n5', n6, n6', n7, n8⟩
  · exact ⟨w, n0, w1, w2, n1, n1', n2, n3, hv, n5, n5', n6, n6', n7, n8⟩
  · exact ⟨w, n0, w1, w2, n1, n1', n2, n3, n4, hv.1, hv.2, n6, n6', n7, n8⟩
  · exact ⟨w, n0, w1, w2, n1, n1', n2, n3, n4, n5, n5', hv.1, hv.2, n7, n8⟩
  · exact ⟨w, n0, w1, w2, n1, n1', n2, n3, n4, n5, n5', n6, n6', hv, n8⟩
  · exact ⟨w, n0, w1, w2, n1, n1', n2, n3, n4, n5, n5', n6, n6', n7, hv⟩
/-! ===== shape, wished ===== -/
theorem i4 (A F t g : Int32) : (A + F) + (t + g) = ((A + t) + g) + F := by rw [Int32.add_assoc A F, Int32.add_comm F, ← Int32.add_assoc A, ← Int32.add_assoc A]
theorem mux_or (p : Int32) : (∃ f, f ≤ 3 ∧ p = nI (2 ^ f)) ∨ (fX11_isMux p = false ∧ (p = 0 ∨ fX10_canBe (2 : Int32) p = some false)) := by
  by_cases m1 : p = (1 : Int32)
  · exact .inl ⟨0, by decide, m1⟩
  · by_cases m2 : p = (2 : Int32)
    · exact .inl ⟨1, by decide, m2⟩
    · by_cases m4 : p = (4 : Int32)
      · exact .inl ⟨2, by decide, m4⟩
      · by_cases m8 : p = (8 : Int32)
        · exact .inl ⟨3, by decide, m8⟩
        · have hm : fX11_isMux p = false := by unfold fX11_isMux; rw [if_neg m1, if_neg m2, if_neg m4, if_neg m8]
          refine .inr ⟨hm, ?_⟩
          by_cases d : p = 0
          · exact .inl d
          · right
            rw [canBe_2]
            unfold fX11_canBe
            rw [if_neg (show ¬ (2 : Int32) = (0 : Int32) from by decide), if_neg (show ¬ (2 : Int32) = (1 : Int32) from by decide), if_pos (show (2 : Int32) = (2 : Int32) from rfl), if_neg d, hm, if_pos (show bi false = 0 from rfl)]
theorem x_tell {N : Nat → Nat} {w f : Nat} {al tJ z : Nat → Int32} (hm : mdl al 0 N) (ok : okN N w) (hM : okM w f) (hF : frm N w f tJ z) (z0 : Nat → Int32) (p1 : Int32) : ∃ v z2, fX4_tell tJ z p1 = some v ∧ fX11_shape al z0 (nI (2 ^ f)) p1 = some (v, z2) := by
  have hF' := hF
  obtain ⟨⟨h1, h2, h3, h4, h5, h6, h9, h10, h11⟩, ⟨h12, h13, h14, h15, h16, h17⟩, hz⟩ := hF
  obtain ⟨r, r1, r2⟩ := y_possible hm ok hM.1
  have hs := stg_b (w - f) (CC N f)
  have hsg : 2 ≤ sgN N w f ∧ sgN N w f ≤ 8 := hs
  have r1 : fX11_isPossible al (0 : Int32) (nI (2 ^ f)) = some r := r1
  have st : fX11_stages al (0 : Int32) (nI (2 ^ f)) = some (nI (sgN N w f)) := y_stages hm ok hM.1 hM.2.1 hM.2.2
  unfold fX4_tell fX11_shape
  rw [r1, bnS, r2.mpr hM, if_neg (show ¬ bi true = 0 from by decide), st, bnS]
  rcases inM (p1 - (20 : Int32)) (n := sgN N w f) (by omega) with ⟨q1, q2⟩ | ⟨j, q1, q2, q3⟩
  · rw [if_pos q1]
    by_cases c0 : p1 = (0 : Int32)
    · rw [if_pos c0, if_pos c0]
      have e : fX11_rows al (0 : Int32) (nI (2 ^ f)) = some (nI (2 ^ (w - f))) := y_rows hm ok hM.1
      rw [e, bnS, h1]
      exact ⟨_, _, rfl, rfl⟩
    rw [if_neg c0, if_neg c0]
    by_cases c1 : p1 = (1 : Int32)
    · rw [if_pos c1, if_pos c1]
      have e : fX11_columns al (0 : Int32) (nI (2 ^ f)) = some (nI (N 1 * 2 ^ f)) := y_columns hm ok
      rw [e, bnS, h2]
      exact ⟨_, _, rfl, rfl⟩
    rw [if_neg c1, if_neg c1]
    obtain ⟨z3, e3, -⟩ := y_width hm ok hM z0
    have e3 : fX11_width al z0 (0 : Int32) (nI (2 ^ f)) = some (wiN N w f, z3) := e3
    have e4 : fX11_height al (0 : Int32) (nI (2 ^ f)) = some (heN N w f) := y_height hm ok hM
    by_cases c2 : p1 = (2 : Int32)
    · rw [if_pos c2, if_pos c2, e3, bnS, h12]
      exact ⟨_, _, rfl, rfl⟩
    rw [if_neg c2, if_neg c2]
    by_cases c3 : p1 = (3 : Int32)
    · rw [if_pos c3, if_pos c3, e4, bnS, h13]
      exact ⟨_, _, rfl, rfl⟩
    rw [if_neg c3, if_neg c3]
    by_cases c4 : p1 = (4 : Int32)
    · rw [if_pos c4, if_pos c4, e3, bnS, e4, bnS]
      unfold fX4_area
      rw [h12, h13]
      exact ⟨_, _, rfl, rfl⟩
    rw [if_neg c4, if_neg c4]
    have e5 : fX11_common al (0 : Int32) (nI (2 ^ f)) = some (coN N w f) := y_common hm ok hM
    have e6 : fX11_fall al (0 : Int32) (nI (2 ^ f)) = some (faN N w f) := y_fall hm ok hM
    by_cases c5 : p1 = (5 : Int32)
    · rw [if_pos c5, if_pos c5, e5, bnS, e6, bnS]
      unfold fX4_readTime
      rw [h11, h14, h15, h16]
      exact ⟨_, z0, rfl, congrArg some (Prod.ext (i4 (deN N w f + wrN N f) (faN N w f) (20 : Int32) ((5 : Int32) * nI f)).symm rfl)⟩
    rw [if_neg c5, if_neg c5]
    have e7 : fX11_cycle al (0 : Int32) (nI (2 ^ f)) = some (cyN N w f) := y_cycle hm ok hM
    by_cases c6 : p1 = (6 : Int32)
    · rw [if_pos c6, if_pos c6, x_cycle hF', bnS, e7, bnS]
      exact ⟨_, _, rfl, rfl⟩
    rw [if_neg c6, if_neg c6]
    by_cases c7 : p1 = (7 : Int32)
    · rw [if_pos c7, if_pos c7, h9]
      exact ⟨_, _, rfl, rfl⟩
    rw [if_neg c7, if_neg c7]
    by_cases c8 : p1 = (8 : Int32)
    · have e : fX11_tenths al (0 : Int32) (nI (2 ^ f)) (nI (sgN N w f)) = some (nI (tS (w - f) (CC N f) (sgN N w f))) := y_tenths hm ok hM.1 hM.2.1 hM.2.2 (stg_ok _ _)
      rw [if_pos c8, if_pos c8, e, bnS, h10]
      exact ⟨_, _, rfl, rfl⟩
    rw [if_neg c8, if_neg c8]
    by_cases c9 : p1 = (9 : Int32)
    · have e : fX11_delay al (0 : Int32) (nI (2 ^ f)) (nI (sgN N w f)) = some (deN N w f) := y_delay hm ok hM.1 hM.2.1 hM.2.2 (stg_ok _ _)
      rw [if_pos c9, if_pos c9, e, bnS, h11]
      exact ⟨_, _, rfl, rfl⟩
    rw [if_neg c9, if_neg c9]
    by_cases c10 : p1 = (10 : Int32)
    · have e : fX11_pulls al (0 : Int32) (nI (2 ^ f)) = some (nI (plN N w f)) := y_pulls hm ok hM
      rw [if_pos c10, if_pos c10, e, bnS, h17]
      exact ⟨_, _, rfl, rfl⟩
    rw [if_neg c10, if_neg c10]
    by_cases c11 : p1 = (11 : Int32)
    · have e : fX11_wire al (0 : Int32) (nI (2 ^ f)) = some (wrN N f) := y_wire hm ok
      rw [if_pos c11, if_pos c11, e, bnS, h14]
      exact ⟨_, _, rfl, rfl⟩
    rw [if_neg c11, if_neg c11]
    by_cases c12 : p1 = (12 : Int32)
    · rw [if_pos c12, if_pos c12, e6, bnS, h15]
      exact ⟨_, _, rfl, rfl⟩
    rw [if_neg c12, if_neg c12]
    by_cases c20 : p1 < (20 : Int32)
    · rw [if_pos c20]
      exact ⟨_, _, rfl, rfl⟩
    · rw [if_neg c20, h9, show (20 : Int32) + nI (sgN N w f) = nI (20 + sgN N w f) from nI_add 20 _]
      by_cases c21 : nI (20 + sgN N w f) ≤ p1
      · rw [if_pos c21]
        exact ⟨_, _, rfl, rfl⟩
      · exfalso
        have c0' : ¬ p1 < 0 := fun z => c20 (fa_trans z (show (0 : Int32) ≤ 20 from by decide))
        obtain ⟨q, hq, rfl⟩ := nI_of c0'
        have a1 : 20 ≤ q := by
          rcases Nat.lt_or_ge q 20 with y | y
          · exact absurd (nI_lt (b := 20) y (by decide)) c20
          · exact y
        have a2 : q < 20 + sgN N w f := by
          rcases Nat.lt_or_ge q (20 + sgN N w f) with y | y
          · exact y
          · exact absurd (nI_le y hq) c21
        rw [show nI q - (20 : Int32) = nI (q - 20) from pk_sub (b := 20) a1] at q2
        rcases q2 with q2 | ⟨-, q2⟩
        · exact nI_pos (by omega) q2
        · exact nI_ge (by omega) (by omega) q2
  · have ep : p1 = nI (20 + j) := by
      have : p1 - (20 : Int32) + (20 : Int32) = p1 := Int32.sub_add_cancel p1 20
      rw [q2] at this
      rw [← this, Nat.add_comm]
      exact nI_add j 20
    subst ep
    have nq : ∀ q : Nat, q < 20 → ¬ nI (20 + j) = nI q := fun q hq e => by have := (nI_eq (by omega) (by omega)).mp e; omega
    rw [if_neg q3, q2, if_neg (show ¬ nI (20 + j) = (0 : Int32) from nq 0 (by decide)), if_neg (show ¬ nI (20 + j) = (1 : Int32) from nq 1 (by decide)), if_neg (show ¬ nI (20 + j) = (2 : Int32) from nq 2 (by decide)), if_neg (show ¬ nI (20 + j) = (3 : Int32) from nq 3 (by decide)), if_neg (show ¬ nI (20 + j) = (4 : Int32) from nq 4 (by decide)), if_neg (show ¬ nI (20 + j) = (5 : Int32) from nq 5 (by decide)), if_neg (show ¬ nI (20 + j) = (6 : Int32) from nq 6 (by decide)), if_neg (show ¬ nI (20 + j) = (7 : Int32) from nq 7 (by decide)), if_neg (show ¬ nI (20 + j) = (8 : Int32) from nq 8 (by decide)), if_neg (show ¬ nI (20 + j) = (9 : Int32) from nq 9 (by decide)), if_neg (show ¬ nI (20 + j) = (10 : Int32) from nq 10 (by decide)), if_neg (show ¬ nI (20 + j) = (11 : Int32) from nq 11 (by decide)), if_neg (show ¬ nI (20 + j) = (12 : Int32) from nq 12 (by decide)), if_neg (show ¬ nI (20 + j) < (20 : Int32) from nI_nlt (b := 20) (by omega) (by omega)), h9, show (20 : Int32) + nI (sgN N w f) = nI (20 + sgN N w f) from nI_add 20 _, if_neg (nI_ge (by omega) (by omega)), gdN (by omega) (by decide), nI_clamp (by omega)]
    obtain ⟨z3, e3, e4⟩ := y_sizes hm ok hM.1 hM.2.1 hM.2.2 z0
    have e3 : fX11_laysSizes al z0 (0 : Int32) (nI (2 ^ f)) = some z3 := e3
    rw [e3, bnS, gdN (by omega) (by decide), hz j q1]
    exact ⟨_, _, rfl, congrArg some (Prod.ext (e4 j q1) rfl)⟩
theorem sim_shape : Sim_shape Rel := by
  intro x y p0 p1 h
  have h' := h
  obtain ⟨⟨N, R, C, B, w, f, nb, ⟨⟨ok, hM, hmx, hb, hfit, hds⟩, hX, hY, hc⟩, ⟨hW, hG, hbs, hfw⟩⟩, -⟩ := h'
  have h0 : x.1 2 0 = nI (2 ^ w) := by have := hX.1 0 (by decide); rw [ok.1] at this; exact this
  unfold fX10_shape
  rw [h0]
  rcases mux_or p0 with ⟨f', hf', rfl⟩ | ⟨m1, m2⟩
  · obtain ⟨r, tJ, z, q1, q2, q3⟩ := x_make (p0 := x.1 2) ok (fun k _ hk => hX.1 k hk) hf' (x.1 17) (x.1 18)
    rw [q1, bnS]
    by_cases c : okM w f'
    · obtain ⟨v, z2, u1, u2⟩ := x_tell hY.2.1 ok c (q3 c) (y.1 4) p1
      rw [q2.mpr c, if_neg (show ¬ bi true = 0 from by decide)]
      dsimp only
      rw [u1, bnS, u2]
      exact ⟨_, _, rfl, rfl, rfl, h⟩
    · have hr : r = false := by
        cases r
        · rfl
        · exact absurd (q2.mp rfl) c
      obtain ⟨r', r1, r2⟩ := y_possible hY.2.1 ok hf'
      have hr' : r' = false := by
        cases r'
        · rfl
        · exact absurd (r2.mp rfl) c
      unfold fX11_shape
      have r1 : fX11_isPossible (y.1 1) (0 : Int32) (nI (2 ^ f')) = some r' := r1
      rw [hr, if_pos (show bi false = 0 from rfl), r1, bnS, hr', if_pos (show bi false = 0 from rfl)]
      exact ⟨_, _, rfl, rfl, rfl, h⟩
  · have e1 : fX4_make (x.1 17) (x.1 18) (x.1 2) (nI (2 ^ w)) p0 = some (false, x.1 17, x.1 18) := by
      unfold fX4_make
      by_cases d : p0 = 0
      · rw [if_pos d]
      · rcases m2 with m2 | m2
        · exact absurd m2 d
        · rw [if_neg d, m2, bnS, if_pos (show bi false = 0 from rfl)]
    have e2 : fX11_shape (y.1 1) (y.1 4) p0 p1 = some ((-1 : Int32), y.1 4) := by
      unfold fX11_shape fX11_isPossible
      rw [m1, if_pos (show bi false = 0 from rfl), bnS, if_pos (show bi false = 0 from rfl)]
    rw [e1, bnS, e2, if_pos (show bi false = 0 from rfl)]
    exact ⟨_, _, rfl, rfl, rfl, h⟩
theorem sim_wished : Sim_wished Rel := by
  intro x y p0 h
  have h' := h
  obtain ⟨⟨N, R, C, B, w, f, nb, ⟨⟨ok, hM, hmx, hb, hfit, hds⟩, hX, hY, hc⟩, ⟨hW, hG, hbs, hfw⟩⟩, -⟩ := h'
  unfold fX10_wished fX11_wished
  rcases inN p0 (n := 2) (by decide) with ⟨q1, q2⟩ | ⟨j, q1, q2, q3⟩
  · have q1 : bi (fX11_isIn p0 (0 : Int32) (2 : Int32)) = 0 := q1
    rw [if_pos q1]
    rcases q2 with q2 | ⟨q2, q3⟩
    · rw [if_pos q2]; exact ⟨_, _, rfl, rfl, rfl, h⟩
    · rw [if_neg q2, if_neg (fun z : p0 < (3 : Int32) => by
        obtain ⟨j, hj, rfl⟩ := nI_of q2
        have a1 := (nI_ltI (b := 3) hj (by decide)).mp z
        have a2 := (nI_ltI (a := 2) (by decide) hj).mp q3
        omega)]
      exact ⟨_, _, rfl, rfl, rfl, h⟩
  · have q3 : ¬ bi (fX11_isIn p0 (0 : Int32) (2 : Int32)) = 0 := q3
    obtain ⟨tJ, z, u1⟩ := x_choose ok hX.1 (x.1 17) (x.1 18) p0
    obtain ⟨z2, u2⟩ := y_wishedBy hY.2.1 ok (y.1 4) p0
    have u1 : fX4_choose (x.1 17) (x.1 18) (x.1 2) p0 = some (wshN N w p0, tJ, z) := u1
    have u2 : fX11_wishedBy (y.1 1) (y.1 4) (0 : Int32) p0 = some (wshN N w p0, z2) := u2
    rw [if_neg q3, if_neg (show ¬ p0 < 0 by rw [q2]; exact nI_pos (by omega)), if_pos (show p0 < (3 : Int32) by rw [q2]; exact nI_lt (b := 3) (by omega) (by decide)), u1, bnS, u2, bnS]
    exact ⟨_, _, rfl, rfl, rfl, h⟩
