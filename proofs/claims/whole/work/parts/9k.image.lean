/-! ===== images ===== -/
theorem fb_of {tb : Nat → Int32} (h : ∀ i, i < 300 → tb i = (tb i).toInt8.toInt32) : fb tb 300 = true := by
  unfold fb
  rw [List.all_eq_true]
  intro i hi
  rw [h i (List.mem_range.mp hi)]
  exact pk_fb _
theorem x_copy6 (d c : SV) (h : ∀ i, i < 300 → c.2.2.2.2.2.2.2.2.2 i = (c.2.2.2.2.2.2.2.2.2 i).toInt8.toInt32) : ∃ d2 : SV, fX6_copyFrom d.1 d.2.1 d.2.2.1 d.2.2.2.1 d.2.2.2.2.1 d.2.2.2.2.2.1 d.2.2.2.2.2.2.1 d.2.2.2.2.2.2.2.1 d.2.2.2.2.2.2.2.2.1 d.2.2.2.2.2.2.2.2.2 c.1 c.2.1 c.2.2.1 c.2.2.2.1 c.2.2.2.2.1 c.2.2.2.2.2.1 c.2.2.2.2.2.2.1 c.2.2.2.2.2.2.2.1 c.2.2.2.2.2.2.2.2.1 c.2.2.2.2.2.2.2.2.2 = some d2 ∧ (d2.1 2 = c.1 2 ∧ d2.1 3 = c.1 3 ∧ d2.1 4 = c.1 4 ∧ d2.1 5 = c.1 5 ∧ d2.1 6 = c.1 6) ∧ mvQ (mvS c) (mvS d2) ∧ d2.2.2.2.2.2.2.2.2.1 1 = c.2.2.2.2.2.2.2.2.1 1 ∧ ∀ i, i < 300 → d2.2.2.2.2.2.2.2.2.2 i = c.2.2.2.2.2.2.2.2.2 i := by
  unfold fX6_copyFrom
  obtain ⟨m2, q1, q2⟩ := x_copy0 (mvS d) (mvS c)
  have q1 : fX0_copyFrom d.2.1 d.2.2.1 d.2.2.2.1 d.2.2.2.2.1 d.2.2.2.2.2.1 d.2.2.2.2.2.2.1 d.2.2.2.2.2.2.2.1 c.2.1 c.2.2.1 c.2.2.2.1 c.2.2.2.2.1 c.2.2.2.2.2.1 c.2.2.2.2.2.2.1 c.2.2.2.2.2.2.2.1 = some m2 := q1
  have q3 : fX7_copyFrom d.2.2.2.2.2.2.2.2.1 d.2.2.2.2.2.2.2.2.2 c.2.2.2.2.2.2.2.2.1 c.2.2.2.2.2.2.2.2.2 = some ((upd d.2.2.2.2.2.2.2.2.1 1 (c.2.2.2.2.2.2.2.2.1 1)), (va_cpy c.2.2.2.2.2.2.2.2.2 d.2.2.2.2.2.2.2.2.2 0 0 300)) := by
    unfold fX7_copyFrom
    rw [fb_of h]
    rfl
  rw [q1, bnS, q3, bnS]
  refine ⟨_, rfl, ⟨rfl, rfl, rfl, rfl, rfl⟩, q2, rfl, fun i hi => ?_⟩
  refine (pk_cpy_in (Nat.zero_le _) (by omega)).trans ?_
  rw [show 0 + (i - 0) = i from by omega]
theorem x_init6 : ∃ d, fX6_init = some d := ⟨_, rfl⟩
theorem tapR_x {tI tb tI2 tb2 yt : Nat → Int32} {yn : Int32} (h1 : tI2 1 = tI 1) (h2 : ∀ i, i < 300 → tb2 i = tb i) (h : tapR tI tb yt yn) : tapR tI2 tb2 yt yn := by
  obtain ⟨n, a1, a2, a3, a4, a5⟩ := h
  refine ⟨n, a1, h1.trans a2, a3, fun i hi => by rw [h2 i hi]; exact a4 i hi, fun i hi => ?_⟩
  obtain ⟨v, v1, v2, v3⟩ := a5 i hi
  exact ⟨v, v1, v2, by rw [h2 i (by omega)]; exact v3⟩
theorem y_tape_out {b : Nat} (hb : b + 4511 ≤ 43047) (yt al : Nat → Int32) : ∃ al2, fX11_image_l32 (nI b) yt FU (0 : Int32) al = some al2 ∧ ∀ k, al2 k = if b + 4211 ≤ k ∧ k < b + 4211 + 300 then yt (k - (b + 4211)) else al k := by
  have loop : ∀ (d F i : Nat) (t : Nat → Int32), i + d = 300 → d < F → (∀ k, t k = if b + 4211 ≤ k ∧ k < b + 4211 + i then yt (k - (b + 4211)) else al k) → ∃ al2, fX11_image_l32 (nI b) yt F (nI i) t = some al2 ∧ ∀ k, al2 k = if b + 4211 ≤ k ∧ k < b + 4211 + 300 then yt (k - (b + 4211)) else al k := by
    intro d
    induction d with
    | zero =>
      intro F i t e1 e2 ht
      obtain ⟨F, rfl⟩ : ∃ G, F = G + 1 := ⟨F - 1, by omega⟩
      have : i = 300 := by omega
      subst this
      rw [fX11_image_l32, if_pos (show (300 : Int32) ≤ nI 300 from by decide)]
      exact ⟨t, rfl, ht⟩
    | succ d ih =>
      intro F i t e1 e2 ht
      obtain ⟨F, rfl⟩ : ∃ G, F = G + 1 := ⟨F - 1, by omega⟩
      rw [fX11_image_l32, if_neg (show ¬ (300 : Int32) ≤ nI i from nI_ge (b := 300) (by omega) (by decide)), gdN (by omega) (by decide), show nI b + (4211 : Int32) = nI (b + 4211) from nI_add b 4211, nI_add, gdN (by omega) (by decide), nI_clamp (by omega), nI_clamp (by omega), show nI i + (1 : Int32) = nI (i + 1) from nI_1 i]
      refine ih F (i + 1) _ (by omega) (by omega) (fun k => ?_)
      by_cases ek : k = b + 4211 + i
      · subst ek; rw [ux_at, if_pos (by omega), show b + 4211 + i - (b + 4211) = i from by omega]
      · rw [ux_ne ek, ht]
        by_cases w : b + 4211 ≤ k ∧ k < b + 4211 + i
        · rw [if_pos w, if_pos (by omega)]
        · rw [if_neg w, if_neg (by omega)]
  exact loop 300 FU 0 al (by decide) (by decide) (fun k => by rw [if_neg (by omega)])
theorem y_tape_in {b : Nat} (hb : b + 4511 ≤ 43047) (yt al : Nat → Int32) : ∃ yt2, fX11_again_l41 (nI b) al FU (0 : Int32) yt = some yt2 ∧ ∀ k, k < 300 → yt2 k = al (b + 4211 + k) := by
  have loop : ∀ (d F i : Nat) (t : Nat → Int32), i + d = 300 → d < F → (∀ k, k < i → t k = al (b + 4211 + k)) → ∃ yt2, fX11_again_l41 (nI b) al F (nI i) t = some yt2 ∧ ∀ k, k < 300 → yt2 k = al (b + 4211 + k) := by
    intro d
    induction d with
    | zero =>
      intro F i t e1 e2 ht
      obtain ⟨F, rfl⟩ : ∃ G, F = G + 1 := ⟨F - 1, by omega⟩
      have : i = 300 := by omega
      subst this
      rw [fX11_again_l41, if_pos (show (300 : Int32) ≤ nI 300 from by decide)]
      exact ⟨t, rfl, ht⟩
    | succ d ih =>
      intro F i t e1 e2 ht
      obtain ⟨F, rfl⟩ : ∃ G, F = G + 1 := ⟨F - 1, by omega⟩
      rw [fX11_again_l41, if_neg (show ¬ (300 : Int32) ≤ nI i from nI_ge (b := 300) (by omega) (by decide)), show nI b + (4211 : Int32) = nI (b + 4211) from nI_add b 4211, nI_add, gdN (by omega) (by decide), gdN (by omega) (by decide), nI_clamp (by omega), nI_clamp (by omega), show nI i + (1 : Int32) = nI (i + 1) from nI_1 i]
      refine ih F (i + 1) _ (by omega) (by omega) (fun k hk => ?_)
      by_cases ek : k = i
      · subst ek; rw [ux_at]
      · rw [ux_ne ek]; exact ht k (by omega)
  exact loop 300 FU 0 yt (by decide) (by decide) (fun k hk => absurd hk (Nat.not_lt_zero k))
theorem ib (k : Nat) : (29505 : Int32) + ((4514 : Int32) * nI k) = nI (29505 + 4514 * k) := by
  show nI 29505 + nI 4514 * nI k = _
  rw [pk_mul, nI_add]
theorem sim_image : Sim_image Rel := by
  intro x y p0 h
  have h' := h
  obtain ⟨⟨N, R, C, B, w, f, nb, hm, hwr⟩, hwhy, htap, hflt, hpst, himg⟩ := h'
  unfold fX10_image fX11_image
  rcases inN p0 (n := 2) (by decide) with ⟨q1, q2⟩ | ⟨k, q1, q2, q3⟩
  · have q1 : bi (fX11_isIn p0 (0 : Int32) (2 : Int32)) = 0 := q1
    rw [if_pos q1]
    rcases q2 with q2 | ⟨q2, q3⟩
    · rw [if_pos q2]; exact ⟨_, _, rfl, rfl, rfl, h⟩
    · rw [if_neg q2, if_neg (fun z : p0 < (3 : Int32) => by
        obtain ⟨j, hj, rfl⟩ := nI_of q2
        have a1 := (nI_ltI (b := 3) hj (by decide)).mp z
        have a2 := (nI_ltI (a := 2) (by decide) hj).mp q3
        omega)]
      exact ⟨_, _, rfl, rfl, rfl, h⟩
  · have q3 : ¬ bi (fX11_isIn p0 (0 : Int32) (2 : Int32)) = 0 := q3
    subst q2
    rw [if_neg q3, if_neg (nI_pos (by omega)), if_pos (show nI k < (3 : Int32) from nI_lt (b := 3) (by omega) (by decide)), gdN (show k < 3 by omega) (by decide), nI_clamp (show k < 2 ^ 31 by omega)]
    have htap' := htap
    obtain ⟨n, t1, t2, t3, t4, t5⟩ := htap'
    obtain ⟨d2, xr, d3, d4, d5, d6⟩ : ∃ d2 : SV, (bn (match x.2.2 k with | some d => some d | none => fX6_init) fun d => bn (fX6_copyFrom d.1 d.2.1 d.2.2.1 d.2.2.2.1 d.2.2.2.2.1 d.2.2.2.2.2.1 d.2.2.2.2.2.2.1 d.2.2.2.2.2.2.2.1 d.2.2.2.2.2.2.2.2.1 d.2.2.2.2.2.2.2.2.2 (x.1 0) (x.1 1) (x.1 2) (x.1 3) (x.1 4) (x.1 5) (x.1 6) (x.1 7) (x.1 8) (x.1 9)) fun d2 => some (true, va_up x.2.2 k (some d2))) = some (true, va_up x.2.2 k (some d2)) ∧ (d2.1 2 = x.1 0 2 ∧ d2.1 3 = x.1 0 3 ∧ d2.1 4 = x.1 0 4 ∧ d2.1 5 = x.1 0 5 ∧ d2.1 6 = x.1 0 6) ∧ mvQ (x.1 1, x.1 2, x.1 3, x.1 4, x.1 5, x.1 6, x.1 7) (mvS d2) ∧ d2.2.2.2.2.2.2.2.2.1 1 = x.1 8 1 ∧ ∀ i, i < 300 → d2.2.2.2.2.2.2.2.2.2 i = x.1 9 i := by
      cases hiv : x.2.2 k with
      | some d =>
        obtain ⟨d2, c1, c2, c3, c4, c5⟩ := x_copy6 d (x.1 0, x.1 1, x.1 2, x.1 3, x.1 4, x.1 5, x.1 6, x.1 7, x.1 8, x.1 9) t4
        have c1 : fX6_copyFrom d.1 d.2.1 d.2.2.1 d.2.2.2.1 d.2.2.2.2.1 d.2.2.2.2.2.1 d.2.2.2.2.2.2.1 d.2.2.2.2.2.2.2.1 d.2.2.2.2.2.2.2.2.1 d.2.2.2.2.2.2.2.2.2 (x.1 0) (x.1 1) (x.1 2) (x.1 3) (x.1 4) (x.1 5) (x.1 6) (x.1 7) (x.1 8) (x.1 9) = some d2 := c1
        refine ⟨d2, ?_, c2, c3, c4, c5⟩
        show bn (some d) _ = _
        rw [bnS, c1, bnS]
      | none =>
        obtain ⟨d, hd⟩ := x_init6
        obtain ⟨d2, c1, c2, c3, c4, c5⟩ := x_copy6 d (x.1 0, x.1 1, x.1 2, x.1 3, x.1 4, x.1 5, x.1 6, x.1 7, x.1 8, x.1 9) t4
        have c1 : fX6_copyFrom d.1 d.2.1 d.2.2.1 d.2.2.2.1 d.2.2.2.2.1 d.2.2.2.2.2.1 d.2.2.2.2.2.2.1 d.2.2.2.2.2.2.2.1 d.2.2.2.2.2.2.2.2.1 d.2.2.2.2.2.2.2.2.2 (x.1 0) (x.1 1) (x.1 2) (x.1 3) (x.1 4) (x.1 5) (x.1 6) (x.1 7) (x.1 8) (x.1 9) = some d2 := c1
        refine ⟨d2, ?_, c2, c3, c4, c5⟩
        show bn fX6_init _ = _
        rw [hd, bnS, c1, bnS]
    obtain ⟨a1, u1, u2⟩ := y_copies (y.1 1) (s := 0) (d := 29505 + 4514 * k) (n := 4211) (by decide) (by omega) (.inr (by omega))
    have u1 : fX11_copies (y.1 1) (0 : Int32) (nI (29505 + 4514 * k)) (4211 : Int32) = some a1 := u1
    obtain ⟨a2, v1, v2⟩ := y_tape_out (b := 29505 + 4514 * k) (by omega) (y.1 2) a1
    rw [ib, u1, bnS, v1, bnS, show nI (29505 + 4514 * k) + (4211 : Int32) = nI (29505 + 4514 * k + 4211) from nI_add _ 4211, show nI (29505 + 4514 * k + 4211) + (300 : Int32) = nI (29505 + 4514 * k + 4211 + 300) from nI_add _ 300, show nI (29505 + 4514 * k + 4211 + 300) + (1 : Int32) = nI (29505 + 4514 * k + 4211 + 300 + 1) from nI_add _ 1, show nI (29505 + 4514 * k + 4211 + 300) + (2 : Int32) = nI (29505 + 4514 * k + 4211 + 300 + 2) from nI_add _ 2, gdN (show 29505 + 4514 * k + 4211 + 300 < 43047 by omega) (by decide), gdN (show 29505 + 4514 * k + 4211 + 300 + 1 < 43047 by omega) (by decide), gdN (show 29505 + 4514 * k + 4211 + 300 + 2 < 43047 by omega) (by decide), gdN (show k < 3 by omega) (by decide), nI_clamp (show 29505 + 4514 * k + 4211 + 300 < 2 ^ 31 by omega), nI_clamp (show 29505 + 4514 * k + 4211 + 300 + 1 < 2 ^ 31 by omega), nI_clamp (show 29505 + 4514 * k + 4211 + 300 + 2 < 2 ^ 31 by omega)]
    refine ⟨_, _, xr, rfl, rfl, ?_⟩
    generalize hA : upd (upd (upd a2 (29505 + 4514 * k + 4211 + 300) (y.1 0 3)) (29505 + 4514 * k + 4211 + 300 + 1) (y.1 0 4)) (29505 + 4514 * k + 4211 + 300 + 2) (y.1 0 5) = A
    have A0 : ∀ j, (j < 29505 + 4514 * k ∨ 29505 + 4514 * k + 4514 ≤ j) → A j = y.1 1 j := fun j hj => by rw [← hA, ux_ne (by omega), ux_ne (by omega), ux_ne (by omega), v2, if_neg (by omega), u2, if_neg (by omega)]
    have A1 : ∀ j, j < 4211 → A (29505 + 4514 * k + j) = y.1 1 (0 + j) := fun j hj => by rw [← hA, ux_ne (by omega), ux_ne (by omega), ux_ne (by omega), v2, if_neg (by omega), u2, if_pos (by omega), show 0 + (29505 + 4514 * k + j - (29505 + 4514 * k)) = 0 + j from by omega]
    have A2 : ∀ j, j < 300 → A (29505 + 4514 * k + 4211 + j) = y.1 2 j := fun j hj => by rw [← hA, ux_ne (by omega), ux_ne (by omega), ux_ne (by omega), v2, if_pos (by omega), show 29505 + 4514 * k + 4211 + j - (29505 + 4514 * k + 4211) = j from by omega]
    have A3 : A (29505 + 4514 * k + 4211 + 300) = y.1 0 3 := by rw [← hA, ux_ne (by omega), ux_ne (by omega), ux_at]
    have A4 : A (29505 + 4514 * k + 4211 + 300 + 1) = y.1 0 4 := by rw [← hA, ux_ne (by omega), ux_at]
    have A5 : A (29505 + 4514 * k + 4211 + 300 + 2) = y.1 0 5 := by rw [← hA, ux_at]
    show RelC (x.1 0) (x.1 1, x.1 2, x.1 3, x.1 4, x.1 5, x.1 6, x.1 7) (x.1 8) (x.1 9) (x.1 10) (x.1 11) (x.1 12) (x.1 13) (x.1 14) x.2.1 (va_up x.2.2 k (some d2)) (y.1 0) A (y.1 2) (upd (y.1 3) k (vp_nar .boolean (1 : Int32)))
    refine ⟨⟨N, R, C, B, w, f, nb, memR_cong (mvQ_rf _) (by decide) (fun j hj => A0 (0 + j) (by omega)) hm, hwr⟩, ?_, htap, hflt, pstR_cong (fun j j1 j2 => A0 j (by omega)) hpst, fun i hi => ?_⟩
    · exact ⟨hwhy.1.trans (A0 _ (by omega)).symm, hwhy.2.1.trans (A0 _ (by omega)).symm, hwhy.2.2.trans (A0 _ (by omega)).symm⟩
    · by_cases ei : i = k
      · subst ei
        right
        refine ⟨d2, if_pos rfl, ux_at _ _ _, ⟨N, R, C, B, w, f, nb, memR_cong d4 (by omega) (fun j hj => A1 j (by omega)) hm⟩, ?_, ?_, ?_, ?_⟩
        · exact ⟨d3.2.2.1.trans (hwhy.1.trans (A1 4208 (by decide)).symm), d3.2.2.2.1.trans (hwhy.2.1.trans (A1 4209 (by decide)).symm), d3.2.2.2.2.trans (hwhy.2.2.trans (A1 4210 (by decide)).symm)⟩
        · exact tapR_cong (fun j hj => A2 j hj) A3 (tapR_x d5 d6 htap)
        · exact d3.1.trans (hflt.1.trans A4.symm)
        · exact d3.2.1.trans (hflt.2.trans A5.symm)
      · have e1 : va_up x.2.2 k (some d2) i = x.2.2 i := if_neg ei
        have e2 : upd (y.1 3) k (vp_nar .boolean (1 : Int32)) i = y.1 3 i := ux_ne ei
        rw [e1, e2]
        rcases himg i hi with q | ⟨sv, s1, s2, s3, s4, s5, s6, s7⟩
        · exact .inl q
        · have A0' : ∀ j, j < 4514 → A (29505 + 4514 * i + j) = y.1 1 (29505 + 4514 * i + j) := fun j hj => A0 _ (by omega)
          refine .inr ⟨sv, s1, s2, memE_cong (mvQ_rf _) (by omega) (fun j hj => A0' j (by omega)) s3, ?_, ?_, ?_, ?_⟩
          · exact ⟨s4.1.trans (A0 _ (by omega)).symm, s4.2.1.trans (A0 _ (by omega)).symm, s4.2.2.trans (A0 _ (by omega)).symm⟩
          · exact tapR_cong (fun j hj => A0 _ (by omega)) (A0 _ (by omega)) s5
          · exact s6.trans (A0 _ (by omega)).symm
          · exact s7.trans (A0 _ (by omega)).symm
theorem sim_again : Sim_again Rel := by
  intro x y p0 h
  have h' := h
  obtain ⟨⟨N, R, C, B, w, f, nb, hm, hwr⟩, hwhy, htap, hflt, hpst, himg⟩ := h'
  unfold fX10_again fX11_again
  rcases inN p0 (n := 2) (by decide) with ⟨q1, q2⟩ | ⟨k, q1, q2, q3⟩
  · have q1 : bi (fX11_isIn p0 (0 : Int32) (2 : Int32)) = 0 := q1
    rw [if_pos q1]
    rcases q2 with q2 | ⟨q2, q3⟩
    · rw [if_pos q2]; exact ⟨_, _, rfl, rfl, rfl, h⟩
    · rw [if_neg q2, if_pos (show (3 : Int32) ≤ p0 by
        obtain ⟨j, hj, rfl⟩ := nI_of q2
        have a2 := (nI_ltI (a := 2) (by decide) hj).mp q3
        exact nI_le (a := 3) (by omega) hj)]
      exact ⟨_, _, rfl, rfl, rfl, h⟩
  · have q3 : ¬ bi (fX11_isIn p0 (0 : Int32) (2 : Int32)) = 0 := q3
    subst q2
    rw [if_neg q3, if_neg (nI_pos (by omega)), if_neg (show ¬ (3 : Int32) ≤ nI k from nI_ge (b := 3) (by omega) (by decide)), gdN (show k < 3 by omega) (by decide), gdN (show k < 3 by omega) (by decide), nI_clamp (show k < 2 ^ 31 by omega)]
    rcases himg k (by omega) with ⟨i1, i2⟩ | ⟨sv, s1, s2, s3, s4, s5, s6, s7⟩
    · have i2 : y.1 3 k = 0 := i2
      rw [i1, i2, if_pos rfl]
      exact ⟨_, _, rfl, rfl, rfl, h⟩
    · have s2 : y.1 3 k = 1 := s2
      rw [s1, s2, if_neg (show ¬ (1 : Int32) = 0 from by decide), ib]
      have s5' := s5
      obtain ⟨n, t1, t2, t3, t4, t5⟩ := s5'
      obtain ⟨d2, c1, c2, c3, c4, c5⟩ := x_copy6 (x.1 0, x.1 1, x.1 2, x.1 3, x.1 4, x.1 5, x.1 6, x.1 7, x.1 8, x.1 9) sv t4
      have c1 : fX6_copyFrom (x.1 0) (x.1 1) (x.1 2) (x.1 3) (x.1 4) (x.1 5) (x.1 6) (x.1 7) (x.1 8) (x.1 9) sv.1 sv.2.1 sv.2.2.1 sv.2.2.2.1 sv.2.2.2.2.1 sv.2.2.2.2.2.1 sv.2.2.2.2.2.2.1 sv.2.2.2.2.2.2.2.1 sv.2.2.2.2.2.2.2.2.1 sv.2.2.2.2.2.2.2.2.2 = some d2 := c1
      obtain ⟨a1, u1, u2⟩ := y_copies (y.1 1) (s := 29505 + 4514 * k) (d := 0) (n := 4211) (by omega) (by decide) (.inl (by omega))
      have u1 : fX11_copies (y.1 1) (nI (29505 + 4514 * k)) (0 : Int32) (4211 : Int32) = some a1 := u1
      obtain ⟨yt2, v1, v2⟩ := y_tape_in (b := 29505 + 4514 * k) (by omega) (y.1 2) a1
      obtain ⟨N2, R2, C2, B2, w2, f2, nb2, hm2⟩ := s3
      have hm3 : memR (mvS d2) a1 0 N2 R2 C2 B2 w2 f2 nb2 := memR_cong c3 (by decide) (fun j hj => by rw [u2, if_pos (by omega), show 29505 + 4514 * k + (0 + j - 0) = 29505 + 4514 * k + j from by omega]) hm2
      obtain ⟨st2, sr2, srr2, src2, scd2, slf2, sfI2, sfz2, so1, so2⟩ := x_settle hm3.1 hm3.2.1.1 hm3.2.1.2 (x.1 11) (x.1 12) (x.1 13) (x.1 14) (x.1 15) (x.1 16) (x.1 17) (x.1 18)
      have so1 : fX10_settle d2.2.1 d2.2.2.1 d2.2.2.2.1 d2.2.2.2.2.1 (x.1 11) (x.1 12) (x.1 13) (x.1 14) (x.1 15) (x.1 16) (x.1 17) (x.1 18) = some (st2, sr2, srr2, src2, scd2, slf2, sfI2, sfz2) := so1
      have ef : fX1_forget (x.1 10) = some (upd (x.1 10) 2 (0 : Int32)) := rfl
      have a1k : ∀ j, 4211 ≤ j → a1 j = y.1 1 j := fun j hj => by rw [u2, if_neg (by omega)]
      dsimp only
      rw [c1, bnS, ef, bnS, so1, bnS, u1, bnS, v1, bnS, show nI (29505 + 4514 * k) + (4211 : Int32) = nI (29505 + 4514 * k + 4211) from nI_add _ 4211, show nI (29505 + 4514 * k + 4211) + (300 : Int32) = nI (29505 + 4514 * k + 4211 + 300) from nI_add _ 300, show nI (29505 + 4514 * k + 4211 + 300) + (1 : Int32) = nI (29505 + 4514 * k + 4211 + 300 + 1) from nI_add _ 1, show nI (29505 + 4514 * k + 4211 + 300) + (2 : Int32) = nI (29505 + 4514 * k + 4211 + 300 + 2) from nI_add _ 2, gdN (show 29505 + 4514 * k + 4211 + 300 < 43047 by omega) (by decide), gdN (show 29505 + 4514 * k + 4211 + 300 + 1 < 43047 by omega) (by decide), gdN (show 29505 + 4514 * k + 4211 + 300 + 2 < 43047 by omega) (by decide), nI_clamp (show 29505 + 4514 * k + 4211 + 300 < 2 ^ 31 by omega), nI_clamp (show 29505 + 4514 * k + 4211 + 300 + 1 < 2 ^ 31 by omega), nI_clamp (show 29505 + 4514 * k + 4211 + 300 + 2 < 2 ^ 31 by omega)]
      refine ⟨_, _, rfl, rfl, rfl, ⟨N2, R2, C2, B2, w2, f2, nb2, hm3, so2⟩, ?_, ?_, ?_, ?_, ?_⟩
      · have z : ∀ j, j < 4211 → a1 j = y.1 1 (29505 + 4514 * k + j) := fun j hj => by rw [u2, if_pos (by omega), show 29505 + 4514 * k + (j - 0) = 29505 + 4514 * k + j from by omega]
        exact ⟨c2.2.2.1.trans (s4.1.trans (z 4208 (by decide)).symm), c2.2.2.2.1.trans (s4.2.1.trans (z 4209 (by decide)).symm), c2.2.2.2.2.trans (s4.2.2.trans (z 4210 (by decide)).symm)⟩
      · exact tapR_cong (fun j hj => (v2 j hj).trans (a1k _ (by omega))) (a1k _ (by omega)) (tapR_x c4 c5 s5)
      · exact ⟨c2.1.trans (s6.trans (a1k _ (by omega)).symm), c2.2.1.trans (s7.trans (a1k _ (by omega)).symm)⟩
      · obtain ⟨kk, nx, k1, k2, k3, k4, k5, k6⟩ := hpst
        exact ⟨0, nx, by decide, k2, rfl, k4, rfl, fun i hi => absurd hi (Nat.not_lt_zero i)⟩
      · exact imgR_cong (fun j hj => a1k j (by omega)) himg
