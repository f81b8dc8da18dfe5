/-! ===== acts: bad, heal, undo ===== -/
theorem Rel_why {x : XS} {y : YS} (h : Rel x y) : ∀ (z0 : Nat → Int32) (a b c : Int32), z0 2 = x.1 0 2 → z0 3 = x.1 0 3 → z0 4 = a → z0 5 = b → z0 6 = c → RelC z0 (x.1 1, x.1 2, x.1 3, x.1 4, x.1 5, x.1 6, x.1 7) (x.1 8) (x.1 9) (x.1 10) (x.1 11) (x.1 12) (x.1 13) (x.1 14) x.2.1 x.2.2 (y.1 0) (upd (upd (upd (y.1 1) 4208 a) 4209 b) 4210 c) (y.1 2) (y.1 3) := fun _ _ _ _ e2 e3 e4 e5 e6 => RelC_why e2 e3 e4 e5 e6 h
theorem cellC (p0 p1 : Int32) : (bi (fX10_canBeCell p0 p1) = 0 ∧ bi (fX11_canBad p0 p1) = 0) ∨ ∃ r c, r < 512 ∧ c < 256 ∧ p0 = nI r ∧ p1 = nI c ∧ ¬ bi (fX10_canBeCell p0 p1) = 0 ∧ ¬ bi (fX11_canBad p0 p1) = 0 := by
  unfold fX10_canBeCell fX11_canBad
  rcases inN p0 (n := 511) (by decide) with ⟨q1, q2⟩ | ⟨r, q1, q2, q3⟩
  · have q1 : bi (fX11_isIn p0 (0 : Int32) (511 : Int32)) = 0 := q1
    refine .inl ⟨?_, by rw [if_pos q1]; rfl⟩
    rcases q2 with q2 | ⟨q2, q3⟩
    · rw [if_pos q2]; rfl
    · obtain ⟨j, hj, rfl⟩ := nI_of q2
      have := (nI_ltI (a := 511) (by decide) hj).mp q3
      rw [if_neg q2, if_pos (show (512 : Int32) ≤ nI j from nI_le (a := 512) (by omega) hj)]; rfl
  · have q3 : ¬ bi (fX11_isIn p0 (0 : Int32) (511 : Int32)) = 0 := q3
    rw [if_neg q3, q2, if_neg (nI_pos (by omega)), if_neg (show ¬ (512 : Int32) ≤ nI r from nI_ge (b := 512) (by omega) (by decide))]
    rcases inN p1 (n := 255) (by decide) with ⟨s1, s2⟩ | ⟨c, s1, s2, s3⟩
    · have s1 : bi (fX11_isIn p1 (0 : Int32) (255 : Int32)) = 0 := s1
      refine .inl ⟨?_, by rw [if_pos s1]; rfl⟩
      rcases s2 with s2 | ⟨s2, s3⟩
      · rw [if_pos s2]; rfl
      · obtain ⟨j, hj, rfl⟩ := nI_of s2
        have := (nI_ltI (a := 255) (by decide) hj).mp s3
        rw [if_neg s2, if_pos (show (256 : Int32) ≤ nI j from nI_le (a := 256) (by omega) hj)]; rfl
    · have s3 : ¬ bi (fX11_isIn p1 (0 : Int32) (255 : Int32)) = 0 := s3
      refine .inr ⟨r, c, by omega, by omega, rfl, s2, ?_, ?_⟩
      · rw [s2, if_neg (nI_pos (by omega)), if_neg (show ¬ (256 : Int32) ≤ nI c from nI_ge (b := 256) (by omega) (by decide))]; decide
      · rw [if_neg s3]; decide
/-- the first BAD cell there -/
def isF (R C : Nat → Nat) (nb r c : Nat) (v : Int32) : Prop := (v = (-1 : Int32) ∧ ∀ k, k < nb → ¬ (R k = r ∧ C k = c)) ∨ ∃ k, k < nb ∧ v = nI k ∧ R k = r ∧ C k = c ∧ ∀ j, j < k → ¬ (R j = r ∧ C j = c)
theorem isF_one {R C : Nat → Nat} {nb r c : Nat} {v v2 : Int32} (h : isF R C nb r c v) (h2 : isF R C nb r c v2) : v = v2 := by
  rcases h with ⟨a, b⟩ | ⟨k, k1, k2, k3, k4, k5⟩
  · rcases h2 with ⟨a2, b2⟩ | ⟨j, j1, j2, j3, j4, j5⟩
    · rw [a, a2]
    · exact absurd ⟨j3, j4⟩ (b j j1)
  · rcases h2 with ⟨a2, b2⟩ | ⟨j, j1, j2, j3, j4, j5⟩
    · exact absurd ⟨k3, k4⟩ (b2 k k1)
    · have : k = j := by
        rcases Nat.lt_trichotomy k j with z | z | z
        · exact absurd ⟨k3, k4⟩ (j5 k z)
        · exact z
        · exact absurd ⟨j3, j4⟩ (k5 j z)
      rw [k2, j2, this]
theorem x_isF {R C B : Nat → Nat} {nb : Nat} {sI br bc bb : Nat → Int32} (hb : okBd nb R C B) (hx : xBd sI br bc bb nb R C B) {r c : Nat} (hr : r < 2 ^ 31) (hc : c < 2 ^ 31) : ∃ v, fX5_find sI br bc (nI r) (nI c) = some v ∧ isF R C nb r c v := by
  obtain ⟨v, q1, q2, q3⟩ := fnd_stk hb hx hr hc
  refine ⟨v, q1, ?_⟩
  rcases q3 with q3 | q3
  · exact .inl ⟨q2.mpr q3, q3⟩
  · exact .inr q3
theorem y_isF {R C B : Nat → Nat} {nb b : Nat} {al : Nat → Int32} (hb : okBd nb R C B) (hb2 : b + 46 ≤ 43047) (hy : yBd al b nb R C B) {r c : Nat} (hr : r < 2 ^ 31) (hc : c < 2 ^ 31) : ∃ v, fX11_badBy al (nI b) (nI r) (nI c) = some v ∧ isF R C nb r c v := by
  have hb1 := hb.1
  unfold fX11_badBy
  have loop : ∀ (d F k : Nat), k + d = nb → d < F → (∀ j, j < k → ¬ (R j = r ∧ C j = c)) → (fX11_badBy_l3 (nI b) (nI r) (nI c) al F (nI k) = some (.inl ()) ∧ ∀ j, j < nb → ¬ (R j = r ∧ C j = c)) ∨ ∃ t, t < nb ∧ R t = r ∧ C t = c ∧ (∀ j, j < t → ¬ (R j = r ∧ C j = c)) ∧ fX11_badBy_l3 (nI b) (nI r) (nI c) al F (nI k) = some (.inr (nI t)) := by
    intro d
    induction d with
    | zero =>
      intro F k e1 e2 hk
      obtain ⟨F, rfl⟩ : ∃ G, F = G + 1 := ⟨F - 1, by omega⟩
      rw [fX11_badBy_l3, show nI b + (9 : Int32) = nI (b + 9) from nI_add b 9, gdN (by omega) (by decide), nI_clamp (by omega), hy.1, if_pos (nI_le (by omega) (by omega))]
      exact .inl ⟨rfl, fun j hj => hk j (by omega)⟩
    | succ d ih =>
      intro F k e1 e2 hk
      obtain ⟨F, rfl⟩ : ∃ G, F = G + 1 := ⟨F - 1, by omega⟩
      have w1 := hb.2 k (by omega)
      have w2 := hy.2 k (by omega)
      rw [fX11_badBy_l3, show nI b + (9 : Int32) = nI (b + 9) from nI_add b 9, gdN (by omega) (by decide), nI_clamp (show b + 9 < 2 ^ 31 by omega), hy.1, if_neg (nI_ge (by omega) (by omega)), badOfN, show nI (b + 10 + 3 * k) + (1 : Int32) = nI (b + 10 + 3 * k + 1) from nI_1 _, gdN (by omega) (by decide), nI_clamp (by omega), nI_clamp (by omega), w2.1, w2.2.1, show nI k + (1 : Int32) = nI (k + 1) from nI_1 k]
      have nx : ¬ (R k = r ∧ C k = c) → ∀ j, j < k + 1 → ¬ (R j = r ∧ C j = c) := by
        intro z j hj
        by_cases e : j = k
        · rw [e]; exact z
        · exact hk j (by omega)
      by_cases c1 : R k = r
      · rw [if_pos (by rw [c1]), gdN (by omega) (by decide)]
        by_cases c2 : C k = c
        · rw [if_pos (by rw [c2])]
          exact .inr ⟨k, by omega, c1, c2, hk, rfl⟩
        · rw [if_neg (fun z => c2 ((nI_eq (by omega) hc).mp z))]
          exact ih F (k + 1) (by omega) (by omega) (nx (fun z => c2 z.2))
      · rw [if_neg (fun z => c1 ((nI_eq (by omega) hr).mp z))]
        exact ih F (k + 1) (by omega) (by omega) (nx (fun z => c1 z.1))
  rcases loop nb FU 0 (by omega) (by show _ < 4294967296; omega) (fun j hj => absurd hj (Nat.not_lt_zero j)) with ⟨q1, q2⟩ | ⟨t, q1, q2, q3, q4, q5⟩
  · have q1 : fX11_badBy_l3 (nI b) (nI r) (nI c) al FU (0 : Int32) = some (.inl ()) := q1
    rw [q1, bnS]
    exact ⟨_, rfl, .inl ⟨rfl, q2⟩⟩
  · have q5 : fX11_badBy_l3 (nI b) (nI r) (nI c) al FU (0 : Int32) = some (.inr (nI t)) := q5
    rw [q5, bnS]
    exact ⟨_, rfl, .inr ⟨t, q1, rfl, q2, q3, q4⟩⟩
theorem y_comes {al : Nat → Int32} {b nb : Nat} (h9 : al (b + 9) = nI nb) (hnb : nb < 12) (hb : b + 46 ≤ 43047) (p1 p2 p3 : Int32) : fX11_comes al (nI b) p1 p2 p3 = some (upd (upd (upd (upd al (b + 10 + 3 * nb) p1) (b + 10 + 3 * nb + 1) p2) (b + 10 + 3 * nb + 2) p3) (b + 9) (nI (nb + 1))) := by
  unfold fX11_comes
  rw [show nI b + (9 : Int32) = nI (b + 9) from nI_add b 9, nI_clamp (show b + 9 < 2 ^ 31 by omega), h9, badOfN, show nI (b + 10 + 3 * nb) + (1 : Int32) = nI (b + 10 + 3 * nb + 1) from nI_1 _, show nI (b + 10 + 3 * nb) + (2 : Int32) = nI (b + 10 + 3 * nb + 2) from nI_add _ 2, gdN (by omega) (by decide), gdN (by omega) (by decide), gdN (by omega) (by decide), gdN (by omega) (by decide), gdN (by omega) (by decide), gdN (by omega) (by decide), nI_clamp (show b + 10 + 3 * nb < 2 ^ 31 by omega), nI_clamp (show b + 10 + 3 * nb + 1 < 2 ^ 31 by omega), nI_clamp (show b + 10 + 3 * nb + 2 < 2 ^ 31 by omega), ux_ne (show b + 9 ≠ b + 10 + 3 * nb + 2 by omega), ux_ne (show b + 9 ≠ b + 10 + 3 * nb + 1 by omega), ux_ne (show b + 9 ≠ b + 10 + 3 * nb by omega), h9, show nI nb + (1 : Int32) = nI (nb + 1) from nI_1 nb]
/-- one more BAD cell -/
theorem yBd_add {al : Nat → Int32} {b nb r c v : Nat} {R C B : Nat → Nat} (hy : yBd al b nb R C B) : yBd (upd (upd (upd (upd al (b + 10 + 3 * nb) (nI r)) (b + 10 + 3 * nb + 1) (nI c)) (b + 10 + 3 * nb + 2) (nI v)) (b + 9) (nI (nb + 1))) b (nb + 1) (upN1 R nb r) (upN1 C nb c) (upN1 B nb v) := by
  refine ⟨ux_at _ _ _, fun k hk => ?_⟩
  unfold upN1
  by_cases e : k = nb
  · subst e
    rw [if_pos rfl, if_pos rfl, if_pos rfl]
    refine ⟨?_, ?_, ?_⟩
    · rw [ux_ne (by omega), ux_ne (by omega), ux_ne (by omega), ux_at]
    · rw [ux_ne (by omega), ux_ne (by omega), ux_at]
    · rw [ux_ne (by omega), ux_at]
  · rw [if_neg e, if_neg e, if_neg e]
    have q := hy.2 k (by omega)
    refine ⟨?_, ?_, ?_⟩
    · rw [ux_ne (by omega), ux_ne (by omega), ux_ne (by omega), ux_ne (by omega)]; exact q.1
    · rw [ux_ne (by omega), ux_ne (by omega), ux_ne (by omega), ux_ne (by omega)]; exact q.2.1
    · rw [ux_ne (by omega), ux_ne (by omega), ux_ne (by omega), ux_ne (by omega)]; exact q.2.2
theorem xBd_add {sI br bc bb : Nat → Int32} {nb r c v : Nat} {R C B : Nat → Nat} (hx : xBd sI br bc bb nb R C B) : xBd (upd sI 4 (nI (nb + 1))) (upd br nb (nI r)) (upd bc nb (nI c)) (upd bb nb (nI v)) (nb + 1) (upN1 R nb r) (upN1 C nb c) (upN1 B nb v) := by
  refine ⟨ux_at _ _ _, fun k hk => ?_⟩
  unfold upN1
  by_cases e : k = nb
  · subst e
    rw [if_pos rfl, if_pos rfl, if_pos rfl, ux_at, ux_at, ux_at]
    exact ⟨rfl, rfl, rfl⟩
  · rw [if_neg e, if_neg e, if_neg e, ux_ne e, ux_ne e, ux_ne e]
    exact hx.2 k (by omega)
theorem x_add {sI br bc bb : Nat → Int32} {nb : Nat} (h4 : sI 4 = nI nb) (hnb : nb < 12) (p0 p1 p2 : Int32) : fX5_add sI br bc bb p0 p1 p2 = some (upd sI 4 (nI (nb + 1)), upd br nb p0, upd bc nb p1, upd bb nb p2) := by
  unfold fX5_add
  rw [h4, if_neg (show ¬ (12 : Int32) ≤ nI nb from nI_ge (b := 12) hnb (by decide)), gdN hnb (by decide), gdN hnb (by decide), gdN hnb (by decide), nI_clamp (by omega), show nI nb + (1 : Int32) = nI (nb + 1) from nI_1 nb]
theorem okBd_add {nb r c v : Nat} {R C B : Nat → Nat} (hb : okBd nb R C B) (hnb : nb < 12) (hr : r < 512) (hc : c < 256) (hv : v ≤ 1) : okBd (nb + 1) (upN1 R nb r) (upN1 C nb c) (upN1 B nb v) := by
  refine ⟨by omega, fun k hk => ?_⟩
  unfold upN1
  by_cases e : k = nb
  · rw [if_pos e, if_pos e, if_pos e]; exact ⟨hr, hc, hv⟩
  · rw [if_neg e, if_neg e, if_neg e]; exact hb.2 k (by omega)
theorem celR_al {wd sp al al2 : Nat → Int32} {N : Nat → Nat} {w f : Nat} (ok : okN N w) (hf : okM w f) (h : ∀ k, 46 ≤ k → k < 4208 → al2 k = al k) (hc : celR wd sp al 0 N w f) : celR wd sp al2 0 N w f := by
  refine celR_cong ok hf (fun _ _ => rfl) (fun _ _ => rfl) (fun q hq => ?_) hc
  unfold ybit
  rw [h (0 + 46 + q / 32) (by omega) (by omega)]
theorem sim_bad : Sim_bad Rel := by
  intro x y p0 p1 p2 h
  have h' := h
  obtain ⟨⟨N, R, C, B, w, f, nb, hm, ⟨hW, hG, hbs, hfw⟩⟩, hwhy, htap, hflt, hpst, himg⟩ := h'
  have hm' := hm
  obtain ⟨⟨ok, hM, hmx, hb, hfit, hds⟩, hX, hY, hc⟩ := hm'
  have hp : 2 ^ (w - f) ≤ 512 := Nat.le_trans (Nat.pow_le_pow_right (n := 2) (by decide) hM.2.2) (by decide)
  have hp2 : N 1 * 2 ^ f ≤ 32 * 8 := Nat.mul_le_mul ok.2.2.2.2.1 (p2f hM.1).2
  have hb1 := hb.1
  have s4 : x.1 1 4 = nI nb := hX.2.1
  have xb : xBd (x.1 1) (x.1 3) (x.1 4) (x.1 5) nb R C B := hX.2
  have wy := Rel_why h
  unfold fX10_bad fX11_bad
  rcases cellC p0 p1 with ⟨c1, c2⟩ | ⟨r, c, hr, hcc, rfl, rfl, c1, c2⟩
  · rw [if_pos c1, if_pos c2]
    exact ⟨_, _, rfl, rfl, rfl, wy _ _ _ _ rfl rfl rfl rfl rfl⟩
  rw [if_neg c1, if_neg c2]
  rcases inN p2 (n := 1) (by decide) with ⟨q1, q2⟩ | ⟨v, q1, q2, q3⟩
  · have q1 : bi (fX11_isIn p2 (0 : Int32) (1 : Int32)) = 0 := q1
    rw [if_pos q1]
    rcases q2 with q2 | ⟨q2, q3⟩
    · rw [if_pos q2]
      exact ⟨_, _, rfl, rfl, rfl, wy _ _ _ _ rfl rfl rfl rfl rfl⟩
    · rw [if_neg q2, if_neg (show ¬ p2 ≤ (1 : Int32) from (fa_of_lt q3).2.1)]
      exact ⟨_, _, rfl, rfl, rfl, wy _ _ _ _ rfl rfl rfl rfl rfl⟩
  have q3 : ¬ bi (fX11_isIn p2 (0 : Int32) (1 : Int32)) = 0 := q3
  rw [if_neg q3, q2, if_neg (nI_pos (by omega)), if_pos (show nI v ≤ (1 : Int32) from nI_le (b := 1) q1 (by decide))]
  obtain ⟨v1, u1, u2⟩ := x_isF (r := r) (c := c) hb xb (by omega) (by omega)
  obtain ⟨v2, u3, u4⟩ := y_isF (r := r) (c := c) (b := 0) hb (by decide) hY.2.2 (by omega) (by omega)
  have u3 : fX11_badBy (y.1 1) (0 : Int32) (nI r) (nI c) = some v2 := u3
  have ev := isF_one u2 u4
  subst ev
  rw [u1, bnS, u3, bnS]
  rcases u2 with ⟨n1, n2⟩ | ⟨k, k1, k2, -⟩
  rotate_left
  · rw [k2, if_neg (nI_m1 (by omega)), if_neg (nI_m1 (by omega))]
    exact ⟨_, _, rfl, rfl, rfl, wy _ _ _ _ rfl rfl rfl rfl rfl⟩
  rw [if_pos n1, if_pos n1, s4, al_9 hY]
  by_cases c12 : nb < 12
  rotate_left
  · have e12 : nb = 12 := by omega
    rw [e12, if_neg (show ¬ nI 12 < (12 : Int32) from by decide), if_pos (show nI 12 = (12 : Int32) from rfl)]
    exact ⟨_, _, rfl, rfl, rfl, wy _ _ _ _ rfl rfl rfl rfl rfl⟩
  rw [if_pos (show nI nb < (12 : Int32) from nI_lt (b := 12) c12 (by decide)), if_neg (show ¬ nI nb = (12 : Int32) from fun e => by have := (nI_eq (b := 12) (by omega) (by decide)).mp e; omega)]
  obtain ⟨z, z1⟩ := y_mux hY.2.1 ok (y.1 4)
  have z1 : fX11_mux (y.1 1) (y.1 4) (0 : Int32) = some (mxN N w, z) := z1
  rw [hmx] at z1
  have er : fX11_rows (y.1 1) (0 : Int32) (nI (2 ^ f)) = some (nI (2 ^ (w - f))) := y_rows hY.2.1 ok hM.1
  have ec : fX11_columns (y.1 1) (0 : Int32) (nI (2 ^ f)) = some (nI (N 1 * 2 ^ f)) := y_columns hY.2.1 ok
  have w3 : x.1 11 3 = nI (2 ^ (w - f)) := hW.2.2.1
  have w4 : x.1 11 4 = nI (N 1 * 2 ^ f) := hW.2.2.2
  rw [z1, bnS, er, bnS, ec, bnS, w3, w4]
  by_cases cr : 2 ^ (w - f) ≤ r
  · rw [if_pos (nI_le cr (by omega)), if_pos (nI_le cr (by omega))]
    exact ⟨_, _, rfl, rfl, rfl, wy _ _ _ _ rfl rfl rfl rfl rfl⟩
  rw [if_neg (nI_ge (by omega) (by omega)), if_neg (nI_ge (by omega) (by omega))]
  by_cases cc : c < N 1 * 2 ^ f
  rotate_left
  · rw [if_neg (nI_nlt (by omega) (by omega)), if_neg (nI_nlt (by omega) (by omega))]
    exact ⟨_, _, rfl, rfl, rfl, wy _ _ _ _ rfl rfl rfl rfl rfl⟩
  rw [if_pos (nI_lt cc (by omega)), if_pos (nI_lt cc (by omega))]
  obtain ⟨pI2, rv2, tJ, al2, g1, g2, g3, g4, g5⟩ := pst_push hpst ⟨N, R, C, B, w, f, nb, hm⟩
  have g1 : fX1_remember (x.1 10) x.2.1 (x.1 1) (x.1 2) (x.1 3) (x.1 4) (x.1 5) (x.1 6) (x.1 7) = some (pI2, rv2) := g1
  rw [g1, bnS, x_add s4 c12, bnS, g2, bnS]
  have h9 : al2 (0 + 9) = nI nb := (g5 _ (by omega)).trans hY.2.2.1
  have cm := y_comes (b := 0) h9 c12 (by decide) (nI r) (nI c) (nI v)
  have cm : fX11_comes al2 (0 : Int32) (nI r) (nI c) (nI v) = _ := cm
  have hv : v ≤ 1 := q1
  have hP' : memP N (upN1 R nb r) (upN1 C nb c) (upN1 B nb v) w f (nb + 1) := by
    refine ⟨ok, hM, hmx, okBd_add hb c12 hr hcc hv, fun k hk => ?_, fun i j hij hj => ?_⟩
    · unfold upN1
      by_cases e : k = nb
      · rw [if_pos e, if_pos e]; exact ⟨by omega, cc⟩
      · rw [if_neg e, if_neg e]; exact hfit k (by omega)
    · unfold upN1
      rw [if_neg (show ¬ i = nb by omega), if_neg (show ¬ i = nb by omega)]
      by_cases e : j = nb
      · rw [if_pos e, if_pos e]; exact n2 i (by omega)
      · rw [if_neg e, if_neg e]; exact hds i j hij (by omega)
  obtain ⟨t2, r2, rr2, rc2, cd2, lf2, fI2, fz2, st1, st2⟩ := x_settle hP' (nu := x.1 2) hX.1 (xBd_add xb) (x.1 11) (x.1 12) (x.1 13) (x.1 14) (x.1 15) (x.1 16) (x.1 17) (x.1 18)
  dsimp only
  rw [cm, bnS, st1, bnS]
  have yb : yBd al2 0 nb R C B := (memY_cong hb (by decide) (fun k hk => g5 _ (by omega)) hY).2.2
  have ym : mdl al2 0 N := (memY_cong hb (by decide) (fun k hk => g5 _ (by omega)) hY).2.1
  refine ⟨_, _, rfl, rfl, rfl, ⟨N, upN1 R nb r, upN1 C nb c, upN1 B nb v, w, f, nb + 1, ⟨hP', ⟨hX.1, xBd_add xb⟩, ?_, ?_⟩, st2⟩, ⟨rfl, rfl, rfl⟩, ?_, ?_, ?_, ?_⟩
  · have base : memY (upd (upd (upd (upd al2 (0 + 10 + 3 * nb) (nI r)) (0 + 10 + 3 * nb + 1) (nI c)) (0 + 10 + 3 * nb + 2) (nI v)) (0 + 9) (nI (nb + 1))) 0 N (upN1 R nb r) (upN1 C nb c) (upN1 B nb v) (nb + 1) := by
      refine ⟨by decide, ⟨by decide, fun k hk => ?_⟩, yBd_add yb⟩
      rw [ux_ne (by omega), ux_ne (by omega), ux_ne (by omega), ux_ne (by omega)]; exact ym.2 k hk
    exact memY_cong hP'.2.2.2.1 (by decide) (fun k hk => by
      show upd (upd (upd _ 4208 _) 4209 _) 4210 _ (0 + k) = _
      rw [ux_ne (by omega), ux_ne (by omega), ux_ne (by omega)]) base
  · refine celR_al ok hM (fun k k1 k2 => ?_) hc
    show upd (upd (upd _ 4208 _) 4209 _) 4210 _ k = _
    rw [ux_ne (by omega), ux_ne (by omega), ux_ne (by omega), ux_ne (by omega), ux_ne (by omega), ux_ne (by omega), ux_ne (by omega)]
    exact g5 k (by omega)
  · exact tapR_cong (fun _ _ => rfl) (g4 3 (by decide)) htap
  · exact ⟨hflt.1.trans (g4 4 (by decide)).symm, hflt.2.trans (g4 5 (by decide)).symm⟩
  · refine pstR_cong (fun k k1 k2 => ?_) g3
    show upd (upd (upd _ 4208 _) 4209 _) 4210 _ k = _
    rw [ux_ne (by omega), ux_ne (by omega), ux_ne (by omega), ux_ne (by omega), ux_ne (by omega), ux_ne (by omega), ux_ne (by omega)]
  · refine imgR_cong (fun k k1 => ?_) himg
    show upd (upd (upd _ 4208 _) 4209 _) 4210 _ k = _
    rw [ux_ne (by omega), ux_ne (by omega), ux_ne (by omega), ux_ne (by omega), ux_ne (by omega), ux_ne (by omega), ux_ne (by omega)]
    exact g5 k (by omega)
