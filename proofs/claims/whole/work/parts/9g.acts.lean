/-! ===== heal, undo ===== -/
def dlN1 (R : Nat → Nat) (k : Nat) : Nat → Nat := fun i => if i < k then R i else R (i + 1)
theorem dl_lo {R : Nat → Nat} {k i : Nat} (h : i < k) : dlN1 R k i = R i := if_pos h
theorem dl_hi {R : Nat → Nat} {k i : Nat} (h : ¬ i < k) : dlN1 R k i = R (i + 1) := if_neg h
theorem x_remove {sI br bc bb : Nat → Int32} {nb k : Nat} (h4 : sI 4 = nI nb) (hnb : nb ≤ 12) (hk : k < nb) : ∃ a b c, fX5_remove sI br bc bb (nI k) = some (upd sI 4 (nI (nb - 1)), a, b, c) ∧ ∀ j, (a j = if k ≤ j ∧ j + 1 < nb then br (j + 1) else br j) ∧ (b j = if k ≤ j ∧ j + 1 < nb then bc (j + 1) else bc j) ∧ (c j = if k ≤ j ∧ j + 1 < nb then bb (j + 1) else bb j) := by
  unfold fX5_remove
  have loop : ∀ (d F i : Nat) (a b c : Nat → Int32), i + d + 1 = nb → d < F → k ≤ i → (∀ j, (a j = if k ≤ j ∧ j < i then br (j + 1) else br j) ∧ (b j = if k ≤ j ∧ j < i then bc (j + 1) else bc j) ∧ (c j = if k ≤ j ∧ j < i then bb (j + 1) else bb j)) → ∃ a2 b2 c2, fX5_remove_l2 sI F (nI i) a b c = some (a2, b2, c2) ∧ ∀ j, (a2 j = if k ≤ j ∧ j + 1 < nb then br (j + 1) else br j) ∧ (b2 j = if k ≤ j ∧ j + 1 < nb then bc (j + 1) else bc j) ∧ (c2 j = if k ≤ j ∧ j + 1 < nb then bb (j + 1) else bb j) := by
    intro d
    induction d with
    | zero =>
      intro F i a b c e1 e2 hki h
      obtain ⟨F, rfl⟩ : ∃ G, F = G + 1 := ⟨F - 1, by omega⟩
      rw [fX5_remove_l2, if_neg (nI_pos (by omega)), h4, show nI i + (1 : Int32) = nI (i + 1) from nI_1 i, if_pos (nI_le (by omega) (by omega))]
      refine ⟨a, b, c, rfl, fun j => ?_⟩
      have e : ∀ z : Nat → Int32, (if k ≤ j ∧ j + 1 < nb then z (j + 1) else z j) = (if k ≤ j ∧ j < i then z (j + 1) else z j) := by
        intro z
        by_cases q : k ≤ j ∧ j < i
        · rw [if_pos q, if_pos (by omega)]
        · rw [if_neg q, if_neg (by omega)]
      rw [e, e, e]
      exact h j
    | succ d ih =>
      intro F i a b c e1 e2 hki h
      obtain ⟨F, rfl⟩ : ∃ G, F = G + 1 := ⟨F - 1, by omega⟩
      rw [fX5_remove_l2, if_neg (nI_pos (by omega)), h4, show nI i + (1 : Int32) = nI (i + 1) from nI_1 i, if_neg (nI_ge (by omega) (by omega)), gdN (by omega) (by decide), gdN (by omega) (by decide), gdN (by omega) (by decide), gdN (by omega) (by decide), gdN (by omega) (by decide), gdN (by omega) (by decide), nI_clamp (by omega), nI_clamp (by omega)]
      refine ih F (i + 1) _ _ _ (by omega) (by omega) (by omega) (fun j => ?_)
      have hi := h (i + 1)
      rw [if_neg (by omega), if_neg (by omega), if_neg (by omega)] at hi
      have hj := h j
      by_cases ej : j = i
      · subst ej
        rw [ux_at, ux_at, ux_at, if_pos (by omega), if_pos (by omega), if_pos (by omega)]
        exact hi
      · rw [ux_ne ej, ux_ne ej, ux_ne ej]
        have e : ∀ z : Nat → Int32, (if k ≤ j ∧ j < i + 1 then z (j + 1) else z j) = (if k ≤ j ∧ j < i then z (j + 1) else z j) := by
          intro z
          by_cases q : k ≤ j ∧ j < i
          · rw [if_pos q, if_pos (by omega)]
          · rw [if_neg q, if_neg (by omega)]
        rw [e, e, e]
        exact hj
  obtain ⟨a, b, c, q1, q2⟩ := loop (nb - 1 - k) FU k br bc bb (by omega) (by show _ < 4294967296; omega) (Nat.le_refl _) (fun j => by rw [if_neg (by omega), if_neg (by omega), if_neg (by omega)]; exact ⟨rfl, rfl, rfl⟩)
  have e1 : nI nb - (1 : Int32) = nI (nb - 1) := pk_sub (b := 1) (by omega)
  rw [q1, bnS, h4, e1, if_neg (show ¬ nI (nb - 1) < (0 : Int32) from nI_pos (by omega))]
  exact ⟨a, b, c, rfl, q2⟩
theorem memP_del {N R C B : Nat → Nat} {w f nb k : Nat} (h : memP N R C B w f nb) (hk : k < nb) : memP N (dlN1 R k) (dlN1 C k) (dlN1 B k) w f (nb - 1) := by
  obtain ⟨ok, hM, hmx, hb, hfit, hds⟩ := h
  have ge : ∀ i, i < nb - 1 → ∃ i', i' < nb ∧ (i' = if i < k then i else i + 1) ∧ dlN1 R k i = R i' ∧ dlN1 C k i = C i' ∧ dlN1 B k i = B i' := by
    intro i hi
    by_cases c : i < k
    · exact ⟨i, by omega, (if_pos c).symm, dl_lo c, dl_lo c, dl_lo c⟩
    · exact ⟨i + 1, by omega, (if_neg c).symm, dl_hi c, dl_hi c, dl_hi c⟩
  refine ⟨ok, hM, hmx, ⟨by have := hb.1; omega, fun i hi => ?_⟩, fun i hi => ?_, fun i j hij hj => ?_⟩
  · obtain ⟨i', q1, -, q2, q3, q4⟩ := ge i hi
    rw [q2, q3, q4]; exact hb.2 i' q1
  · obtain ⟨i', q1, -, q2, q3, q4⟩ := ge i hi
    rw [q2, q3]; exact hfit i' q1
  · obtain ⟨i', q1, qq, q2, q3, q4⟩ := ge i (by omega)
    obtain ⟨j', r1, rr, r2, r3, r4⟩ := ge j hj
    rw [q2, q3, r2, r3]
    refine hds i' j' ?_ r1
    rw [qq, rr]
    split <;> split <;> omega
theorem sim_heal : Sim_heal Rel := by
  intro x y p0 p1 h
  have h' := h
  obtain ⟨⟨N, R, C, B, w, f, nb, hm, ⟨hW, hG, hbs, hfw⟩⟩, hwhy, htap, hflt, hpst, himg⟩ := h'
  have hm' := hm
  obtain ⟨⟨ok, hM, hmx, hb, hfit, hds⟩, hX, hY, hc⟩ := hm'
  have hb1 := hb.1
  have s4 : x.1 1 4 = nI nb := hX.2.1
  have xb : xBd (x.1 1) (x.1 3) (x.1 4) (x.1 5) nb R C B := hX.2
  have wy := Rel_why h
  unfold fX10_heal fX11_heal
  rcases cellC p0 p1 with ⟨c1, c2⟩ | ⟨r, c, hr, hcc, rfl, rfl, c1, c2⟩
  · rw [if_pos c1, if_pos c2]
    exact ⟨_, _, rfl, rfl, rfl, wy _ _ _ _ rfl rfl rfl rfl rfl⟩
  rw [if_neg c1, if_neg c2]
  obtain ⟨v1, u1, u2⟩ := x_isF (r := r) (c := c) hb xb (by omega) (by omega)
  obtain ⟨v2, u3, u4⟩ := y_isF (r := r) (c := c) (b := 0) hb (by decide) hY.2.2 (by omega) (by omega)
  have u3 : fX11_badBy (y.1 1) (0 : Int32) (nI r) (nI c) = some v2 := u3
  have ev := isF_one u2 u4
  subst ev
  rw [u1, bnS, u3, bnS]
  rcases u2 with ⟨n1, n2⟩ | ⟨k, k1, k2, -⟩
  · rw [if_pos n1, if_pos n1]
    exact ⟨_, _, rfl, rfl, rfl, wy _ _ _ _ rfl rfl rfl rfl rfl⟩
  subst k2
  rw [if_neg (nI_m1 (by omega)), if_neg (nI_m1 (by omega))]
  obtain ⟨pI2, rv2, tJ, al2, g1, g2, g3, g4, g5⟩ := pst_push hpst ⟨N, R, C, B, w, f, nb, hm⟩
  have g1 : fX1_remember (x.1 10) x.2.1 (x.1 1) (x.1 2) (x.1 3) (x.1 4) (x.1 5) (x.1 6) (x.1 7) = some (pI2, rv2) := g1
  obtain ⟨ra, rb, rc, m1, m2⟩ := x_remove (br := x.1 3) (bc := x.1 4) (bb := x.1 5) s4 hb1 k1
  have h9 : al2 9 = nI nb := (g5 _ (by omega)).trans hY.2.2.1
  have e9 : al2 9 - (1 : Int32) = nI (nb - 1) := by rw [h9]; exact pk_sub (b := 1) (by omega)
  rw [g1, bnS, m1, bnS, g2, bnS, show nI k + (1 : Int32) = nI (k + 1) from nI_1 k, badAtN, badAtN, show (tJ, al2).2 9 - (1 : Int32) = nI (nb - 1) from e9, ux_at, pk_sub (show k ≤ nb - 1 by omega), show (3 : Int32) * nI (nb - 1 - k) = nI (3 * (nb - 1 - k)) from pk_mul 3 _]
  obtain ⟨al3, o1, o2⟩ := y_copies (upd al2 9 (nI (nb - 1))) (s := 0 + 10 + 3 * (k + 1)) (d := 0 + 10 + 3 * k) (n := 3 * (nb - 1 - k)) (by omega) (by omega) (.inl (by omega))
  have o1 : fX11_copies (upd (tJ, al2).2 9 (nI (nb - 1))) (nI (0 + 10 + 3 * (k + 1))) (nI (0 + 10 + 3 * k)) (nI (3 * (nb - 1 - k))) = some al3 := o1
  rw [o1, bnS]
  have hP' := memP_del hm.1 k1
  have xb' : xBd (upd (x.1 1) 4 (nI (nb - 1))) ra rb rc (nb - 1) (dlN1 R k) (dlN1 C k) (dlN1 B k) := by
    refine ⟨ux_at _ _ _, fun t ht => ?_⟩
    obtain ⟨w1, w2, w3⟩ := m2 t
    by_cases q : t < k
    · rw [w1, w2, w3, dl_lo q, dl_lo q, dl_lo q, if_neg (by omega), if_neg (by omega), if_neg (by omega)]; exact xb.2 t (by omega)
    · rw [w1, w2, w3, dl_hi q, dl_hi q, dl_hi q, if_pos (by omega), if_pos (by omega), if_pos (by omega)]; exact xb.2 (t + 1) (by omega)
  obtain ⟨t2, r2, rr2, rc2, cd2, lf2, fI2, fz2, st1, st2⟩ := x_settle hP' (nu := x.1 2) hX.1 xb' (x.1 11) (x.1 12) (x.1 13) (x.1 14) (x.1 15) (x.1 16) (x.1 17) (x.1 18)
  dsimp only
  rw [st1, bnS]
  have al3k : ∀ q, (q < 9 ∨ 46 ≤ q) → al3 q = al2 q := fun q hq => by rw [o2, if_neg (by omega), ux_ne (by omega)]
  have al39 : al3 9 = nI (nb - 1) := by rw [o2, if_neg (by omega), ux_at]
  refine ⟨_, _, rfl, rfl, rfl, ⟨N, dlN1 R k, dlN1 C k, dlN1 B k, w, f, nb - 1, ⟨hP', ⟨hX.1, xb'⟩, ?_, ?_⟩, st2⟩, ⟨rfl, rfl, rfl⟩, ?_, ?_, ?_, ?_⟩
  · have base : memY al3 0 N (dlN1 R k) (dlN1 C k) (dlN1 B k) (nb - 1) := by
      refine ⟨by decide, ⟨by decide, fun q hq => ?_⟩, al39, fun t ht => ?_⟩
      · rw [al3k _ (by omega), g5 _ (by omega)]; exact hY.2.1.2 q hq
      · have z : ∀ e, e < 3 → al3 (0 + 10 + 3 * t + e) = y.1 1 (0 + 10 + 3 * (if t < k then t else t + 1) + e) := by
          intro e he
          by_cases q : t < k
          · rw [o2, if_neg (by omega), ux_ne (by omega), g5 _ (by omega), if_pos q]
          · rw [o2, if_pos (by omega), if_neg q, show 0 + 10 + 3 * (k + 1) + (0 + 10 + 3 * t + e - (0 + 10 + 3 * k)) = 0 + 10 + 3 * (t + 1) + e from by omega, ux_ne (by omega), g5 _ (by omega)]
        have z0 := z 0 (by decide)
        have z1 := z 1 (by decide)
        have z2 := z 2 (by decide)
        rw [Nat.add_zero, Nat.add_zero] at z0
        rw [z0, z1, z2]
        by_cases q : t < k
        · rw [dl_lo q, dl_lo q, dl_lo q, if_pos q]; exact hY.2.2.2 t (by omega)
        · rw [dl_hi q, dl_hi q, dl_hi q, if_neg q]; exact hY.2.2.2 (t + 1) (by omega)
    exact memY_cong hP'.2.2.2.1 (by decide) (fun k hk => by
      show upd (upd (upd _ 4208 _) 4209 _) 4210 _ (0 + k) = _
      rw [ux_ne (by omega), ux_ne (by omega), ux_ne (by omega)]) base
  · refine celR_al ok hM (fun k k1 k2 => ?_) hc
    show upd (upd (upd _ 4208 _) 4209 _) 4210 _ k = _
    rw [ux_ne (by omega), ux_ne (by omega), ux_ne (by omega), al3k k (by omega)]
    exact g5 k (by omega)
  · exact tapR_cong (fun _ _ => rfl) (g4 3 (by decide)) htap
  · exact ⟨hflt.1.trans (g4 4 (by decide)).symm, hflt.2.trans (g4 5 (by decide)).symm⟩
  · refine pstR_cong (fun k k1 k2 => ?_) g3
    show upd (upd (upd _ 4208 _) 4209 _) 4210 _ k = _
    rw [ux_ne (by omega), ux_ne (by omega), ux_ne (by omega), al3k k (by omega)]
  · refine imgR_cong (fun k k1 => ?_) himg
    show upd (upd (upd _ 4208 _) 4209 _) 4210 _ k = _
    rw [ux_ne (by omega), ux_ne (by omega), ux_ne (by omega), al3k k (by omega)]
    exact g5 k (by omega)
theorem sim_undo : Sim_undo Rel := by
  intro x y h
  have h' := h
  obtain ⟨⟨N, R, C, B, w, f, nb, hm, hwr⟩, hwhy, htap, hflt, ⟨k, nx, k1, k2, k3, k4, k5, k6⟩, himg⟩ := h'
  have k3 : x.1 10 2 = nI k := k3
  have k4 : x.1 10 1 = nI nx := k4
  have k5 : y.1 0 6 = nI k := k5
  unfold fX10_undo fX11_undo fX1_restore
  rw [k3, k4, k5]
  by_cases c : k = 0
  · subst c
    rw [if_pos (show nI 0 = 0 from rfl), if_pos (show nI 0 = 0 from rfl), bnS, if_pos (show bi false = 0 from rfl)]
    exact ⟨_, _, rfl, rfl, rfl, h⟩
  · have er : ((nI nx + (6 : Int32)) - (1 : Int32)) - ((nI nx + (6 : Int32)) - (1 : Int32)) / (6 : Int32) * (6 : Int32) = nI ((nx + 5) % 6) := by
      rw [show nI nx + (6 : Int32) = nI (nx + 6) from nI_add nx 6, show nI (nx + 6) - (1 : Int32) = nI (nx + 5) from pk_sub (a := nx + 6) (b := 1) (by omega)]
      exact pk_rem (d := 6) (by omega) (by decide) (by decide)
    obtain ⟨mv, w1, w2⟩ := k6 (k - 1) (by omega)
    rw [show (nx + 6 - k + (k - 1)) % 6 = (nx + 5) % 6 from by omega] at w1
    rw [if_neg (nI_ne0 (by omega) (by omega)), if_neg (nI_ne0 (by omega) (by omega)), er, gdN (Nat.mod_lt _ (by decide)) (by decide), nI_clamp (by omega), w1]
    obtain ⟨m2, c1, c2⟩ := x_copy0 (x.1 1, x.1 2, x.1 3, x.1 4, x.1 5, x.1 6, x.1 7) mv
    have c1 : fX0_copyFrom (x.1 1) (x.1 2) (x.1 3) (x.1 4) (x.1 5) (x.1 6) (x.1 7) mv.1 mv.2.1 mv.2.2.1 mv.2.2.2.1 mv.2.2.2.2.1 mv.2.2.2.2.2.1 mv.2.2.2.2.2.2 = some m2 := c1
    have ek : nI k - (1 : Int32) = nI (k - 1) := pk_sub (b := 1) (by omega)
    have es : (4257 : Int32) + ((4208 : Int32) * nI (k - 1)) = nI (4257 + 4208 * (k - 1)) := by
      show nI 4257 + nI 4208 * nI (k - 1) = _
      rw [pk_mul, nI_add]
    obtain ⟨al2, q1, q2⟩ := y_copies (y.1 1) (s := 4257 + 4208 * (k - 1)) (d := 0) (n := 4208) (by omega) (by decide) (.inl (by omega))
    have q1 : fX11_copies (y.1 1) (nI (4257 + 4208 * (k - 1))) (0 : Int32) (4208 : Int32) = some al2 := q1
    dsimp only
    rw [c1, bnS, bnS, if_neg (show ¬ bi true = 0 from by decide), ek, es, q1, bnS]
    obtain ⟨N2, R2, C2, B2, w2', f2, nb2, hm2⟩ := w2
    have hm3 : memR m2 al2 0 N2 R2 C2 B2 w2' f2 nb2 := memR_cong c2 (by decide) (fun j hj => by rw [q2, if_pos (by omega), show 4257 + 4208 * (k - 1) + (0 + j - 0) = 4257 + 4208 * (k - 1) + j from by omega]) hm2
    obtain ⟨t2, r2, rr2, rc2, cd2, lf2, fI2, fz2, st1, st2⟩ := x_settle hm3.1 hm3.2.1.1 hm3.2.1.2 (x.1 11) (x.1 12) (x.1 13) (x.1 14) (x.1 15) (x.1 16) (x.1 17) (x.1 18)
    dsimp only
    rw [st1, bnS]
    have un : ∀ j, 4208 ≤ j → al2 j = y.1 1 j := fun j hj => by rw [q2, if_neg (by omega)]
    refine ⟨_, _, rfl, rfl, rfl, ⟨N2, R2, C2, B2, w2', f2, nb2, hm3, st2⟩, ?_, htap, hflt, ?_, ?_⟩
    · exact ⟨hwhy.1.trans (un _ (by omega)).symm, hwhy.2.1.trans (un _ (by omega)).symm, hwhy.2.2.trans (un _ (by omega)).symm⟩
    · refine pstR_cong (fun j j1 j2 => un j (by omega)) ⟨k - 1, (nx + 5) % 6, by omega, Nat.mod_lt _ (by decide), rfl, rfl, rfl, fun i hi => ?_⟩
      obtain ⟨mv', v1, v2⟩ := k6 i (by omega)
      refine ⟨mv', ?_, v2⟩
      rw [show ((nx + 5) % 6 + 6 - (k - 1) + i) % 6 = (nx + 6 - k + i) % 6 from by omega]
      exact v1
    · exact imgR_cong (fun j j1 => un j (by omega)) himg
