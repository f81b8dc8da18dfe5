/-! ===== a whole text ===== -/
section LOOP_
variable {n : Nat} {vb : Nat → Nat} {sI sb yt : Nat → Int32}
theorem n_loop (hs : srcR n vb sI sb yt) : ∀ (d F G i : Nat) (tI yI toldI nums br bc bb al : Nat → Int32) (val : Int64) (p e kd : Nat), n ≤ p + d → d < F → d < G → i ≤ p → tokR n vb tI yI val p e kd → yI 22 = nI n → stP tI yI toldI nums br bc bb al p → ∃ r tJ toldJ numsJ brJ bcJ bbJ yJ val2 al2, fX2_take_l38 sI sb F (1 : Int32) (nI i) tI toldI nums br bc bb = some (bi r, tJ, toldJ, numsJ, brJ, bcJ, bbJ) ∧ fX11_spec_l39 yt G yI val al = some (yJ, val2, al2) ∧ ((r = true ∧ ∃ p2, stP tJ yJ toldJ numsJ brJ bcJ bbJ al2 p2) ∨ (r = false ∧ stpd tJ yJ)) ∧ kpY yI yJ ∧ kpA al al2 := by
  have h1 := hs.1
  intro d
  induction d with
  | zero =>
    intro F G i tI yI toldI nums br bc bb al val p e kd hd hF hG hi ht h22 hp
    obtain ⟨F, rfl⟩ : ∃ G, F = G + 1 := ⟨F - 1, by omega⟩
    obtain ⟨G, rfl⟩ : ∃ F, G = F + 1 := ⟨G - 1, by omega⟩
    have hp' := hp
    obtain ⟨N, w, o, nb, R, C, B, nb2, R2, C2, B2, g1, g2, g3, g4, g5, g6, g7⟩ := hp'
    obtain ⟨t4, y24, t5, y25, t6, y23, pe, en, k4, pl, -⟩ := ht
    have k0 : kd = 0 := by
      by_cases z : kd = 0
      · exact z
      · have := pl z; omega
    rw [fX2_take_l38, if_neg (show ¬ (300 : Int32) < nI i from nI_nlt (a := 300) (by omega) (by omega)), if_neg (show ¬ (1 : Int32) = 0 from by decide), t4, if_pos (show nI kd = 0 by rw [k0]; rfl), fX11_spec_l39, gd_y (fy_good g5), if_neg (show ¬ bi true = 0 from by decide), y24, if_pos (show nI kd = 0 by rw [k0]; rfl)]
    exact ⟨true, _, _, _, _, _, _, _, _, _, rfl, rfl, .inl ⟨rfl, p, hp⟩, kpY_rf _, kpA_rf _⟩
  | succ d ih =>
    intro F G i tI yI toldI nums br bc bb al val p e kd hd hF hG hi ht h22 hp
    obtain ⟨F, rfl⟩ : ∃ G, F = G + 1 := ⟨F - 1, by omega⟩
    obtain ⟨G, rfl⟩ : ∃ F, G = F + 1 := ⟨G - 1, by omega⟩
    have hp' := hp
    obtain ⟨N, w, o, nb, R, C, B, nb2, R2, C2, B2, g1, g2, g3, g4, g5, g6, g7⟩ := hp'
    have ht' := ht
    obtain ⟨t4, y24, t5, y25, t6, y23, pe, en, k4, pl, -⟩ := ht'
    rw [fX2_take_l38, if_neg (show ¬ (300 : Int32) < nI i from nI_nlt (a := 300) (by omega) (by omega)), if_neg (show ¬ (1 : Int32) = 0 from by decide), t4, fX11_spec_l39, gd_y (fy_good g5), if_neg (show ¬ bi true = 0 from by decide), y24]
    by_cases k0 : kd = 0
    · rw [if_pos (show nI kd = 0 by rw [k0]; rfl), if_pos (show nI kd = 0 by rw [k0]; rfl)]
      exact ⟨true, _, _, _, _, _, _, _, _, _, rfl, rfl, .inl ⟨rfl, p, hp⟩, kpY_rf _, kpA_rf _⟩
    · have pl := pl k0
      have nz : ¬ nI kd = 0 := nI_ne0 (by omega) (by omega)
      obtain ⟨r, tJ, toldJ, numsJ, brJ, bcJ, bbJ, yJ, val2, al2, q1, q2, q3, q4, q5⟩ := n_line hs ht h22 hp
      rw [if_neg nz, if_neg nz, q1, bnS, q2, bnS, show nI i + (1 : Int32) = nI (i + 1) from nI_1 i]
      rcases q3 with ⟨z1, p2, e2, kd2, z2, z3, z4⟩ | ⟨z1, z2⟩
      · subst z1
        obtain ⟨r3, tL, toldL, numsL, brL, bcL, bbL, yL, val3, al3, m1, m2, m3, m4, m5⟩ := ih F G (i + 1) tJ yJ toldJ numsJ brJ bcJ bbJ al2 val2 p2 e2 kd2 (by omega) (by omega) (by omega) (by omega) z3 (q4.2.2.trans h22) z4
        exact ⟨r3, tL, toldL, numsL, brL, bcL, bbL, yL, val3, al3, m1, m2, m3, kpY_tr q4 m4, kpA_tr q5 m5⟩
      · subst z1
        obtain ⟨F, rfl⟩ : ∃ G, F = G + 1 := ⟨F - 1, by omega⟩
        obtain ⟨G, rfl⟩ : ∃ F, G = F + 1 := ⟨G - 1, by omega⟩
        have z3 := z2
        obtain ⟨-, -, -, z4, -⟩ := z3
        refine ⟨false, tJ, toldJ, numsJ, brJ, bcJ, bbJ, yJ, val2, al2, ?_, ?_, .inr ⟨rfl, z2⟩, q4, q5⟩
        · rw [fX2_take_l38, if_neg (show ¬ (300 : Int32) < nI (i + 1) from nI_nlt (a := 300) (by omega) (by omega)), if_pos (show bi (false, tJ, toldJ, numsJ, brJ, bcJ, bbJ).1 = 0 from rfl)]
        · rw [fX11_spec_l39]
          dsimp only
          rw [gd_n z4, if_pos (show bi false = 0 from rfl)]
end LOOP_
theorem nu_1 (m : Nat → Int32) : ∀ k, k < 9 → va_cpy (fun z => (sV 0).getD z 0) m 0 0 9 k = nI (N0 k) := by
  intro k hk
  have e : ∀ k, k < 9 → (sV 0).getD k 0 = nI (N0 k) := by decide +kernel
  rw [pk_cpy_in (Nat.zero_le _) (by omega), show 0 + (k - 0) = k from by omega]
  exact e k hk
def yS (y : Nat → Int32) : Nat → Int32 := upd (upd (upd (upd (upd y 3 (0 : Int32)) 4 (0 : Int32)) 5 (-1 : Int32)) 22 (y 3)) 23 (0 : Int32)
theorem spec_take {tI toldI nums br bc bb sI sb pI pb yI al yt : Nat → Int32} {val : Int64} (htap : tapR pI pb yt (yI 3)) : ∃ tJ toldJ numsJ brJ bcJ bbJ sJ sbJ yJ val2 al1 al2 yA vA, fX2_take tI toldI nums br bc bb sI sb pI pb = some (tJ, toldJ, numsJ, brJ, bcJ, bbJ, sJ, sbJ) ∧ fX11_firsts al (4211 : Int32) = some al1 ∧ fX11_takes (yS yI) val yt = some (yA, vA) ∧ fX11_spec_l39 yt FU yA vA al1 = some (yJ, val2, al2) ∧ kpA al al2 ∧ yJ 3 = 0 ∧ yJ 6 = yI 6 ∧ tJ 1 = yJ 4 ∧ tJ 2 = yJ 5 ∧ ((∃ k, 1 ≤ k ∧ k ≤ 4 ∧ tJ 1 = nI k) ∨ (tJ 1 = 0 ∧ ∃ N w nb R C B, okN N w ∧ (∀ k, k < 9 → numsJ k = nI (N k)) ∧ mdl al2 4211 N ∧ okBd nb R C B ∧ xBd toldJ brJ bcJ bbJ nb R C B ∧ yBd al2 4211 nb R C B ∧ ∀ i j, i < j → j < nb → ¬ (R i = R j ∧ C i = C j))) := by
  obtain ⟨n, n1, n2, n3, n4, n5⟩ := htap
  have hs : srcR n (fun i => (yt i).toNatClampNeg) (upd sI 1 (pI 1)) (va_cpy pb sb 0 0 300) yt := by
    refine ⟨n1, (ux_at _ _ _).trans n2, fun i hi => ?_⟩
    obtain ⟨v, v1, v2, v3⟩ := n5 i hi
    have e : (yt i).toNatClampNeg = v := by rw [v2, nI_clamp (by omega)]
    refine ⟨by show (yt i).toNatClampNeg < 256; omega, ?_, by show yt i = nI (yt i).toNatClampNeg; rw [e, v2]⟩
    show _ = (nI (yt i).toNatClampNeg).toInt8.toInt32
    rw [pk_cpy_in (Nat.zero_le _) (by omega), show 0 + (i - 0) = i from by omega, e, v3]
  obtain ⟨al1, f1, f2, f3⟩ := y_firsts (b := 4211) (by decide) al
  have f1 : fX11_firsts al (4211 : Int32) = some al1 := f1
  obtain ⟨tA, yA, vA, p, e, kd, w1, w2, w3, w4, w5, w6⟩ := t_next (val := val) hs (tI := upd (upd (upd tI 1 (0 : Int32)) 2 (-1 : Int32)) 6 (0 : Int32)) (yI := yS yI) (e0 := 0) (by unfold yS; rw [ux_ne (by decide), ux_at]; exact n3) (ux_at _ _ _) (ux_at _ _ _) (Nat.zero_le _)
  have hp : stP tA yA (upd toldI 4 (0 : Int32)) (va_cpy (fun z => (sV 0).getD z 0) nums 0 0 9) br bc bb al1 p := by
    refine ⟨N0, 6, none, 0, fun _ => 0, fun _ => 0, fun _ => 0, 0, fun _ => 0, fun _ => 0, fun _ => 0, okN_0, nu_1 _, fun k hk => f2 k (by omega), ⟨?_, ?_⟩, ⟨?_, ?_⟩, (fun k q z => by cases z), ⟨by decide, fun k hk => absurd hk (Nat.not_lt_zero k)⟩, ⟨ux_at _ _ _, fun k hk => absurd hk (Nat.not_lt_zero k)⟩, ⟨by decide, fun k hk => absurd hk (Nat.not_lt_zero k)⟩, ⟨f2 9 (by decide), fun k hk => absurd hk (Nat.not_lt_zero k)⟩, fun _ => ⟨rfl, rfl, rfl, rfl, fun i j _ hj => absurd hj (Nat.not_lt_zero j)⟩⟩
    · rw [w5 1 (by decide)]; rfl
    · rw [w5 2 (by decide)]; rfl
    · rw [w6 4 (by decide)]; rfl
    · rw [w6 5 (by decide)]; rfl
  obtain ⟨r, tJ, toldJ, numsJ, brJ, bcJ, bbJ, yJ, val2, al2, q1, q2, q3, q4, q5⟩ := n_loop hs 300 FU FU 0 tA yA _ _ br bc bb al1 vA p e kd (by omega) (by decide) (by decide) (Nat.zero_le _) w3 (by rw [w6 22 (by decide)]; unfold yS; rw [ux_ne (by decide), ux_at]; exact n3) hp
  have q1 : fX2_take_l38 (upd sI 1 (pI 1)) (va_cpy pb sb 0 0 300) FU (1 : Int32) (0 : Int32) tA (upd toldI 4 (0 : Int32)) (va_cpy (fun z => (sV 0).getD z 0) nums 0 0 9) br bc bb = some (bi r, tJ, toldJ, numsJ, brJ, bcJ, bbJ) := q1
  have e3 : yJ 3 = 0 := by rw [q4.1, w6 3 (by decide)]; rfl
  have e6 : yJ 6 = yI 6 := by rw [q4.2.1, w6 6 (by decide)]; rfl
  have kA : kpA al al2 := kpA_tr (fun k hk => f3 k (by omega)) q5
  have ecp : fX7_copyFrom sI sb pI pb = some (upd sI 1 (pI 1), va_cpy pb sb 0 0 300) := by
    unfold fX7_copyFrom
    rw [fb_of n4]
    rfl
  have etf : fX5_toFirst toldI nums = some (upd toldI 4 (0 : Int32), va_cpy (fun z => (sV 0).getD z 0) nums 0 0 9) := rfl
  rcases q3 with ⟨z1, p2, z2⟩ | ⟨z1, z2⟩
  · subst z1
    have etk : fX2_take tI toldI nums br bc bb sI sb pI pb = some (tJ, toldJ, numsJ, brJ, bcJ, bbJ, upd sI 1 (pI 1), va_cpy pb sb 0 0 300) := by
      unfold fX2_take
      rw [ecp, bnS, etf, bnS]
      dsimp only
      rw [w1, bnS, q1, bnS, if_neg (show ¬ (bi true, tJ, toldJ, numsJ, brJ, bcJ, bbJ).1 = 0 from by show ¬ bi true = 0; decide)]
    obtain ⟨N, w, o, nb, R, C, B, nb2, R2, C2, B2, g1, g2, g3, g4, g5, g6, g7, g8, g9, g10, g11⟩ := z2
    refine ⟨tJ, toldJ, numsJ, brJ, bcJ, bbJ, _, _, yJ, val2, al1, al2, yA, vA, etk, f1, w2, q2, kA, e3, e6, ?_⟩
    cases o with
    | none =>
      obtain ⟨m1, m2, m3, m4, m5⟩ := g11 rfl
      subst m1 m2 m3 m4
      exact ⟨g4.1.trans g5.1.symm, g4.2.trans g5.2.symm, .inr ⟨g4.1, N, w, nb2, R2, C2, B2, g1, g2, ⟨by decide, g3⟩, g9, g8, g10, m5⟩⟩
    | some x =>
      exact ⟨g4.2.2.2.1.trans g5.2.2.2.1.symm, g4.2.2.2.2.trans g5.2.2.2.2.symm, .inl ⟨x.1, by have := g4.1; omega, g4.2.1, g4.2.2.2.1⟩⟩
  · subst z1
    have etk : fX2_take tI toldI nums br bc bb sI sb pI pb = some (upd (upd tJ 1 (1 : Int32)) 2 (tJ 5), toldJ, numsJ, brJ, bcJ, bbJ, upd sI 1 (pI 1), va_cpy pb sb 0 0 300) := by
      unfold fX2_take
      rw [ecp, bnS, etf, bnS]
      dsimp only
      rw [w1, bnS, q1, bnS, if_pos (show (bi false, tJ, toldJ, numsJ, brJ, bcJ, bbJ).1 = 0 from rfl)]
    obtain ⟨p3, m1, m2, m3, m4⟩ := z2
    refine ⟨_, toldJ, numsJ, brJ, bcJ, bbJ, _, _, yJ, val2, al1, al2, yA, vA, etk, f1, w2, q2, kA, e3, e6, ?_, ?_, .inl ⟨1, by decide, by decide, rfl⟩⟩
    · show (1 : Int32) = _
      exact m3.symm
    · rw [ux_at, m2, m4]
theorem sim_spec : Sim_spec Rel := by
  intro x y h
  have h' := h
  obtain ⟨⟨N0', R0, C0, B0, w0, f0, nb0, hm0, hwr0⟩, hwhy, htap, hflt, hpst, himg⟩ := h'
  obtain ⟨tJ, toldJ, numsJ, brJ, bcJ, bbJ, sJ, sbJ, yJ, val2, al1, al2, yA, vA, s1, s2, s3, s4, s5, s6, s7, s8, s9, s10⟩ := spec_take (tI := x.1 24) (toldI := x.1 25) (nums := x.1 26) (br := x.1 27) (bc := x.1 28) (bb := x.1 29) (sI := x.1 30) (sb := x.1 31) (al := y.1 1) (val := y.2) htap
  have hyS : upd (upd (upd (upd (upd (y.1 0) 3 (0 : Int32)) 4 (0 : Int32)) 5 (-1 : Int32)) 22 ((y.1 0) 3)) 23 (0 : Int32) = yS (y.1 0) := rfl
  have tap0 : ∀ (z0 : Int32), z0 = 0 → tapR (upd (x.1 8) 1 (0 : Int32)) (x.1 9) (y.1 2) z0 := by
    intro z0 hz
    obtain ⟨n, n1, n2, n3, n4, n5⟩ := htap
    exact ⟨0, by decide, ux_at _ _ _, hz, n4, fun i hi => absurd hi (Nat.not_lt_zero i)⟩
  have bad : ∀ (x0 y0 : Nat → Int32), x0 4 = x.1 0 4 → x0 5 = x.1 0 5 → x0 6 = x.1 0 6 → x0 2 = y0 4 → x0 3 = y0 5 → y0 3 = 0 → y0 6 = y.1 0 6 → RelC x0 (x.1 1, x.1 2, x.1 3, x.1 4, x.1 5, x.1 6, x.1 7) (upd (x.1 8) 1 (0 : Int32)) (x.1 9) (x.1 10) (x.1 11) (x.1 12) (x.1 13) (x.1 14) x.2.1 x.2.2 y0 al2 (y.1 2) (y.1 3) := by
    intro x0 y0 e4 e5 e6 e2 e3 g3 g6
    refine ⟨⟨N0', R0, C0, B0, w0, f0, nb0, memR_cong (mvQ_rf _) (by decide) (fun k hk => s5 (0 + k) (by omega)) hm0, hwr0⟩, ⟨?_, ?_, ?_⟩, tap0 _ g3, ⟨e2, e3⟩, ?_, imgR_cong (fun k hk => s5 k (by omega)) himg⟩
    · rw [e4, s5 (0 + 4208) (by decide)]; exact hwhy.1
    · rw [e5, s5 (0 + 4209) (by decide)]; exact hwhy.2.1
    · rw [e6, s5 (0 + 4210) (by decide)]; exact hwhy.2.2
    · rw [g6]; exact pstR_cong (fun k k1 k2 => s5 k (by omega)) hpst
  unfold fX10_spec fX11_spec
  rw [s1, bnS, s2, bnS, hyS, s3, bnS, s4, bnS]
  dsimp only
  rcases s10 with ⟨k, k1, k2, k3⟩ | ⟨k3, N, w, nb, R, C, B, ok, hnu, hmd, hb, hx, hy, hds⟩
  · have ne : ¬ nI k = 0 := nI_ne0 (by omega) (by omega)
    have y4 : yJ 4 = nI k := s8.symm.trans k3
    unfold fX10_spec_j85 fX11_spec_j82
    rw [if_neg (show ¬ tJ 1 = 0 by rw [k3]; exact ne), if_neg (show ¬ upd (upd (x.1 0) 2 (tJ 1)) 3 (tJ 2) 2 = 0 by rw [ux_ne (by decide), ux_at, k3]; exact ne), if_neg (show ¬ yJ 4 = 0 by rw [y4]; exact ne), if_neg (show ¬ yJ 4 ≤ 0 by rw [y4]; exact nI_ge (a := 0) (by omega) (by omega))]
    exact ⟨_, _, rfl, rfl, rfl, bad (upd (upd (x.1 0) 2 (tJ 1)) 3 (tJ 2)) yJ rfl rfl rfl s8 s9 s6 s7⟩
  · have y4 : yJ 4 = 0 := s8.symm.trans k3
    obtain ⟨cv, cu, fI2, fz2, sz2, u1, u2, u3⟩ := unfit_both ok hb hnu hx hmd hy (x.1 17) (x.1 18) (y.1 4)
    have u2 : fX11_unfit al2 (y.1 4) (4211 : Int32) = some (cu, sz2) := u2
    rw [if_pos k3, u1, bnS, if_pos y4, u2, bnS]
    have no : ¬ cv = 0 → ¬ cu ≤ 0 → ∃ ox oy, (if (cv, fI2, fz2).1 = 0 then fX10_spec_j85 (upd (upd (x.1 0) 2 (tJ 1)) 3 (tJ 2)) (x.1 1) (x.1 2) (x.1 3) (x.1 4) (x.1 5) (x.1 6) (x.1 7) (upd (x.1 8) 1 (0 : Int32)) (x.1 10) (x.1 11) (x.1 12) (x.1 13) (x.1 14) (x.1 15) (x.1 16) fI2 fz2 tJ toldJ numsJ brJ bcJ bbJ sJ sbJ else fX10_spec_j85 (upd (upd (x.1 0) 2 (5 : Int32)) 3 (tJ 2)) (x.1 1) (x.1 2) (x.1 3) (x.1 4) (x.1 5) (x.1 6) (x.1 7) (upd (x.1 8) 1 (0 : Int32)) (x.1 10) (x.1 11) (x.1 12) (x.1 13) (x.1 14) (x.1 15) (x.1 16) fI2 fz2 tJ toldJ numsJ brJ bcJ bbJ sJ sbJ) = some ox ∧ (if (cu, sz2).1 ≤ 0 then fX11_spec_j82 yJ val2 al2 sz2 else fX11_spec_j82 (upd yJ 4 (5 : Int32)) val2 al2 sz2) = some oy ∧ ox.1 = oy.1 ∧ RelC ox.2.1 (ox.2.2.1, ox.2.2.2.1, ox.2.2.2.2.1, ox.2.2.2.2.2.1, ox.2.2.2.2.2.2.1, ox.2.2.2.2.2.2.2.1, ox.2.2.2.2.2.2.2.2.1) ox.2.2.2.2.2.2.2.2.2.1 (x.1 9) ox.2.2.2.2.2.2.2.2.2.2.1 ox.2.2.2.2.2.2.2.2.2.2.2.1 ox.2.2.2.2.2.2.2.2.2.2.2.2.1 ox.2.2.2.2.2.2.2.2.2.2.2.2.2.1 ox.2.2.2.2.2.2.2.2.2.2.2.2.2.2.1 x.2.1 x.2.2 oy.2.1 oy.2.2.2.1 (y.1 2) (y.1 3) := by
      intro c1 c2
      rw [if_neg (show ¬ (cv, fI2, fz2).1 = 0 from c1), if_neg (show ¬ (cu, sz2).1 ≤ 0 from c2)]
      unfold fX10_spec_j85 fX11_spec_j82
      rw [if_neg (show ¬ upd (upd (x.1 0) 2 (5 : Int32)) 3 (tJ 2) 2 = 0 from by show ¬ (5 : Int32) = 0; decide), if_neg (show ¬ upd yJ 4 (5 : Int32) 4 ≤ 0 from by show ¬ (5 : Int32) ≤ 0; decide)]
      exact ⟨_, _, rfl, rfl, rfl, bad (upd (upd (x.1 0) 2 (5 : Int32)) 3 (tJ 2)) (upd yJ 4 (5 : Int32)) rfl rfl rfl rfl s9 s6 s7⟩
    rcases u3 with ⟨rfl, rfl, f, hM, hmx, hfit⟩ | ⟨rfl, rfl⟩ | ⟨rfl, f2, hf2, hN2, hv2⟩
    · have hP : memP N R C B w f nb := ⟨ok, hM, hmx, hb, hfit, hds⟩
      have hb1 := hb.1
      have hnu2 : ∀ k, k < 9 → va_cpy numsJ (x.1 2) 0 0 9 k = nI (N k) := fun k hk => by
        rw [pk_cpy_in (Nat.zero_le _) (by omega), show 0 + (k - 0) = k from by omega]; exact hnu k hk
      have xb2 : xBd (upd (x.1 1) 4 (toldJ 4)) (va_cpy brJ (x.1 3) 0 0 12) (va_cpy bcJ (x.1 4) 0 0 12) (va_cpy bbJ (x.1 5) 0 0 12) nb R C B := by
        refine ⟨(ux_at _ _ _).trans hx.1, fun j hj => ?_⟩
        rw [pk_cpy_in (Nat.zero_le _) (by omega), pk_cpy_in (Nat.zero_le _) (by omega), pk_cpy_in (Nat.zero_le _) (by omega), show 0 + (j - 0) = j from by omega]
        exact hx.2 j hj
      have ecp : fX5_copyFrom (x.1 1) (x.1 2) (x.1 3) (x.1 4) (x.1 5) toldJ numsJ brJ bcJ bbJ = some (upd (x.1 1) 4 (toldJ 4), va_cpy numsJ (x.1 2) 0 0 9, va_cpy brJ (x.1 3) 0 0 12, va_cpy bcJ (x.1 4) 0 0 12, va_cpy bbJ (x.1 5) 0 0 12) := rfl
      have efg : fX1_forget (x.1 10) = some (upd (x.1 10) 2 (0 : Int32)) := rfl
      obtain ⟨wd2, sp2, cl1, cl2, cl3⟩ := x_clear (x.1 6) (x.1 7)
      obtain ⟨t2, r2, rr2, rc2, cd2, lf2, fI3, fz3, st1, st2⟩ := x_settle hP hnu2 xb2 (x.1 11) (x.1 12) (x.1 13) (x.1 14) (x.1 15) (x.1 16) fI2 fz2
      obtain ⟨al3, c1, c2⟩ := y_copies al2 (s := 4211) (d := 0) (n := 46) (by decide) (by decide) (.inl (by decide))
      have c1 : fX11_copies al2 (4211 : Int32) (0 : Int32) (46 : Int32) = some al3 := c1
      obtain ⟨al4, d1, d2⟩ := y_clears al3
      have hY2 : memY al2 4211 N R C B nb := ⟨by decide, hmd, hy⟩
      have hY4 : memY al4 0 N R C B nb := memY_cong hb (by decide) (fun k hk => by rw [d2, if_neg (by omega), c2, if_pos (by omega), show 4211 + (0 + k - 0) = 4211 + k from by omega]) hY2
      have al4k : ∀ k, 4208 ≤ k → (k < 4211 ∨ 4257 ≤ k) → al4 k = y.1 1 k := fun k k1 k2 => by rw [d2, if_neg (by omega), c2, if_neg (by omega)]; exact s5 k k2
      obtain ⟨z3, z1⟩ := y_mux hY4.2.1 ok sz2
      have z1 : fX11_mux al4 sz2 (0 : Int32) = some (mxN N w, z3) := z1
      rw [if_pos (show (0 : Int32) = 0 from rfl), if_pos (show (0 : Int32) ≤ 0 from by decide)]
      unfold fX10_spec_j85 fX11_spec_j82
      rw [if_pos (show upd (upd (x.1 0) 2 (tJ 1)) 3 (tJ 2) 2 = 0 from k3), if_pos (show yJ 4 ≤ 0 by rw [y4]; decide), ecp, bnS, cl1, bnS, efg, bnS]
      dsimp only
      rw [st1, bnS, c1, bnS, d1, bnS, z1, bnS]
      refine ⟨_, _, rfl, rfl, ?_, ?_⟩
      · show t2 1 = mxN N w
        rw [hmx]; exact st2.1.1
      · show RelC (upd (upd (x.1 0) 2 (tJ 1)) 3 (tJ 2)) (upd (x.1 1) 4 (toldJ 4), va_cpy numsJ (x.1 2) 0 0 9, va_cpy brJ (x.1 3) 0 0 12, va_cpy bcJ (x.1 4) 0 0 12, va_cpy bbJ (x.1 5) 0 0 12, wd2, sp2) (upd (x.1 8) 1 (0 : Int32)) (x.1 9) (upd (x.1 10) 2 (0 : Int32)) t2 r2 rr2 rc2 x.2.1 x.2.2 (upd yJ 6 (0 : Int32)) al4 (y.1 2) (y.1 3)
        refine ⟨⟨N, R, C, B, w, f, nb, ⟨hP, ⟨hnu2, xb2⟩, hY4, celR_0 ok hM cl2 cl3 (fun k k1 k2 => by rw [d2, if_pos ⟨k1, k2⟩])⟩, st2⟩, ⟨?_, ?_, ?_⟩, tap0 _ s6, ⟨s8, s9⟩, ?_, imgR_cong (fun k hk => al4k k (by omega) (by omega)) himg⟩
        · rw [al4k (0 + 4208) (by decide) (by decide)]; exact hwhy.1
        · rw [al4k (0 + 4209) (by decide) (by decide)]; exact hwhy.2.1
        · rw [al4k (0 + 4210) (by decide) (by decide)]; exact hwhy.2.2
        · obtain ⟨k, nx, m1, m2, m3, m4, m5, m6⟩ := hpst
          exact ⟨0, nx, by decide, m2, ux_at _ _ _, m4, rfl, fun i hi => absurd hi (Nat.not_lt_zero i)⟩
    · exact no (by decide) (by decide)
    · rcases hv2 with ⟨rfl, hv3⟩ | ⟨rfl, hv3⟩
      · exact no (by decide) (by decide)
      · exact no (by decide) (by decide)
