/-! ===== a bad cell told in a line ===== -/
section BAD_
variable {n : Nat} {vb : Nat → Nat} {sI sb yt : Nat → Int32}
def j19E (yA : Nat → Int32) (vT : Int64) (al yt : Nat → Int32) : Option ((Nat → Int32) × (Int64) × (Nat → Int32)) := bn (fX11_numeral yA vT yt (0 : Int32) (511 : Int32)) fun a1 => bn (fX11_numeral a1.2.1 a1.2.2 yt (0 : Int32) (255 : Int32)) fun a3 => bn (fX11_numeral a3.2.1 a3.2.2 yt (0 : Int32) (1 : Int32)) fun a5 => endB a1.1 a3.1 a5.1 (a1.2.1 28) a5.2.1 a5.2.2 al
theorem j19E_eq (yA : Nat → Int32) (vT : Int64) (al yt : Nat → Int32) : fX11_readsBad_j19 yA vT al yt = j19E yA vT al yt := rfl
theorem endB_st {yD al : Nat → Int32} {v : Int64} (h : yD 4 = (1 : Int32)) (a b c d : Int32) : endB a b c d yD v al = some (yD, v, al) := by
  unfold endB
  rw [gd_n h, if_pos (show bi false = 0 from rfl)]
theorem n_bad3 (hs : srcR n vb sI sb yt) {tA yA toldI nums br bc bb al : Nat → Int32} {vT : Int64} {p1 e1 k1 : Nat} {N : Nat → Nat} {w : Nat} {o : FO} {nb nb2 : Nat} {R C B R2 C2 B2 : Nat → Nat} (ht : tokR n vb tA yA vT p1 e1 k1) (h22 : yA 22 = nI n) (g1 : okN N w) (g2 : ∀ k, k < 9 → nums k = nI (N k)) (g3 : ∀ k, k < 9 → al (4211 + k) = nI (N k)) (g4 : fx tA o) (g5 : fy yA o) (g6 : foB o p1) (g7 : okBd nb R C B) (g8 : xBd toldI br bc bb nb R C B) (g9 : okBd nb2 R2 C2 B2) (g10 : yBd al 4211 nb2 R2 C2 B2) (g11 : o = none → nb < 12 ∧ nb2 = nb ∧ R2 = R ∧ C2 = C ∧ B2 = B ∧ ∀ i j, i < j → j < nb → ¬ (R i = R j ∧ C i = C j)) : ∃ r tJ toldJ brJ bcJ bbJ yJ val2 al2, (if (tA 4) = (2 : Int32) then bn (fX2_next tA sI sb) fun a4 => (if (a4 4) = (2 : Int32) then bn (fX2_next a4 sI sb) fun a7 => (if (a7 4) = (2 : Int32) then bn (fX2_noteBad a7 toldI br bc (tA 7) (tA 5) (a4 7) (a4 5)) fun a10 => (if (a10 1) = 0 then bn (fX5_add toldI br bc bb (tA 7) (a4 7) (a10 7)) fun a15 => bn (fX2_next a10 sI sb) fun a17 => some (true, a17, a15.1, a15.2.1, a15.2.2.1, a15.2.2.2) else bn (fX2_next a10 sI sb) fun a13 => some (true, a13, toldI, br, bc, bb)) else some (false, a7, toldI, br, bc, bb)) else some (false, a4, toldI, br, bc, bb)) else some (false, tA, toldI, br, bc, bb)) = some (r, tJ, toldJ, brJ, bcJ, bbJ) ∧ j19E yA vT al yt = some (yJ, val2, al2) ∧ goOn n vb p1 r tJ yJ toldJ nums brJ bcJ bbJ al2 val2 ∧ kpY yA yJ ∧ kpA al al2 := by
  have h1 := hs.1
  by_cases c1 : k1 = 2
  · subst c1
    obtain ⟨v1, tB, yB, vB, p2, e2, k2, a1, a2, a3, a4, a5, a6, a7, a8, a9, a10⟩ := y_numeral hs (tc := tA) (G := 511) ht g5 g6 h22 rfl (by decide)
    have a9 : fX11_numeral yA vT yt (0 : Int32) (511 : Int32) = some (nmI v1 511, yB, vB) := a9
    have a10 : fy yB (ntI (v1 ≤ 511) o 2 p1) := a10
    have fB : fx tB o := fx_same g4 (a4 1 (by decide)) (a4 2 (by decide))
    have l1 : p1 < e1 := ht.2.2.2.2.2.2.2.2.2.1 (by decide)
    have en1 : e1 ≤ n := ht.2.2.2.2.2.2.2.1
    have tA5 := ht.2.2.1
    rw [if_pos ((kd2 ht).mpr rfl), a3, bnS]
    unfold j19E
    rw [a9, bnS]
    by_cases c2 : k2 = 2
    · subst c2
      obtain ⟨v2, tC, yC, vC, p3, e3, k3, b1, b2, b3, b4, b5, b6, b7, b8, b9, b10⟩ := y_numeral hs (tc := tB) (G := 255) a6 a10 (foB_ntI g6 (by omega)) (a8.2.2.trans h22) rfl (by decide)
      have b9 : fX11_numeral yB vB yt (0 : Int32) (255 : Int32) = some (nmI v2 255, yC, vC) := b9
      have b10 : fy yC (ntI (v2 ≤ 255) (ntI (v1 ≤ 511) o 2 p1) 2 p2) := b10
      have fC : fx tC o := fx_same fB (b4 1 (by decide)) (b4 2 (by decide))
      have l2 : p2 < e2 := a6.2.2.2.2.2.2.2.2.2.1 (by decide)
      have en2 : e2 ≤ n := a6.2.2.2.2.2.2.2.1
      have tB5 := a6.2.2.1
      have kC : kpY yA yC := kpY_tr a8 b8
      rw [if_pos ((kd2 a6).mpr rfl), b3, bnS]
      rw [show fX11_numeral (nmI v1 511, yB, vB).2.1 (nmI v1 511, yB, vB).2.2 yt (0 : Int32) (255 : Int32) = some (nmI v2 255, yC, vC) from b9, bnS]
      by_cases c3 : k3 = 2
      · subst c3
        have l3 : p3 < e3 := b6.2.2.2.2.2.2.2.2.2.1 (by decide)
        have en3 : e3 ≤ n := b6.2.2.2.2.2.2.2.1
        have tC5 := b6.2.2.1
        obtain ⟨v3, d1, d2, -⟩ := b6.2.2.2.2.2.2.2.2.2.2.1 rfl
        obtain ⟨u, tD, u1, u2, u3, u4⟩ := x_noteBad fC (show p1 ≤ 300 by omega) (show p2 ≤ 300 by omega) (show p3 ≤ 300 by omega) d2 tC5 g7 g8 a1 b1 d1
        obtain ⟨v3', tE, yD, vD, p4, e4, k4, d1', d2', d3, d4, d5, d6, d7, d8, d9, d10⟩ := y_numeral hs (tc := tD) (G := 1) b6 b10 (foB_ntI (foB_ntI g6 (by omega)) (by omega)) (kC.2.2.trans h22) (u4 6 (by decide) (by decide)) (by decide)
        have ev : v3' = v3 := (nI_eq (by omega) (by omega)).mp (d2'.symm.trans d2)
        subst ev
        have d9 : fX11_numeral yC vC yt (0 : Int32) (1 : Int32) = some (nmI v3' 1, yD, vD) := d9
        have d10 : fy yD (ntI (v3' ≤ 1) (ntI (v2 ≤ 255) (ntI (v1 ≤ 511) o 2 p1) 2 p2) 2 p3) := d10
        obtain ⟨x, yE, al2, nb3, R3, C3, B3, s1, s2, s3, s4, s5, s6, s7, s8, s9⟩ := y_endB (v := vD) d10 g6 (show p1 < p2 by omega) (show p2 < p3 by omega) (show p3 ≤ 300 by omega) g9 g10 a1 b1 d1
        have eF : bdF o v1 v2 v3' p1 p2 p3 x = bdF o v1 v2 v3' p1 p2 p3 u := by
          cases o with
          | none =>
            obtain ⟨-, z1, z2, z3, z4, z5⟩ := g11 rfl
            subst z1 z2 z3
            rw [isF_one s1 u1]
          | some q => rw [bdF_some, bdF_some]
        rw [eF] at s3 s9
        have fE : fx tE (bdF o v1 v2 v3' p1 p2 p3 u) := fx_same u3 (d4 1 (by decide)) (d4 2 (by decide))
        have kE : kpY yA yE := kpY_tr kC (kpY_tr d8 (kpY_f s4))
        have bE : foB (bdF o v1 v2 v3' p1 p2 p3 u) p4 := by
          unfold bdF
          refine foB_ntI (p := p3) ?_ (by omega)
          refine foB_ntI (p := p2) ?_ (by omega)
          have : foB (ntI (u = (-1 : Int32)) (ntI (v1 ≤ 511) o 2 p1) 3 p1) (p1 + 1) := by
            intro a b z
            cases o with
            | some q =>
              rw [ntI_some, ntI_some] at z
              have := g6 a b z
              omega
            | none =>
              unfold ntI at z
              by_cases y1 : v1 ≤ 511
              · rw [if_pos y1] at z
                by_cases y2 : u = (-1 : Int32)
                · rw [if_pos y2] at z; cases z
                · rw [if_neg y2] at z
                  have z : some (3, p1) = some (a, b) := z
                  injection z with z
                  injection z with z1 z2
                  omega
              · rw [if_neg y1] at z
                have z' : (if u = (-1 : Int32) then some (2, p1) else some (2, p1)) = some (a, b) := z
                have z' : some (2, p1) = some (a, b) := by
                  by_cases y2 : u = (-1 : Int32)
                  · rw [if_pos y2] at z'; exact z'
                  · rw [if_neg y2] at z'; exact z'
                injection z' with z
                injection z with z1 z2
                omega
          exact foB_le this (by omega)
        rw [if_pos ((kd2 b6).mpr rfl), a2, tA5, b2, tB5, u2, bnS, show fX11_numeral (nmI v2 255, yC, vC).2.1 (nmI v2 255, yC, vC).2.2 yt (0 : Int32) (1 : Int32) = some (nmI v3' 1, yD, vD) from d9, bnS]
        have s2 : endB (nmI v1 511) (nmI v2 255) (nmI v3' 1) (yB 28) yD vD al = some (yE, vD, al2) := by rw [a7]; exact s2
        have tE' : tokR n vb tE yE vD p4 e4 k4 := tok_f d6 s4
        by_cases cF : bdF o v1 v2 v3' p1 p2 p3 u = none
        · have ho : o = none := by
            cases o with
            | none => rfl
            | some q => rw [bdF_some] at cF; cases cF
          obtain ⟨z0, z1, z2, z3, z4, z5⟩ := g11 ho
          have w3 : v3' ≤ 1 := (ntI_none cF).1
          have w2 : v2 ≤ 255 := (ntI_none (ntI_none cF).2).1
          have w1 : v1 ≤ 511 := (ntI_none (ntI_none (ntI_none (ntI_none cF).2).2).2).1
          have w0 : u = (-1 : Int32) := (ntI_none (ntI_none (ntI_none cF).2).2).1
          obtain ⟨m1, m2, m3, m4⟩ := s9 cF (by omega)
          rw [if_pos ((fx_0 u3).mpr cF), u4 7 (by decide) (by decide), d2, x_add g8.1 z0, bnS, d3, bnS]
          refine ⟨true, tE, upd toldI 4 (nI (nb + 1)), upd br nb (nI v1), upd bc nb (nI v2), upd bb nb (nI v3'), yE, vD, al2, rfl, s2, .inl ⟨rfl, p4, e4, k4, by omega, tE', ⟨N, w, _, nb + 1, upN1 R nb v1, upN1 C nb v2, upN1 B nb v3', nb3, R3, C3, B3, g1, g2, fun k hk => (s8 k hk).trans (g3 k hk), fE, s3, bE, okBd_add g7 z0 (by omega) (by omega) w3, xBd_add g8, s5, s6, fun _ => ⟨by omega, by rw [m2, z1, z2], by rw [m3, z1, z3], by rw [m4, z1, z4], fun i j hij hj => ?_⟩⟩⟩, kE, s7⟩
          unfold upN1
          by_cases ej : j = nb
          · rw [if_pos ej, if_pos ej, if_neg (by omega), if_neg (by omega)]
            rcases u1 with u1 | ⟨k, k1, k2, k3⟩
            · exact u1.2 i (by omega)
            · exfalso
              have := nI_pos (show k < 2 ^ 31 by have := g7.1; omega)
              rw [← k2, w0] at this
              exact this (by decide)
          · rw [if_neg ej, if_neg ej, if_neg (by omega), if_neg (by omega)]
            exact z5 i j hij (by omega)
        · rw [if_neg (fun z => cF ((fx_0 u3).mp z)), d3, bnS]
          exact ⟨true, tE, toldI, br, bc, bb, yE, vD, al2, rfl, s2, .inl ⟨rfl, p4, e4, k4, by omega, tE', ⟨N, w, _, nb, R, C, B, nb3, R3, C3, B3, g1, g2, fun k hk => (s8 k hk).trans (g3 k hk), fE, s3, bE, g7, g8, s5, s6, fun z => absurd z cF⟩⟩, kE, s7⟩
      · rw [if_neg (fun z => c3 ((kd2 b6).mp z)), show fX11_numeral (nmI v2 255, yC, vC).2.1 (nmI v2 255, yC, vC).2.2 yt (0 : Int32) (1 : Int32) = _ from y_numeral_no b10 b6.2.1 c3 b6.2.2.2.2.2.2.2.2.1 _ _, bnS]
        refine ⟨false, tC, toldI, br, bc, bb, _, _, _, rfl, endB_st rfl _ _ _ _, .inr ⟨rfl, stpd_of h1 b6⟩, kpY_tr kC (kpY_st _ _), kpA_rf _⟩
    · rw [if_neg (fun z => c2 ((kd2 a6).mp z)), show fX11_numeral (nmI v1 511, yB, vB).2.1 (nmI v1 511, yB, vB).2.2 yt (0 : Int32) (255 : Int32) = _ from y_numeral_no a10 a6.2.1 c2 a6.2.2.2.2.2.2.2.2.1 _ _, bnS]
      dsimp only
      rw [y_numeral_st (show upd (upd yB 4 (1 : Int32)) 5 (yB 25) 4 = 1 from rfl), bnS]
      exact ⟨false, tB, toldI, br, bc, bb, _, _, _, rfl, endB_st rfl _ _ _ _, .inr ⟨rfl, stpd_of h1 a6⟩, kpY_tr a8 (kpY_st _ _), kpA_rf _⟩
  · rw [if_neg (fun z => c1 ((kd2 ht).mp z))]
    unfold j19E
    rw [y_numeral_no g5 ht.2.1 c1 ht.2.2.2.2.2.2.2.2.1 _ _, bnS]
    dsimp only
    rw [y_numeral_st (show upd (upd yA 4 (1 : Int32)) 5 (yA 25) 4 = 1 from rfl), bnS]
    dsimp only
    rw [y_numeral_st (show upd (upd yA 4 (1 : Int32)) 5 (yA 25) 4 = 1 from rfl), bnS]
    exact ⟨false, tA, toldI, br, bc, bb, _, _, _, rfl, endB_st rfl _ _ _ _, .inr ⟨rfl, stpd_of h1 ht⟩, kpY_st _ _, kpA_rf _⟩
theorem n_bad (hs : srcR n vb sI sb yt) {tI yI toldI nums br bc bb al : Nat → Int32} {val : Int64} {p e : Nat} (ht : tokR n vb tI yI val p e 1) (h22 : yI 22 = nI n) (hp : stP tI yI toldI nums br bc bb al p) : ∃ r tJ toldJ brJ bcJ bbJ yT vT yJ val2 al2, fX2_takeBad tI toldI br bc bb sI sb = some (r, tJ, toldJ, brJ, bcJ, bbJ) ∧ fX11_takes yI val yt = some (yT, vT) ∧ fX11_readsBad yT vT al yt (nI p) = some (yJ, val2, al2) ∧ goOn n vb p r tJ yJ toldJ nums brJ bcJ bbJ al2 val2 ∧ kpY yI yJ ∧ kpA al al2 := by
  have h1 := hs.1
  obtain ⟨N, w, o, nb, R, C, B, nb2, R2, C2, B2, g1, g2, g3, g4, g5, g6, g7, g8, g9, g10, g11⟩ := hp
  have nb12 := g7.1
  have nb212 := g9.1
  obtain ⟨t4, y24, t5, y25, t6, y23, pe, en, -, pl, -⟩ := ht
  have pl := pl (by decide)
  obtain ⟨tK, m1, m2, m3⟩ := x_ntI (k := 4) (p := p) (c := nb < 12) (d := toldI 4 < (12 : Int32)) g4 (by decide) (by decide) (by omega) ⟨fun z => by
    by_cases q : nb < 12
    · exact q
    · rw [g8.1] at z
      exact absurd z (nI_nlt (a := nb) (b := 12) (by omega) (by omega)), fun z => by rw [g8.1]; exact nI_lt (b := 12) (by omega) (by decide)⟩
  obtain ⟨tA, yT, vT, p1, e1, k1, w1, w2, w3, w4, w5, w6⟩ := t_next (val := val) hs (tI := tK) h22 ((m2 6 (by decide) (by decide)).trans t6) y23 en
  have fA : fx tA (ntI (nb < 12) o 4 p) := fx_same m1 (w5 1 (by decide)) (w5 2 (by decide))
  have fT : fy yT o := fy_same g5 (w6 4 (by decide)) (w6 5 (by decide))
  have hA : ∃ yA, fX11_readsBad yT vT al yt (nI p) = j19E yA vT al yt ∧ fy yA (ntI (nb < 12) o 4 p) ∧ ∀ i, i ≠ 4 → i ≠ 5 → yA i = yT i := by
    unfold fX11_readsBad
    rw [show al 4220 = nI nb2 from g10.1]
    by_cases c : nb2 = 12
    · rw [if_pos (show nI nb2 = (12 : Int32) by rw [c]; rfl)]
      obtain ⟨yA, q1, q2, q3⟩ := y_fail (k := 4) (p := p) fT g6 (by decide) (by decide) (by omega)
      have q1 : fX11_fails yT (4 : Int32) (nI p) = some yA := q1
      rw [q1, bnS]
      refine ⟨yA, rfl, ?_, q3⟩
      cases o with
      | none =>
        have := (g11 rfl).1
        rw [ntI_n (by omega)]; exact q2
      | some x => rw [ntI_some]; exact q2
    · rw [if_neg (show ¬ nI nb2 = (12 : Int32) from fun z => c ((nI_eq (b := 12) (by omega) (by decide)).mp z))]
      refine ⟨yT, rfl, ?_, fun _ _ _ => rfl⟩
      cases o with
      | none =>
        have := (g11 rfl).1
        rw [ntI_y (by omega)]; exact fT
      | some x => rw [ntI_some]; exact fT
  obtain ⟨yA, q1, q2, q3⟩ := hA
  obtain ⟨r, tJ, toldJ, brJ, bcJ, bbJ, yJ, val2, al2, z1, z2, z3, z4, z5⟩ := n_bad3 hs (tok_f w3 q3) ((q3 22 (by decide) (by decide)).trans ((w6 22 (by decide)).trans h22)) g1 g2 g3 fA q2 (foB_ntI g6 (by omega)) g7 g8 g9 g10 (fun z => ⟨(ntI_none z).1, g11 (ntI_none z).2⟩)
  refine ⟨r, tJ, toldJ, brJ, bcJ, bbJ, yT, vT, yJ, val2, al2, ?_, w2, q1.trans z2, goOn_le (by omega) z3, kpY_tr (kpY_tr (kpY_t w6) (kpY_f q3)) z4, z5⟩
  unfold fX2_takeBad
  rw [t5]
  have e := m3 _ (fun a => fX2_takeBad_j21 a toldI br bc bb sI sb)
  refine e.trans ?_
  show fX2_takeBad_j21 tK toldI br bc bb sI sb = _
  unfold fX2_takeBad_j21
  rw [w1, bnS]
  exact z1
end BAD_
