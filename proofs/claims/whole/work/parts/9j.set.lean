/-! ===== set ===== -/
theorem RelC_whyF {x0 : Nat → Int32} {mv : MV} {x8 x9 x10 x11 x12 x13 x14 : Nat → Int32} {rv : Nat → Option MV} {iv : Nat → Option SV} {y0 y1 y2 y3 : Nat → Int32} (h : RelC x0 mv x8 x9 x10 x11 x12 x13 x14 rv iv y0 y1 y2 y3) : ∀ (z0 z1 : Nat → Int32), z0 2 = x0 2 → z0 3 = x0 3 → z0 4 = z1 4208 → z0 5 = z1 4209 → z0 6 = z1 4210 → (∀ k, (k < 4208 ∨ 4211 ≤ k) → z1 k = y1 k) → RelC z0 mv x8 x9 x10 x11 x12 x13 x14 rv iv y0 z1 y2 y3 := by
  intro z0 z1 e2 e3 e4 e5 e6 un
  obtain ⟨⟨N, R, C, B, w, f, nb, q1, q2⟩, q3, q4, q5, q6, q7⟩ := h
  refine ⟨⟨N, R, C, B, w, f, nb, memR_cong (mvQ_rf mv) (by omega) (fun k hk => by rw [Nat.zero_add]; exact un k (by omega)) q1, q2⟩, ⟨e4, e5, e6⟩, q4, ⟨e2.trans q5.1, e3.trans q5.2⟩, ?_, ?_⟩
  · exact pstR_cong (fun k k1 _ => un k (by omega)) q6
  · exact imgR_cong (fun k hk => un k (by omega)) q7
theorem pw_inj {a b : Nat} (h : 2 ^ a = 2 ^ b) : a = b := by
  rcases Nat.lt_trichotomy a b with z | z | z
  · have := Nat.pow_lt_pow_right (a := 2) (by decide) z; omega
  · exact z
  · have := Nat.pow_lt_pow_right (a := 2) (by decide) z; omega
theorem okN_w {N M : Nat → Nat} {w w2 : Nat} (h1 : okN N w) (h2 : okN M w2) (h : N 0 = M 0) : w = w2 := by
  have e : 2 ^ w = 2 ^ w2 := by rw [← h1.1, ← h2.1, h]
  exact pw_inj e
theorem p2_inj {f g : Nat} (hf : f ≤ 3) (hg : g ≤ 3) (h : nI (2 ^ f) = nI (2 ^ g)) : f = g := by
  have a := p2f hf
  have b := p2f hg
  have := (nI_eq (a := 2 ^ f) (b := 2 ^ g) (by omega) (by omega)).mp h
  exact pw_inj this
theorem sim_set : Sim_set Rel := by
  intro x y p0 p1 h
  have h' := h
  obtain ⟨⟨N, R, C, B, w, f, nb, hm, hwr⟩, hwhy, htap, hflt, hpst, himg⟩ := h'
  have hm' := hm
  obtain ⟨hP, hX, hY, hc⟩ := hm'
  have hP' := hP
  obtain ⟨ok, hM, hmx, hb, hfit, hds⟩ := hP'
  have hW := hwr.1
  have hb1 := hb.1
  have xb : xBd (x.1 1) (x.1 3) (x.1 4) (x.1 5) nb R C B := hX.2
  have hnu : ∀ k, k < 9 → x.1 2 k = nI (N k) := hX.1
  have wy := Rel_why h
  unfold fX10_set fX11_set
  rw [canBe_eq, bnS]
  cases hcb : fX11_canBe p0 p1 with
  | false =>
    rw [if_pos (show bi false = 0 from rfl), if_pos (show bi false = 0 from rfl)]
    exact ⟨_, _, rfl, rfl, rfl, wy _ _ _ _ rfl rfl rfl rfl rfl⟩
  | true =>
    obtain ⟨k, v, hk, rfl, rfl, hv⟩ := canBe_ok hcb
    rw [if_neg (show ¬ bi true = 0 from by decide), if_neg (show ¬ bi true = 0 from by decide), gdN hk (by decide), gdN (show k < 43047 by omega) (by decide), nI_clamp (show k < 2 ^ 31 by omega), hnu k hk, al_k hY hk]
    by_cases c : nI (N k) = nI v
    · rw [if_pos c, if_pos c]
      exact ⟨_, _, rfl, rfl, rfl, wy _ _ _ _ rfl rfl rfl rfl rfl⟩
    rw [if_neg c, if_neg c]
    obtain ⟨w2, ok2⟩ := okN_up ok hk hv
    obtain ⟨a4, q1, q2⟩ := y_copies (y.1 1) (s := 0) (d := 4211) (n := 46) (by decide) (by decide) (.inr (by decide))
    have q1 : fX11_copies (y.1 1) (0 : Int32) (4211 : Int32) (46 : Int32) = some a4 := q1
    have hA : ∀ j, (j < 4211 ∨ 4257 ≤ j) → upd a4 (4211 + k) (nI v) j = y.1 1 j := fun j hj => by rw [ux_ne (by omega), q2, if_neg (by omega)]
    have hYr : memY (upd a4 (4211 + k) (nI v)) 4211 (upN1 N k v) R C B nb := by
      have e : ∀ j, j < 46 → a4 (4211 + j) = y.1 1 (0 + j) := fun j hj => by rw [q2, if_pos (by omega), show 0 + (4211 + j - 4211) = 0 + j from by omega]
      have b0 := memY_cong (al2 := a4) (b2 := 4211) hb (by decide) e hY
      refine ⟨by decide, ⟨by decide, fun j hj => ?_⟩, ?_, fun j hj => ?_⟩
      · unfold upN1
        by_cases ej : j = k
        · subst ej; rw [ux_at, if_pos rfl]
        · rw [ux_ne (by omega), if_neg ej]; exact b0.2.1.2 j hj
      · rw [ux_ne (by omega)]; exact b0.2.2.1
      · rw [ux_ne (by omega), ux_ne (by omega), ux_ne (by omega)]; exact b0.2.2.2 j hj
    have hnu2 : ∀ j, j < 9 → upd (va_cpy (x.1 2) (x.1 20) 0 0 9) k (nI v) j = nI (upN1 N k v j) := by
      intro j hj
      unfold upN1
      by_cases ej : j = k
      · subst ej; rw [ux_at, if_pos rfl]
      · rw [ux_ne ej, if_neg ej, pk_cpy_in (Nat.zero_le _) (by omega), show 0 + (j - 0) = j from by omega]; exact hnu j hj
    have xbt : xBd (upd (x.1 19) 4 (x.1 1 4)) (va_cpy (x.1 3) (x.1 21) 0 0 12) (va_cpy (x.1 4) (x.1 22) 0 0 12) (va_cpy (x.1 5) (x.1 23) 0 0 12) nb R C B := by
      refine ⟨(ux_at _ _ _).trans xb.1, fun j hj => ?_⟩
      rw [pk_cpy_in (Nat.zero_le _) (by omega), pk_cpy_in (Nat.zero_le _) (by omega), pk_cpy_in (Nat.zero_le _) (by omega), show 0 + (j - 0) = j from by omega]
      exact xb.2 j hj
    obtain ⟨cv, cu, fI2, fz2, sz2, u1, u2, u3⟩ := unfit_both ok2 hb hnu2 xbt hYr.2.1 hYr.2.2 (x.1 17) (x.1 18) (y.1 4)
    have ecp : fX5_copyFrom (x.1 19) (x.1 20) (x.1 21) (x.1 22) (x.1 23) (x.1 1) (x.1 2) (x.1 3) (x.1 4) (x.1 5) = some (upd (x.1 19) 4 (x.1 1 4), va_cpy (x.1 2) (x.1 20) 0 0 9, va_cpy (x.1 3) (x.1 21) 0 0 12, va_cpy (x.1 4) (x.1 22) 0 0 12, va_cpy (x.1 5) (x.1 23) 0 0 12) := rfl
    have u2 : fX11_unfit (upd a4 (4211 + k) (nI v)) (y.1 4) (4211 : Int32) = some (cu, sz2) := u2
    rw [ecp, bnS, q1, bnS, show (4211 : Int32) + nI k = nI (4211 + k) from nI_add 4211 k, gdN (show 4211 + k < 43047 by omega) (by decide), nI_clamp (show 4211 + k < 2 ^ 31 by omega), gdN hk (by decide), u2, bnS]
    dsimp only
    rw [u1, bnS]
    have hr : RelC (x.1 0) (x.1 1, x.1 2, x.1 3, x.1 4, x.1 5, x.1 6, x.1 7) (x.1 8) (x.1 9) (x.1 10) (x.1 11) (x.1 12) (x.1 13) (x.1 14) x.2.1 x.2.2 (y.1 0) (upd a4 (4211 + k) (nI v)) (y.1 2) (y.1 3) := RelC_y rfl rfl rfl rfl hA h
    have wr := RelC_whyF hr
    have no0 : ∀ z : Int32, z ≠ 0 → 0 ≤ z → ¬ z ≤ 0 := fun z h1 h2 h3 => h1 (by rw [fa_eq]; rw [fa_le] at h2 h3; omega)
    rcases u3 with ⟨rfl, rfl, f2, hM2, hmx2, hfit2⟩ | ⟨rfl, rfl⟩ | ⟨rfl, f2, hf2, hN2, hv2⟩
    · -- fit
      have hP2 : memP (upN1 N k v) R C B w2 f2 nb := ⟨ok2, hM2, hmx2, hb, hfit2, hds⟩
      have hpst2 : pstR (x.1 10) x.2.1 (y.1 0 6) (upd a4 (4211 + k) (nI v)) := pstR_cong (fun j j1 j2 => hA j (by omega)) hpst
      have hmE : memE (x.1 1, x.1 2, x.1 3, x.1 4, x.1 5, x.1 6, x.1 7) (upd a4 (4211 + k) (nI v)) 0 := memE_cong (mvQ_rf _) (by decide) (fun j hj => hA (0 + j) (by omega)) ⟨N, R, C, B, w, f, nb, hm⟩
      obtain ⟨pI2, rv2, tJ, al2, g1, g2, g3, g4, g5⟩ := pst_push hpst2 hmE
      have g1 : fX1_remember (x.1 10) x.2.1 (x.1 1) (x.1 2) (x.1 3) (x.1 4) (x.1 5) (x.1 6) (x.1 7) = some (pI2, rv2) := g1
      have hnu3 : ∀ j, j < 9 → upd (x.1 2) k (nI v) j = nI (upN1 N k v j) := by
        intro j hj
        unfold upN1
        by_cases ej : j = k
        · subst ej; rw [ux_at, if_pos rfl]
        · rw [ux_ne ej, if_neg ej]; exact hnu j hj
      obtain ⟨t2, r2, rr2, rc2, cd2, lf2, fI3, fz3, st1, st2⟩ := x_settle hP2 hnu3 xb (x.1 11) (x.1 12) (x.1 13) (x.1 14) (x.1 15) (x.1 16) fI2 fz2
      rw [if_pos (show (0 : Int32) = 0 from rfl), if_pos (show (0 : Int32) ≤ 0 from by decide), g1, bnS, gdN hk (by decide), st1, bnS, g2, bnS]
      have al2k : ∀ j, (j < 4211 ∨ 29505 ≤ j) → al2 j = y.1 1 j := fun j hj => (g5 j (by omega)).trans (hA j (by omega))
      have hY0 : memY al2 0 N R C B nb := memY_cong hb (by decide) (fun j hj => al2k (0 + j) (by omega)) hY
      have hYr2 : memY al2 4211 (upN1 N k v) R C B nb := memY_cong hb (by decide) (fun j hj => g5 (4211 + j) (by omega)) hYr
      have hYk : ∀ al3 : Nat → Int32, (∀ j, j < 46 → al3 j = upd al2 k (nI v) j) → memY al3 0 (upN1 N k v) R C B nb := by
        intro al3 h3
        refine ⟨by decide, ⟨by decide, fun j hj => ?_⟩, ?_, fun j hj => ?_⟩
        · rw [Nat.zero_add, h3 j (by omega)]
          unfold upN1
          by_cases ej : j = k
          · subst ej; rw [ux_at, if_pos rfl]
          · rw [ux_ne ej, if_neg ej]; exact al_k hY0 hj
        · rw [h3 _ (by omega), ux_ne (by omega)]; exact hY0.2.2.1
        · rw [h3 _ (by omega), h3 _ (by omega), h3 _ (by omega), ux_ne (by omega), ux_ne (by omega), ux_ne (by omega)]; exact hY0.2.2.2 j hj
      -- the end, with what is left of the cells
      have fin : ∀ (wd sp al3 : Nat → Int32), (∀ j, (j < 46 ∨ 4208 ≤ j) → al3 j = upd al2 k (nI v) j) → celR wd sp al3 0 (upN1 N k v) w2 f2 → ∀ (z0 : Nat → Int32), z0 2 = x.1 0 2 → z0 3 = x.1 0 3 → z0 4 = 0 → z0 5 = 0 → z0 6 = 0 → RelC z0 (x.1 1, upd (x.1 2) k (nI v), x.1 3, x.1 4, x.1 5, wd, sp) (x.1 8) (x.1 9) pI2 t2 r2 rr2 rc2 rv2 x.2.2 tJ (upd (upd (upd al3 4208 0) 4209 0) 4210 0) (y.1 2) (y.1 3) := by
        intro wd sp al3 h3 h4 z0 e2 e3 e4 e5 e6
        have un : ∀ j, (j < 4208 ∨ 4211 ≤ j) → upd (upd (upd al3 4208 0) 4209 0) 4210 0 j = al3 j := fun j hj => by rw [ux_ne (by omega), ux_ne (by omega), ux_ne (by omega)]
        refine ⟨⟨upN1 N k v, R, C, B, w2, f2, nb, ⟨hP2, ⟨hnu3, xb⟩, ?_, ?_⟩, st2⟩, ⟨e4, e5, e6⟩, ?_, ?_, ?_, ?_⟩
        · exact hYk _ (fun j hj => by rw [un j (by omega)]; exact h3 j (by omega))
        · exact celR_al ok2 hM2 (fun j j1 j2 => un j (by omega)) h4
        · exact tapR_cong (fun _ _ => rfl) (g4 3 (by decide)) htap
        · exact ⟨e2.trans (hflt.1.trans (g4 4 (by decide)).symm), e3.trans (hflt.2.trans (g4 5 (by decide)).symm)⟩
        · exact pstR_cong (fun j j1 j2 => by rw [un j (by omega), h3 j (by omega), ux_ne (by omega)]) g3
        · exact imgR_cong (fun j j1 => by rw [un j (by omega), h3 j (by omega), ux_ne (by omega)]; exact al2k j (by omega)) himg
      obtain ⟨wd2, sp2, cl1, cl2, cl3⟩ := x_clear (x.1 6) (x.1 7)
      obtain ⟨alc, cy1, cy2⟩ := y_clears (upd al2 k (nI v))
      have cel0 : celR wd2 sp2 alc 0 (upN1 N k v) w2 f2 := celR_0 ok2 hM2 cl2 cl3 (fun j j1 j2 => by rw [cy2, if_pos ⟨j1, j2⟩])
      have fin0 := fin wd2 sp2 alc (fun j hj => by rw [cy2, if_neg (by omega)]) cel0
      have clr : ∀ zz : Nat → Int32, fX11_set_j153 (nI k) (nI v) tJ al2 zz = some ((0 : Int32), tJ, upd (upd (upd alc 4208 0) 4209 0) 4210 0, zz) := by
        intro zz
        unfold fX11_set_j153 fX11_set_j158
        rw [gdN (show k < 43047 by omega) (by decide), nI_clamp (show k < 2 ^ 31 by omega), if_neg (show ¬ (1 : Int32) = 0 from by decide), cy1, bnS]
        rfl
      have keepc : ∀ zz : Nat → Int32, fX11_set_j158 (nI k) (nI v) (0 : Int32) tJ al2 zz = some ((0 : Int32), tJ, upd (upd (upd (upd al2 k (nI v)) 4208 0) 4209 0) 4210 0, zz) := by
        intro zz
        unfold fX11_set_j158
        rw [gdN (show k < 43047 by omega) (by decide), nI_clamp (show k < 2 ^ 31 by omega), if_pos (show (0 : Int32) = 0 from rfl)]
        rfl
      have lay : ∀ j, j < 9 → (¬ bi (fX10_isLayout (nI j)) = 0 ↔ (j < 2 ∨ j = 3 ∨ j = 4)) := by decide +kernel
      by_cases cl : k < 2 ∨ k = 3 ∨ k = 4
      · rw [if_neg ((lay k hk).mpr cl), cl1, bnS]
        have ey : ∀ (X Y Z : Option (Int32 × (Nat → Int32) × (Nat → Int32) × (Nat → Int32))), (if nI k < (2 : Int32) then fX11_set_j153 (nI k) (nI v) tJ al2 sz2 else (if nI k = (3 : Int32) then fX11_set_j153 (nI k) (nI v) tJ al2 sz2 else (if nI k = (4 : Int32) then fX11_set_j153 (nI k) (nI v) tJ al2 sz2 else X))) = fX11_set_j153 (nI k) (nI v) tJ al2 sz2 := by
          intro X _ _
          rcases cl with cl | cl | cl
          · rw [if_pos (show nI k < (2 : Int32) from nI_lt (b := 2) cl (by decide))]
          · subst cl; rw [if_neg (show ¬ nI 3 < (2 : Int32) from by decide), if_pos (show nI 3 = (3 : Int32) from rfl)]
          · subst cl; rw [if_neg (show ¬ nI 4 < (2 : Int32) from by decide), if_neg (show ¬ nI 4 = (3 : Int32) from by decide), if_pos (show nI 4 = (4 : Int32) from rfl)]
        rw [ey _ none none, clr]
        exact ⟨_, _, rfl, rfl, rfl, fin0 (upd (upd (upd (x.1 0) 4 (0 : Int32)) 5 (0 : Int32)) 6 (0 : Int32)) rfl rfl rfl rfl rfl⟩
      · have nl : bi (fX10_isLayout (nI k)) = 0 := by
          by_cases z : bi (fX10_isLayout (nI k)) = 0
          · exact z
          · exact absurd ((lay k hk).mp z) cl
        obtain ⟨z3, z1⟩ := y_mux hY0.2.1 ok sz2
        have z1 : fX11_mux al2 sz2 (0 : Int32) = some (mxN N w, z3) := z1
        obtain ⟨z4, z2⟩ := y_mux hYr2.2.1 ok2 z3
        have z2 : fX11_mux al2 z3 (4211 : Int32) = some (mxN (upN1 N k v) w2, z4) := z2
        rw [hmx] at z1
        rw [hmx2] at z2
        rw [if_pos nl, if_neg (show ¬ nI k < (2 : Int32) from nI_nlt (b := 2) (by omega) (by omega)), if_neg (show ¬ nI k = (3 : Int32) from fun e => by have := (nI_eq (b := 3) (by omega) (by decide)).mp e; omega), if_neg (show ¬ nI k = (4 : Int32) from fun e => by have := (nI_eq (b := 4) (by omega) (by decide)).mp e; omega)]
        dsimp only
        rw [z1, bnS]
        dsimp only
        rw [z2, bnS]
        have ex1 : t2 1 = nI (2 ^ f2) := st2.1.1
        have ex2 : x.1 11 1 = nI (2 ^ f) := hW.1
        by_cases ef : f = f2
        · subst ef
          rw [if_pos (show (t2, r2, rr2, rc2, cd2, lf2, fI3, fz3).1 1 = x.1 11 1 from ex1.trans ex2.symm), if_pos rfl, keepc]
          have ew : w = w2 := okN_w ok ok2 (by unfold upN1; rw [if_neg (by omega)])
          subst ew
          have cel2 : celR (x.1 6) (x.1 7) (upd al2 k (nI v)) 0 (upN1 N k v) w f := by
            have c2 : celR (x.1 6) (x.1 7) (upd al2 k (nI v)) 0 N w f := celR_al ok hM (fun j j1 j2 => by rw [ux_ne (by omega)]; exact al2k j (by omega)) hc
            have e1 : upN1 N k v 1 = N 1 := by unfold upN1; rw [if_neg (by omega)]
            have e3 : upN1 N k v 3 = N 3 := by unfold upN1; rw [if_neg (by omega)]
            unfold celR
            rw [e1, e3]
            exact c2
          exact ⟨_, _, rfl, rfl, rfl, fin _ _ _ (fun _ _ => rfl) cel2 (upd (upd (upd (x.1 0) 4 (0 : Int32)) 5 (0 : Int32)) 6 (0 : Int32)) rfl rfl rfl rfl rfl⟩
        · rw [if_neg (show ¬ (t2, r2, rr2, rc2, cd2, lf2, fI3, fz3).1 1 = x.1 11 1 from fun e => ef (p2_inj hM.1 hM2.1 (by rw [← ex1, ← ex2]; exact e.symm))), if_neg (fun e => ef (p2_inj hM.1 hM2.1 e)), cl1, bnS, clr]
          exact ⟨_, _, rfl, rfl, rfl, fin0 (upd (upd (upd (x.1 0) 4 (0 : Int32)) 5 (0 : Int32)) 6 (0 : Int32)) rfl rfl rfl rfl rfl⟩
    · -- a BAD cell outside
      rw [if_neg (show ¬ (6 : Int32) = 0 from by decide), if_neg (show ¬ (6 : Int32) ≤ 0 from by decide)]
      unfold fX11_refused fX10_refuseUnfit fX10_accept
      rw [bnS, bnS, if_pos (show (6 : Int32) = (6 : Int32) from rfl), bnS, if_pos (show (6 : Int32) = (6 : Int32) from rfl)]
      exact ⟨_, _, rfl, rfl, rfl, wr (upd (upd (upd (upd (upd (x.1 0) 4 (0 : Int32)) 5 (0 : Int32)) 6 (0 : Int32)) 4 (4 : Int32)) 5 (6 : Int32)) (upd (upd (upd (upd (upd a4 (4211 + k) (nI v)) 4208 (4 : Int32)) 4209 (6 : Int32)) 4210 (0 : Int32)) 4210 (0 : Int32)) rfl rfl rfl rfl rfl (fun j hj => by
        show upd (upd (upd (upd _ 4208 _) 4209 _) 4210 _) 4210 _ j = _
        rw [ux_ne (by omega), ux_ne (by omega), ux_ne (by omega), ux_ne (by omega)])⟩
    · -- the mux is not possible
      have hrw : fX11_rows (upd (upd (upd (upd a4 (4211 + k) (nI v)) 4208 (4 : Int32)) 4209 (5 : Int32)) 4210 (0 : Int32)) (4211 : Int32) (upd (upd (upd (upd a4 (4211 + k) (nI v)) 4208 (4 : Int32)) 4209 (5 : Int32)) 4210 (0 : Int32) 4213) = some (nI (2 ^ (w2 - f2))) := by
        have hYr3 : memY (upd (upd (upd (upd a4 (4211 + k) (nI v)) 4208 (4 : Int32)) 4209 (5 : Int32)) 4210 (0 : Int32)) 4211 (upN1 N k v) R C B nb := memY_cong hb (by decide) (fun j hj => by rw [ux_ne (by omega), ux_ne (by omega), ux_ne (by omega)]) hYr
        have e2 := hYr3.2.1.2 2 (by decide)
        rw [hN2] at e2
        have e2 : upd (upd (upd (upd a4 (4211 + k) (nI v)) 4208 (4 : Int32)) 4209 (5 : Int32)) 4210 (0 : Int32) 4213 = nI (2 ^ f2) := e2
        rw [e2]
        exact y_rows hYr3.2.1 ok2 hf2
      have hp := pw10 (show w2 - f2 ≤ 10 by have := ok2.2.2.1; omega)
      rcases hv2 with ⟨rfl, hv3⟩ | ⟨rfl, hv3⟩
      · have g1 : 2 ^ (w2 - f2) < 8 := Nat.pow_lt_pow_right (a := 2) (by decide) (show w2 - f2 < 3 by omega)
        rw [if_neg (show ¬ (7 : Int32) = 0 from by decide), if_neg (show ¬ (5 : Int32) ≤ 0 from by decide)]
        unfold fX11_refused fX10_refuseUnfit fX10_accept
        rw [bnS, bnS, if_neg (show ¬ (7 : Int32) = (6 : Int32) from by decide), bnS, if_neg (show ¬ (5 : Int32) = (6 : Int32) from by decide)]
        dsimp only
        rw [hrw, bnS, if_neg (show ¬ (8 : Int32) ≤ nI (2 ^ (w2 - f2)) from nI_ge (b := 8) g1 (by decide))]
        exact ⟨_, _, rfl, rfl, rfl, wr (upd (upd (upd (upd (upd (upd (x.1 0) 4 (0 : Int32)) 5 (0 : Int32)) 6 (0 : Int32)) 4 (4 : Int32)) 5 (5 : Int32)) 6 (7 : Int32)) (upd (upd (upd (upd (upd a4 (4211 + k) (nI v)) 4208 (4 : Int32)) 4209 (5 : Int32)) 4210 (0 : Int32)) 4210 (7 : Int32)) rfl rfl rfl rfl rfl (fun j hj => by
          show upd (upd (upd (upd _ 4208 _) 4209 _) 4210 _) 4210 _ j = _
          rw [ux_ne (by omega), ux_ne (by omega), ux_ne (by omega), ux_ne (by omega)])⟩
      · have g1 : 1024 ≤ 2 ^ (w2 - f2) := Nat.pow_le_pow_right (n := 2) (by decide) (show 10 ≤ w2 - f2 by omega)
        rw [if_neg (show ¬ (8 : Int32) = 0 from by decide), if_neg (show ¬ (5 : Int32) ≤ 0 from by decide)]
        unfold fX11_refused fX10_refuseUnfit fX10_accept
        rw [bnS, bnS, if_neg (show ¬ (8 : Int32) = (6 : Int32) from by decide), bnS, if_neg (show ¬ (5 : Int32) = (6 : Int32) from by decide)]
        dsimp only
        rw [hrw, bnS, if_pos (show (8 : Int32) ≤ nI (2 ^ (w2 - f2)) from nI_le (a := 8) (by omega) (by omega))]
        exact ⟨_, _, rfl, rfl, rfl, wr (upd (upd (upd (upd (upd (upd (x.1 0) 4 (0 : Int32)) 5 (0 : Int32)) 6 (0 : Int32)) 4 (4 : Int32)) 5 (5 : Int32)) 6 (8 : Int32)) (upd (upd (upd (upd (upd a4 (4211 + k) (nI v)) 4208 (4 : Int32)) 4209 (5 : Int32)) 4210 (0 : Int32)) 4210 (8 : Int32)) rfl rfl rfl rfl rfl (fun j hj => by
          show upd (upd (upd (upd _ 4208 _) 4209 _) 4210 _) 4210 _ j = _
          rw [ux_ne (by omega), ux_ne (by omega), ux_ne (by omega), ux_ne (by omega)])⟩
