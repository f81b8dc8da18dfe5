/-! ===== view, agree ===== -/
theorem j_ask {tI tb yI v : Nat → Int32} (h : jT 400 tI tb yI v) (p1 : Int32) (fI fz sz gr gc nr : Nat → Int32) : ∃ r, fX10_view_j38 p1 fI fz tI tb = some (r, fI, fz, tI, tb) ∧ (if p1 = (-1 : Int32) then some ((yI 21), yI, sz, gr, gc, nr, v) else (if (bi (fX11_isIn p1 (0 : Int32) ((yI 21) - (1 : Int32)))) = 0 then some ((-1 : Int32), yI, sz, gr, gc, nr, v) else gd (gi p1 600) (some ((v p1.toNatClampNeg), yI, sz, gr, gc, nr, v)))) = some (r, yI, sz, gr, gc, nr, v) := by
  obtain ⟨L, h1, h2, h3, h4⟩ := h
  unfold fX10_view_j38
  rw [h3.1, h4.1]
  by_cases c : p1 = (-1 : Int32)
  · rw [if_pos c, if_pos c]; exact ⟨_, rfl, rfl⟩
  · rw [if_neg c, if_neg c]
    rcases inM p1 (n := L.length) (by omega) with ⟨q1, q2⟩ | ⟨j, q1, q2, q3⟩
    · rw [if_pos q1]
      rcases q2 with q2 | ⟨q2, q3⟩
      · rw [if_pos q2]; exact ⟨_, rfl, rfl⟩
      · rw [if_neg q2, if_neg (fun z => (fa_of_lt z).2.1 q3)]; exact ⟨_, rfl, rfl⟩
    · subst q2
      rw [if_neg q3, if_neg (nI_pos (by omega)), if_pos (nI_lt q1 (by omega)), gdN (by omega) (by decide), gdN (by omega) (by decide), nI_clamp (by omega), h3.2 j q1, h4.2 j q1]
      exact ⟨_, rfl, rfl⟩
theorem sim_view : Sim_view Rel := by
  intro x y p0 p1 h
  have h' := h
  obtain ⟨⟨N, R, C, B, w, f, nb, ⟨hP, hX, hY, hc⟩, hwr⟩, -⟩ := h'
  unfold fX10_view fX11_view
  rcases inN p0 (n := 1) (by decide) with ⟨q1, q2⟩ | ⟨j, q1, q2, q3⟩
  · have q1 : bi (fX11_isIn p0 (0 : Int32) (1 : Int32)) = 0 := q1
    have n0 : ¬ p0 = (0 : Int32) := by rintro rfl; rcases q2 with q | ⟨-, q⟩ <;> exact absurd q (by decide)
    have n1 : ¬ p0 = (1 : Int32) := by rintro rfl; rcases q2 with q | ⟨-, q⟩ <;> exact absurd q (by decide)
    rw [if_pos q1, if_neg n0, if_neg n1]
    exact ⟨_, _, rfl, rfl, rfl, h⟩
  · have q3 : ¬ bi (fX11_isIn p0 (0 : Int32) (1 : Int32)) = 0 := q3
    rw [if_neg q3]
    have e : j = 0 ∨ j = 1 := by omega
    rcases e with e | e <;> subst e <;> subst q2
    · obtain ⟨tJ, tb2, yJ, sz2, gr2, gc2, nr2, v2, u1, u2, u3, u4⟩ := j_spec hP hX.1 hX.2 hY (x.1 32) (x.1 33) (y.1 0) (y.1 4) (y.1 5) (y.1 6) (y.1 7) (y.1 8)
      have u1 : fX8_tellSpec (x.1 32) (x.1 33) (x.1 1) (x.1 2) (x.1 3) (x.1 4) (x.1 5) = some (tJ, tb2) := u1
      have u2 : fX11_laysView (y.1 0) (y.1 1) (y.1 4) (y.1 5) (y.1 6) (y.1 7) (y.1 8) (nI 0) = some (yJ, sz2, gr2, gc2, nr2, v2) := u2
      obtain ⟨r, w1, w2⟩ := j_ask u3 p1 (x.1 17) (x.1 18) sz2 gr2 gc2 nr2
      rw [if_pos (show nI 0 = 0 from rfl), u1, bnS, u2, bnS]
      refine ⟨_, _, w1, w2, rfl, ?_⟩
      exact RelC_y0 u4 h
    · obtain ⟨fI2, fz2, tJ, tb2, yJ, sz2, gr2, gc2, nr2, v2, u1, u2, u3, u4⟩ := j_made hP hX.1 hY hwr (x.1 17) (x.1 18) (x.1 32) (x.1 33) (y.1 0) (y.1 4) (y.1 5) (y.1 6) (y.1 7) (y.1 8)
      have u1 : fX10_tellMade (x.1 2) (x.1 11) (x.1 12) (x.1 17) (x.1 18) (x.1 32) (x.1 33) = some (fI2, fz2, tJ, tb2) := u1
      have u2 : fX11_laysView (y.1 0) (y.1 1) (y.1 4) (y.1 5) (y.1 6) (y.1 7) (y.1 8) (nI 1) = some (yJ, sz2, gr2, gc2, nr2, v2) := u2
      obtain ⟨r, w1, w2⟩ := j_ask u3 p1 fI2 fz2 sz2 gr2 gc2 nr2
      rw [if_neg (show ¬ nI 1 = 0 from by decide), if_pos (show nI 1 = (1 : Int32) from rfl), u1, bnS, u2, bnS]
      refine ⟨_, _, w1, w2, rfl, ?_⟩
      exact RelC_y0 u4 h
theorem byt : ∀ v, v < 256 → (v < 128 → (nI v).toInt8.toInt32 = nI v) ∧ (128 ≤ v → (nI v).toInt8.toInt32 < 0) := by decide +kernel
theorem byt_eq {v c : Nat} (hv : v < 256) (hc : c < 128) : (nI v).toInt8.toInt32 = nI c ↔ v = c := by
  have h := byt v hv
  by_cases q : v < 128
  · rw [h.1 q, nI_eq (by omega) (by omega)]
  · constructor
    · intro e
      have := h.2 (by omega)
      rw [e] at this
      exact absurd this (nI_pos (by omega))
    · intro e; omega
theorem sim_agree : Sim_agree Rel := by
  intro x y h
  have h' := h
  obtain ⟨⟨N, R, C, B, w, f, nb, hm, hwr⟩, hwhy, ⟨n, t1, t2, t3, t4, t5⟩, hflt, hpst, himg⟩ := h'
  have hm' := hm
  obtain ⟨hP, hX, hY, hc⟩ := hm'
  have t2 : x.1 8 1 = nI n := t2
  have t3 : y.1 0 3 = nI n := t3
  obtain ⟨fI2, fz2, tJ, tb2, yJ, sz2, gr2, gc2, nr2, v2, u1, u2, u3, u4⟩ := j_made hP hX.1 hY hwr (x.1 17) (x.1 18) (x.1 32) (x.1 33) (upd (y.1 0) 3 (0 : Int32)) (y.1 4) (y.1 5) (y.1 6) (y.1 7) (y.1 8)
  have u1 : fX10_tellMade (x.1 2) (x.1 11) (x.1 12) (x.1 17) (x.1 18) (x.1 32) (x.1 33) = some (fI2, fz2, tJ, tb2) := u1
  obtain ⟨L, l1, l2, l3, l4⟩ := u3
  unfold fX10_agree fX11_agree
  rw [u1, bnS, u2, bnS, t2, t3, show (fI2, fz2, tJ, tb2).2.2.1 1 = nI L.length from l3.1]
  have emin : (if nI L.length < nI n then nI L.length else nI n) = nI (if L.length < n then L.length else n) := by
    by_cases c : L.length < n
    · rw [if_pos (nI_lt c (by omega)), if_pos c]
    · rw [if_neg (nI_nlt (by omega) (by omega)), if_neg c]
  rw [emin]
  generalize hM : (if L.length < n then L.length else n) = M
  have hMn : M ≤ n := by rw [← hM]; split <;> omega
  have hML : M ≤ L.length := by rw [← hM]; split <;> omega
  have hM3 : M = n ∨ M = L.length := by rw [← hM]; split <;> omega
  have fin : ∀ (z0 : Nat → Int32), (∀ i, i < 11 → z0 i = upd (y.1 0) 3 (0 : Int32) i) → RelC (x.1 0) (x.1 1, x.1 2, x.1 3, x.1 4, x.1 5, x.1 6, x.1 7) (upd (x.1 8) 1 (0 : Int32)) (x.1 9) (x.1 10) (x.1 11) (x.1 12) (x.1 13) (x.1 14) x.2.1 x.2.2 z0 (y.1 1) (y.1 2) (y.1 3) := by
    intro z0 hz
    refine RelC_y0 hz ⟨⟨N, R, C, B, w, f, nb, hm, hwr⟩, hwhy, ⟨0, by decide, ux_at _ _ _, ux_at _ _ _, t4, fun i hi => absurd hi (Nat.not_lt_zero i)⟩, hflt, hpst, himg⟩
  have loop : ∀ (d F G i : Nat), i + d = M → d < F → d < G → ∃ (r : Int32), fX10_agree_l27 (nI M) (x.1 9) tb2 F (nI i) = some r ∧ ((fX11_agree_l17 (nI n) yJ (y.1 2) sz2 gr2 gc2 nr2 v2 G (nI i) = some (.inl ()) ∧ r = nI n ∧ r = nI L.length) ∨ (fX11_agree_l17 (nI n) yJ (y.1 2) sz2 gr2 gc2 nr2 v2 G (nI i) = some (.inr (r, yJ, sz2, gr2, gc2, nr2, v2)) ∧ ¬ (r = nI n ∧ r = nI L.length))) := by
    intro d
    induction d with
    | zero =>
      intro F G i e1 e2 e3
      obtain ⟨F, rfl⟩ : ∃ G, F = G + 1 := ⟨F - 1, by omega⟩
      obtain ⟨G, rfl⟩ : ∃ F, G = F + 1 := ⟨G - 1, by omega⟩
      have ei : i = M := by omega
      subst ei
      refine ⟨nI i, ?_, ?_⟩
      · rw [fX10_agree_l27, if_pos (nI_le (Nat.le_refl _) (by omega))]
      · rw [fX11_agree_l17, l4.1]
        by_cases c1 : i < n
        · have c2 : i = L.length := by omega
          rw [if_pos (nI_lt c1 (by omega)), if_neg (nI_ge c1 (by omega)), if_pos (nI_le (by omega) (by omega))]
          exact .inr ⟨rfl, fun z => by have := (nI_eq (by omega) (by omega)).mp z.1; omega⟩
        · have c3 : i = n := by omega
          rw [if_neg (nI_nlt (by omega) (by omega))]
          by_cases c2 : L.length ≤ i
          · rw [if_pos (nI_le c2 (by omega))]
            exact .inl ⟨rfl, by rw [c3], by rw [show i = L.length from by omega]⟩
          · rw [if_neg (nI_ge (by omega) (by omega)), if_pos (nI_le (by omega) (by omega))]
            exact .inr ⟨rfl, fun z => by have := (nI_eq (by omega) (by omega)).mp z.2; omega⟩
    | succ d ih =>
      intro F G i e1 e2 e3
      obtain ⟨F, rfl⟩ : ∃ G, F = G + 1 := ⟨F - 1, by omega⟩
      obtain ⟨G, rfl⟩ : ∃ F, G = F + 1 := ⟨G - 1, by omega⟩
      obtain ⟨v, v1, v3, v4⟩ := t5 i (by omega)
      have v3 : y.1 2 i = nI v := v3
      have v4 : x.1 9 i = (nI v).toInt8.toInt32 := v4
      have hL := l2 i (by omega)
      rw [fX10_agree_l27, if_neg (nI_ge (by omega) (by omega)), gdN (by omega) (by decide), gdN (by omega) (by decide), nI_clamp (by omega), v4, l3.2 i (by omega), fX11_agree_l17, l4.1, if_pos (nI_lt (by omega) (by omega)), if_neg (nI_ge (by omega) (by omega)), if_neg (nI_ge (by omega) (by omega)), gdN (by omega) (by decide), gdN (by omega) (by decide), nI_clamp (by omega), v3, l4.2 i (by omega), show nI i + (1 : Int32) = nI (i + 1) from nI_1 i]
      by_cases c : v = L.getD i 0
      · rw [if_pos ((byt_eq v1 hL).mpr c), if_pos (by rw [c])]
        exact ih F G (i + 1) (by omega) (by omega) (by omega)
      · rw [if_neg (fun z => c ((byt_eq v1 hL).mp z)), if_neg (fun z => c ((nI_eq (by omega) (by omega)).mp z))]
        exact ⟨nI i, rfl, .inr ⟨rfl, fun z => by have := (nI_eq (by omega) (by omega)).mp z.1; omega⟩⟩
  obtain ⟨r, r1, r2⟩ := loop M FU FU 0 (by omega) (by show _ < 4294967296; omega) (by show _ < 4294967296; omega)
  have r1 : fX10_agree_l27 (nI M) (x.1 9) tb2 FU (0 : Int32) = some r := r1
  dsimp only
  rw [r1, bnS]
  rcases r2 with ⟨r2, r3, r4⟩ | ⟨r2, r3⟩
  · have r2 : fX11_agree_l17 (nI n) yJ (y.1 2) sz2 gr2 gc2 nr2 v2 FU (0 : Int32) = some (.inl ()) := r2
    rw [r2, bnS, if_pos r3, if_pos r4, if_neg (show ¬ (1 : Int32) = 0 from by decide)]
    exact ⟨_, _, rfl, rfl, rfl, fin yJ u4⟩
  · have r2 : fX11_agree_l17 (nI n) yJ (y.1 2) sz2 gr2 gc2 nr2 v2 FU (0 : Int32) = some (.inr (r, yJ, sz2, gr2, gc2, nr2, v2)) := r2
    have ez : (if r = nI n then (if r = nI L.length then (1 : Int32) else (0 : Int32)) else (0 : Int32)) = 0 := by
      by_cases a : r = nI n
      · rw [if_pos a, if_neg (fun b => r3 ⟨a, b⟩)]
      · rw [if_neg a]
    rw [r2, bnS, ez, if_pos rfl]
    exact ⟨_, _, rfl, rfl, rfl, fin yJ u4⟩
