/-! ===== numbers of a line ===== -/
theorem okV_lt {k v : Nat} (hk : k < 9) (h : okV k v) : v ≤ 1024 := by
  have e : k = 0 ∨ k = 1 ∨ k = 2 ∨ k = 3 ∨ k = 4 ∨ k = 5 ∨ k = 6 ∨ k = 7 ∨ k = 8 := by omega
  rcases e with e | e | e | e | e | e | e | e | e <;> subst e
  · obtain ⟨e, e1, e2, e3⟩ := h
    have : 2 ^ e ≤ 2 ^ 10 := Nat.pow_le_pow_right (by decide) e2
    omega
  · have h : 1 ≤ v ∧ v ≤ 32 := h
    omega
  · rcases h with h | ⟨f, f1, f2⟩
    · omega
    · have : 2 ^ f ≤ 2 ^ 3 := Nat.pow_le_pow_right (by decide) f1
      omega
  · have h : v ≤ 4 := h
    omega
  · have h : v ≤ 2 := h
    omega
  · have h : 1 ≤ v ∧ v ≤ 20 := h
    omega
  · have h : 1 ≤ v ∧ v ≤ 20 := h
    omega
  · have h : v ≤ 100 := h
    omega
  · have h : v ≤ 2 := h
    omega
section NUM_
variable {n : Nat} {vb : Nat → Nat} {sI sb yt : Nat → Int32}
/-- how a piece of the text ends: on both sides the same -/
def goOn (n : Nat) (vb : Nat → Nat) (p : Nat) (r : Bool) (tJ yJ toldJ numsJ brJ bcJ bbJ alJ : Nat → Int32) (val : Int64) : Prop := (r = true ∧ ∃ p2 e2 kd2, p < p2 ∧ tokR n vb tJ yJ val p2 e2 kd2 ∧ stP tJ yJ toldJ numsJ brJ bcJ bbJ alJ p2) ∨ (r = false ∧ stpd tJ yJ)
theorem goOn_le {p q : Nat} {r : Bool} {tJ yJ toldJ numsJ brJ bcJ bbJ alJ : Nat → Int32} {val : Int64} (hl : p ≤ q) (h : goOn n vb q r tJ yJ toldJ numsJ brJ bcJ bbJ alJ val) : goOn n vb p r tJ yJ toldJ numsJ brJ bcJ bbJ alJ val := by
  rcases h with ⟨h1, p2, e2, kd2, h2, h3⟩ | h
  · exact .inl ⟨h1, p2, e2, kd2, by omega, h3⟩
  · exact .inr h
theorem stpd_of {tI yI : Nat → Int32} {val : Int64} {p e kd : Nat} (hn : n ≤ 300) (ht : tokR n vb tI yI val p e kd) : stpd tI (upd (upd yI 4 (1 : Int32)) 5 (yI 25)) := by
  obtain ⟨t4, y24, t5, y25, t6, y23, pe, en, -⟩ := ht
  exact ⟨p, by omega, t5, rfl, by rw [ux_at, y25]⟩
theorem kpY_st (yI : Nat → Int32) (x : Int32) : kpY yI (upd (upd yI 4 (1 : Int32)) 5 x) := ⟨rfl, rfl, rfl⟩
theorem n_one (hs : srcR n vb sI sb yt) {tI yI toldI nums br bc bb al : Nat → Int32} {val : Int64} {k p e : Nat} (hk : k < 9) (ht : tokR n vb tI yI val p e 2) (h22 : yI 22 = nI n) (hp : stP tI yI toldI nums br bc bb al p) : ∃ tJ nums2 yJ val2 al2 p2 e2 kd2, (∀ (α : Type) (K : (Nat → Int32) → (Nat → Int32) → Option α), (bn (fX10_canBe (nI k) (tI 7)) fun a7 => (if (bi a7) = 0 then bn (fX2_note tI (2 : Int32) (tI 5)) fun a10 => bn (fX2_next a10 sI sb) fun a12 => K a12 nums else gd (gi (nI k) 9) (bn (fX2_next tI sI sb) fun a15 => K a15 (upd nums (nI k).toNatClampNeg (tI 7))))) = K tJ nums2) ∧ fX11_one yI val al yt (nI k) = some (yJ, val2, al2) ∧ p < p2 ∧ tokR n vb tJ yJ val2 p2 e2 kd2 ∧ stP tJ yJ toldI nums2 br bc bb al2 p2 ∧ kpY yI yJ ∧ kpA al al2 := by
  have h1 := hs.1
  obtain ⟨N, w, o, nb, R, C, B, nb2, R2, C2, B2, g1, g2, g3, g4, g5, g6, g7, g8, g9, g10, g11⟩ := hp
  have ht' := ht
  obtain ⟨t4, y24, t5, y25, t6, y23, pe, en, -, pl, -⟩ := ht'
  have pl := pl (by decide)
  by_cases c : fX11_canBe (nI k) (tI 7) = true
  · obtain ⟨v, tJ, yJ, val2, p2, e2, kd2, v1, v2, q1, q2, q3, q4, q5, q6, q7, q8⟩ := y_numeral hs (tc := tI) (G := 999999) ht g5 g6 h22 rfl (by decide)
    rw [if_pos v1] at q7 q8
    have q7 : fX11_numeral yI val yt (0 : Int32) (999999 : Int32) = some (nI v, yJ, val2) := q7
    have cv := c
    rw [v2] at cv
    obtain ⟨k2, u2, z1, z2, z3, z4⟩ := canBe_ok cv
    have ek : k = k2 := (nI_eq (by omega) (by omega)).mp z2
    have ev : v = u2 := by
      have := okV_lt z1 z4
      exact (nI_eq (by omega) (by omega)).mp z3
    subst ek ev
    obtain ⟨w2, ok2⟩ := okN_up g1 hk z4
    refine ⟨tJ, upd nums k (nI v), yJ, val2, upd al (4211 + k) (nI v), p2, e2, kd2, fun α K => ?_, ?_, by omega, q4, ⟨upN1 N k v, w2, o, nb, R, C, B, nb2, R2, C2, B2, ok2, fun j hj => ?_, fun j hj => ?_, fx_same g4 (q2 1 (by decide)) (q2 2 (by decide)), q8, foB_le g6 (by omega), g7, g8, g9, ?_, g11⟩, q6, fun j hj => by rw [ux_ne (by omega)]⟩
    · rw [canBe_eq, bnS, if_neg (bi_t c), gdN hk (by decide), q1, bnS, nI_clamp (by omega), v2]
    · unfold fX11_one
      rw [q7, bnS]
      dsimp only
      rw [gd_y (fy_good q8), if_neg (show ¬ bi true = 0 from by decide), if_neg (bi_t cv), show (4211 : Int32) + nI k = nI (4211 + k) from nI_add 4211 k, gdN (by omega) (by decide), nI_clamp (by omega)]
    · by_cases ej : j = k
      · subst ej; rw [ux_at]; unfold upN1; rw [if_pos rfl]
      · rw [ux_ne ej, g2 j hj]; unfold upN1; rw [if_neg ej]
    · by_cases ej : j = k
      · subst ej; rw [ux_at]; unfold upN1; rw [if_pos rfl]
      · rw [ux_ne (by omega), g3 j hj]; unfold upN1; rw [if_neg ej]
    · exact ⟨by rw [ux_ne (by omega)]; exact g10.1, fun j hj => by rw [ux_ne (by omega), ux_ne (by omega), ux_ne (by omega)]; exact g10.2 j hj⟩
  · obtain ⟨tK, n1, n2, n3⟩ := x_note (k := 2) (p := p) g4 (by decide) (by decide) (by omega)
    have n1 : fX2_note tI (2 : Int32) (nI p) = some tK := n1
    obtain ⟨v, tJ, yJ, val2, p2, e2, kd2, v1, v2, q1, q2, q3, q4, q5, q6, q7, q8⟩ := y_numeral hs (tc := tK) (G := 999999) ht g5 g6 h22 (n3 6 (by decide) (by decide)) (by decide)
    rw [if_pos v1] at q7 q8
    have q7 : fX11_numeral yI val yt (0 : Int32) (999999 : Int32) = some (nI v, yJ, val2) := q7
    obtain ⟨yK, s1, s2, s3⟩ := y_fail (k := 2) (p := p) q8 g6 (by decide) (by decide) (by omega)
    have s1 : fX11_fails yJ (2 : Int32) (nI p) = some yK := s1
    refine ⟨tJ, nums, yK, val2, al, p2, e2, kd2, fun α K => ?_, ?_, by omega, tok_f q4 s3, ⟨N, w, ntF o 2 p, nb, R, C, B, nb2, R2, C2, B2, g1, g2, g3, fx_same n2 (q2 1 (by decide)) (q2 2 (by decide)), s2, foB_le (foB_nt g6) (by omega), g7, g8, g9, g10, fun z => ?_⟩, kpY_tr q6 (kpY_f s3), kpA_rf _⟩
    · rw [canBe_eq, bnS, if_pos (bi_f c), t5, n1, bnS, q1, bnS]
    · unfold fX11_one
      rw [q7, bnS]
      rw [v2] at c
      dsimp only
      rw [gd_y (fy_good q8), if_neg (show ¬ bi true = 0 from by decide), if_pos (bi_f c), q5, s1, bnS]
    · cases o with
      | none => cases z
      | some x => cases z
theorem n_one_no (hs : srcR n vb sI sb yt) {tI yI al : Nat → Int32} {val : Int64} {p e kd : Nat} {o : FO} (ht : tokR n vb tI yI val p e kd) (hkd : kd ≠ 2) (hf : fy yI o) (k : Int32) : fX11_one yI val al yt k = some (upd (upd yI 4 (1 : Int32)) 5 (yI 25), val, al) := by
  obtain ⟨t4, y24, t5, y25, t6, y23, pe, en, k4, -⟩ := ht
  unfold fX11_one
  rw [y_numeral_no hf y24 hkd k4, bnS]
  dsimp only
  rw [gd_n (show upd (upd yI 4 (1 : Int32)) 5 (yI 25) 4 = 1 from rfl), if_pos (show bi false = 0 from rfl)]
theorem l6_end {i c : Nat} (hi : i < 8) (h4 : (sV 4).getD i 0 = nI c) (hc : c < 9) (F : Nat) (t m : Nat → Int32) : fX2_takeNumbers_l6 (nI i) sI sb (F + 1) (nI c) t m = some (.inl (t, m)) := by
  rw [fX2_takeNumbers_l6, gdN hi (by decide), nI_clamp (by omega), h4, if_pos (nI_le (Nat.le_refl _) (by omega))]
theorem l6_no {i c j : Nat} (hi : i < 8) (h4 : (sV 4).getD i 0 = nI c) (hc : c < 9) (hj : j < c) (F : Nat) (t m : Nat → Int32) (h : ¬ t 4 = (2 : Int32)) : fX2_takeNumbers_l6 (nI i) sI sb (F + 1) (nI j) t m = some (.inr (false, t, m)) := by
  rw [fX2_takeNumbers_l6, gdN hi (by decide), nI_clamp (by omega), h4, if_neg (nI_ge hj (by omega)), if_neg h]
theorem l6_go {i c j b : Nat} (hi : i < 8) (h4 : (sV 4).getD i 0 = nI c) (h3 : (sV 3).getD i 0 = nI b) (hc : c < 9) (hj : j < c) (F : Nat) (t m : Nat → Int32) (h : t 4 = (2 : Int32)) : fX2_takeNumbers_l6 (nI i) sI sb (F + 1) (nI j) t m = (bn (fX10_canBe (nI (b + j)) (t 7)) fun a7 => (if (bi a7) = 0 then bn (fX2_note t (2 : Int32) (t 5)) fun a10 => bn (fX2_next a10 sI sb) fun a12 => fX2_takeNumbers_l6 (nI i) sI sb F (nI (j + 1)) a12 m else gd (gi (nI (b + j)) 9) (bn (fX2_next t sI sb) fun a15 => fX2_takeNumbers_l6 (nI i) sI sb F (nI (j + 1)) a15 (upd m (nI (b + j)).toNatClampNeg (t 7))))) := by
  rw [fX2_takeNumbers_l6, gdN hi (by decide), nI_clamp (by omega), h4, if_neg (nI_ge hj (by omega)), if_pos h, gdN hi (by decide), h3, nI_add, show nI j + (1 : Int32) = nI (j + 1) from nI_1 j]
theorem kd2 {tI yI : Nat → Int32} {val : Int64} {p e kd : Nat} (ht : tokR n vb tI yI val p e kd) : tI 4 = (2 : Int32) ↔ kd = 2 := by
  obtain ⟨t4, y24, t5, y25, t6, y23, pe, en, k4, -⟩ := ht
  rw [t4]
  exact nI_eq (b := 2) (by omega) (by decide)
/-- one number -/
theorem n_num1 (hs : srcR n vb sI sb yt) {tI yI toldI nums br bc bb al : Nat → Int32} {val : Int64} {i k p e kd : Nat} (hi : i < 8) (h4 : (sV 4).getD i 0 = nI 1) (h3 : (sV 3).getD i 0 = nI k) (hk : k < 9) (ht : tokR n vb tI yI val p e kd) (h22 : yI 22 = nI n) (hp : stP tI yI toldI nums br bc bb al p) (F : Nat) : ∃ r tJ nums2 yJ val2 al2, ((fX2_takeNumbers_l6 (nI i) sI sb (F + 3) (0 : Int32) tI nums = some (.inl (tJ, nums2)) ∧ r = true) ∨ (fX2_takeNumbers_l6 (nI i) sI sb (F + 3) (0 : Int32) tI nums = some (.inr (false, tJ, nums2)) ∧ r = false)) ∧ fX11_one yI val al yt (nI k) = some (yJ, val2, al2) ∧ goOn n vb p r tJ yJ toldI nums2 br bc bb al2 val2 ∧ kpY yI yJ ∧ kpA al al2 := by
  have h1 := hs.1
  by_cases c : kd = 2
  · subst c
    obtain ⟨tJ, nums2, yJ, val2, al2, p2, e2, kd3, q1, q2, q3, q4, q5, q6, q7⟩ := n_one hs hk ht h22 hp
    refine ⟨true, tJ, nums2, yJ, val2, al2, .inl ⟨?_, rfl⟩, q2, .inl ⟨rfl, p2, e2, kd3, q3, q4, q5⟩, q6, q7⟩
    rw [show (0 : Int32) = nI 0 from rfl, show F + 3 = (F + 2) + 1 from rfl, l6_go hi h4 h3 (by decide) (by decide) _ _ _ ((kd2 ht).mpr rfl)]
    rw [show k + 0 = k from rfl, q1 _ (fun a m => fX2_takeNumbers_l6 (nI i) sI sb (F + 2) (nI (0 + 1)) a m)]
    exact l6_end hi h4 (by decide) _ _ _
  · obtain ⟨N, w, o, nb, R, C, B, nb2, R2, C2, B2, g1, g2, g3, g4, g5, g6, g7⟩ := hp
    exact ⟨false, tI, nums, _, _, _, .inr ⟨l6_no (j := 0) hi h4 (by decide) (by decide) _ _ _ (fun z => c ((kd2 ht).mp z)), rfl⟩, n_one_no hs ht c g5 _, .inr ⟨rfl, stpd_of h1 ht⟩, kpY_st _ _, kpA_rf _⟩
/-- two numbers -/
theorem n_num2 (hs : srcR n vb sI sb yt) {tI yI toldI nums br bc bb al : Nat → Int32} {val : Int64} {i k p e kd : Nat} (hi : i < 8) (h4 : (sV 4).getD i 0 = nI 2) (h3 : (sV 3).getD i 0 = nI k) (hk : k < 8) (ht : tokR n vb tI yI val p e kd) (h22 : yI 22 = nI n) (hp : stP tI yI toldI nums br bc bb al p) (F : Nat) : ∃ r tJ nums2 yA vA aA yJ val2 al2, ((fX2_takeNumbers_l6 (nI i) sI sb (F + 3) (0 : Int32) tI nums = some (.inl (tJ, nums2)) ∧ r = true) ∨ (fX2_takeNumbers_l6 (nI i) sI sb (F + 3) (0 : Int32) tI nums = some (.inr (false, tJ, nums2)) ∧ r = false)) ∧ fX11_one yI val al yt (nI k) = some (yA, vA, aA) ∧ fX11_one yA vA aA yt (nI (k + 1)) = some (yJ, val2, al2) ∧ goOn n vb p r tJ yJ toldI nums2 br bc bb al2 val2 ∧ kpY yI yJ ∧ kpA al al2 := by
  have h1 := hs.1
  by_cases c : kd = 2
  · subst c
    obtain ⟨tJ, nums2, yJ, val2, al2, p2, e2, kd3, q1, q2, q3, q4, q5, q6, q7⟩ := n_one hs (show k < 9 by omega) ht h22 hp
    have go : fX2_takeNumbers_l6 (nI i) sI sb (F + 3) (0 : Int32) tI nums = fX2_takeNumbers_l6 (nI i) sI sb (F + 2) (nI (0 + 1)) tJ nums2 := by
      rw [show (0 : Int32) = nI 0 from rfl, show F + 3 = (F + 2) + 1 from rfl, l6_go hi h4 h3 (by decide) (by decide) _ _ _ ((kd2 ht).mpr rfl)]
      rw [show k + 0 = k from rfl, q1 _ (fun a m => fX2_takeNumbers_l6 (nI i) sI sb (F + 2) (nI (0 + 1)) a m)]
    rw [go]
    by_cases c2 : kd3 = 2
    · subst c2
      obtain ⟨tL, nums3, yL, val3, al3, p3, e3, kd4, r1, r2, r3, r4, r5, r6, r7⟩ := n_one hs (show k + 1 < 9 by omega) q4 (q6.2.2.trans h22) q5
      refine ⟨true, tL, nums3, yJ, val2, al2, yL, val3, al3, .inl ⟨?_, rfl⟩, q2, r2, .inl ⟨rfl, p3, e3, kd4, by omega, r4, r5⟩, kpY_tr q6 r6, kpA_tr q7 r7⟩
      rw [show F + 2 = (F + 1) + 1 from rfl, l6_go hi h4 h3 (by decide) (by decide) _ _ _ ((kd2 q4).mpr rfl)]
      rw [show k + (0 + 1) = k + 1 from rfl, r1 _ (fun a m => fX2_takeNumbers_l6 (nI i) sI sb (F + 1) (nI (0 + 1 + 1)) a m)]
      exact l6_end hi h4 (by decide) _ _ _
    · obtain ⟨N, w, o, nb, R, C, B, nb2, R2, C2, B2, g1, g2, g3, g4, g5, g6, g7⟩ := q5
      exact ⟨false, tJ, nums2, _, _, _, _, _, _, .inr ⟨l6_no (j := 0 + 1) hi h4 (by decide) (by decide) _ _ _ (fun z => c2 ((kd2 q4).mp z)), rfl⟩, q2, n_one_no hs q4 c2 g5 _, .inr ⟨rfl, stpd_of h1 q4⟩, kpY_tr q6 (kpY_st _ _), q7⟩
  · obtain ⟨N, w, o, nb, R, C, B, nb2, R2, C2, B2, g1, g2, g3, g4, g5, g6, g7⟩ := hp
    exact ⟨false, tI, nums, _, _, _, _, _, _, .inr ⟨l6_no (j := 0) hi h4 (by decide) (by decide) _ _ _ (fun z => c ((kd2 ht).mp z)), rfl⟩, n_one_no hs ht c g5 _, y_one_st rfl _, .inr ⟨rfl, stpd_of h1 ht⟩, kpY_st _ _, kpA_rf _⟩
end NUM_
