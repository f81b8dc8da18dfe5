/-! ===== faults, and what was told so far ===== -/
abbrev FO : Type := Option (Nat × Nat)
def fx (tI : Nat → Int32) : FO → Prop
  | none => tI 1 = 0 ∧ tI 2 = -1
  | some (k, q) => 2 ≤ k ∧ k ≤ 4 ∧ q ≤ 300 ∧ tI 1 = nI k ∧ tI 2 = nI q
def fy (yI : Nat → Int32) : FO → Prop
  | none => yI 4 = 0 ∧ yI 5 = -1
  | some (k, q) => 2 ≤ k ∧ k ≤ 4 ∧ q ≤ 300 ∧ yI 4 = nI k ∧ yI 5 = nI q
def foB (o : FO) (p : Nat) : Prop := ∀ k q, o = some (k, q) → q < p
def ntF (o : FO) (k p : Nat) : FO := match o with
  | none => some (k, p)
  | some x => some x
theorem fx_same {tI tJ : Nat → Int32} {o : FO} (h : fx tI o) (h1 : tJ 1 = tI 1) (h2 : tJ 2 = tI 2) : fx tJ o := by
  cases o with
  | none => exact ⟨h1.trans h.1, h2.trans h.2⟩
  | some x => exact ⟨h.1, h.2.1, h.2.2.1, h1.trans h.2.2.2.1, h2.trans h.2.2.2.2⟩
theorem fy_same {yI yJ : Nat → Int32} {o : FO} (h : fy yI o) (h1 : yJ 4 = yI 4) (h2 : yJ 5 = yI 5) : fy yJ o := by
  cases o with
  | none => exact ⟨h1.trans h.1, h2.trans h.2⟩
  | some x => exact ⟨h.1, h.2.1, h.2.2.1, h1.trans h.2.2.2.1, h2.trans h.2.2.2.2⟩
theorem foB_le {o : FO} {p q : Nat} (h : foB o p) (hl : p ≤ q) : foB o q := fun k r e => Nat.lt_of_lt_of_le (h k r e) hl
theorem foB_nt {o : FO} {k p : Nat} (h : foB o p) : foB (ntF o k p) (p + 1) := by
  intro a b e
  cases o with
  | none =>
    have e : some (k, p) = some (a, b) := e
    injection e with e
    injection e with e1 e2
    omega
  | some x =>
    have e : some x = some (a, b) := e
    have := h a b e
    omega
theorem fx_0 {tI : Nat → Int32} {o : FO} (h : fx tI o) : tI 1 = 0 ↔ o = none := by
  cases o with
  | none => exact ⟨fun _ => rfl, fun _ => h.1⟩
  | some x =>
    obtain ⟨h1, h2, h3, h4, h5⟩ := h
    refine ⟨fun z => ?_, fun z => by cases z⟩
    rw [h4] at z
    exact absurd z (nI_ne0 (by omega) (by omega))
theorem fy_0 {yI : Nat → Int32} {o : FO} (h : fy yI o) : yI 4 = 0 ↔ o = none := by
  cases o with
  | none => exact ⟨fun _ => rfl, fun _ => h.1⟩
  | some x =>
    obtain ⟨h1, h2, h3, h4, h5⟩ := h
    refine ⟨fun z => ?_, fun z => by cases z⟩
    rw [h4] at z
    exact absurd z (nI_ne0 (by omega) (by omega))
theorem fy_good {yI : Nat → Int32} {o : FO} (h : fy yI o) : ¬ yI 4 = (1 : Int32) := by
  cases o with
  | none => rw [h.1]; decide
  | some x =>
    obtain ⟨h1, h2, h3, h4, h5⟩ := h
    rw [h4]; exact fun z => by have := (nI_eq (b := 1) (by omega) (by decide)).mp z; omega
theorem x_note {tI : Nat → Int32} {o : FO} {k p : Nat} (h : fx tI o) (hk : 2 ≤ k) (hk2 : k ≤ 4) (hp : p ≤ 300) : ∃ tJ, fX2_note tI (nI k) (nI p) = some tJ ∧ fx tJ (ntF o k p) ∧ ∀ i, i ≠ 1 → i ≠ 2 → tJ i = tI i := by
  unfold fX2_note
  cases o with
  | none =>
    rw [h.1, if_pos rfl]
    exact ⟨_, rfl, ⟨hk, hk2, hp, rfl, rfl⟩, fun i i1 i2 => by rw [ux_ne i2, ux_ne i1]⟩
  | some x =>
    have h' := h
    obtain ⟨h1, h2, h3, h4, h5⟩ := h
    rw [h4, if_neg (nI_ne0 (by omega) (by omega))]
    exact ⟨_, rfl, h', fun _ _ _ => rfl⟩
theorem y_fail {yI : Nat → Int32} {o : FO} {k p : Nat} (h : fy yI o) (hb : foB o p) (hk : 2 ≤ k) (hk2 : k ≤ 4) (hp : p ≤ 300) : ∃ yJ, fX11_fails yI (nI k) (nI p) = some yJ ∧ fy yJ (ntF o k p) ∧ ∀ i, i ≠ 4 → i ≠ 5 → yJ i = yI i := by
  unfold fX11_fails
  cases o with
  | none =>
    rw [h.1, if_neg (show ¬ (0 : Int32) = (1 : Int32) from by decide), if_pos (show (0 : Int32) ≤ (1 : Int32) from by decide)]
    exact ⟨_, rfl, ⟨hk, hk2, hp, rfl, rfl⟩, fun i i1 i2 => by rw [ux_ne i2, ux_ne i1]⟩
  | some x =>
    have h' := h
    obtain ⟨h1, h2, h3, h4, h5⟩ := h
    have := hb x.1 x.2 rfl
    rw [h4, h5, if_neg (show ¬ nI x.1 = (1 : Int32) from fun z => by have := (nI_eq (b := 1) (by omega) (by decide)).mp z; omega), if_neg (show ¬ nI x.1 ≤ (1 : Int32) from nI_ge (a := 1) (by omega) (by omega)), if_neg (show ¬ nI k ≤ (1 : Int32) from nI_ge (a := 1) (by omega) (by omega)), if_pos (nI_lt (show x.2 < p by omega) (by omega))]
    exact ⟨_, rfl, h', fun _ _ _ => rfl⟩
/-- an earlier place strikes -/
theorem y_fail3 {yI : Nat → Int32} {k p q : Nat} (h : fy yI (some (k, q))) (hq : p < q) (hp : p ≤ 300) : ∃ yJ, fX11_fails yI (3 : Int32) (nI p) = some yJ ∧ fy yJ (some (3, p)) ∧ ∀ i, i ≠ 4 → i ≠ 5 → yJ i = yI i := by
  unfold fX11_fails
  obtain ⟨h1, h2, h3, h4, h5⟩ := h
  rw [h4, h5, if_neg (show ¬ nI k = (1 : Int32) from fun z => by have := (nI_eq (b := 1) (by omega) (by decide)).mp z; omega), if_neg (show ¬ nI k ≤ (1 : Int32) from nI_ge (a := 1) (by omega) (by omega)), if_neg (show ¬ (3 : Int32) ≤ (1 : Int32) from by decide), if_neg (nI_nlt (by omega) (by omega)), if_neg (fun z => by have := (nI_eq (a := p) (b := q) (by omega) (by omega)).mp z; omega)]
  exact ⟨_, rfl, ⟨by decide, by decide, hp, rfl, rfl⟩, fun i i1 i2 => by rw [ux_ne i2, ux_ne i1]⟩
/-- the reading stops -/
theorem y_stop {yI : Nat → Int32} {o : FO} (h : fy yI o) (p : Int32) : fX11_fails yI (1 : Int32) p = some (upd (upd yI 4 (1 : Int32)) 5 p) := by
  have hg := fy_good h
  unfold fX11_fails
  rw [if_neg hg]
  cases o with
  | none => rw [h.1, if_pos (show (0 : Int32) ≤ (1 : Int32) from by decide)]
  | some x =>
    obtain ⟨h1, h2, h3, h4, h5⟩ := h
    rw [h4, if_neg (show ¬ nI x.1 ≤ (1 : Int32) from nI_ge (a := 1) (by omega) (by omega)), if_pos (show (1 : Int32) ≤ (1 : Int32) from by decide)]
theorem gd_y {yI : Nat → Int32} (h : ¬ yI 4 = (1 : Int32)) : fX11_isGood yI = true := if_neg h
theorem gd_n {yI : Nat → Int32} (h : yI 4 = (1 : Int32)) : fX11_isGood yI = false := if_pos h
/-- the slots of the reference that reading leaves -/
def kpY (a b : Nat → Int32) : Prop := b 3 = a 3 ∧ b 6 = a 6 ∧ b 22 = a 22
theorem kpY_rf (a : Nat → Int32) : kpY a a := ⟨rfl, rfl, rfl⟩
theorem kpY_tr {a b c : Nat → Int32} (h : kpY a b) (h2 : kpY b c) : kpY a c := ⟨h2.1.trans h.1, h2.2.1.trans h.2.1, h2.2.2.trans h.2.2⟩
theorem kpY_f {a b : Nat → Int32} (h : ∀ i, i ≠ 4 → i ≠ 5 → b i = a i) : kpY a b := ⟨h 3 (by decide) (by decide), h 6 (by decide) (by decide), h 22 (by decide) (by decide)⟩
theorem kpY_t {a b : Nat → Int32} (h : ∀ k, (k < 23 ∨ 26 ≤ k) → b k = a k) : kpY a b := ⟨h 3 (by decide), h 6 (by decide), h 22 (by decide)⟩
def kpA (a b : Nat → Int32) : Prop := ∀ k, (k < 4211 ∨ 4257 ≤ k) → b k = a k
theorem kpA_rf (a : Nat → Int32) : kpA a a := fun _ _ => rfl
theorem kpA_tr {a b c : Nat → Int32} (h : kpA a b) (h2 : kpA b c) : kpA a c := fun k hk => (h2 k hk).trans (h k hk)
/-- stopped at the token that is the latest -/
def stpd (tI yI : Nat → Int32) : Prop := ∃ p, p ≤ 300 ∧ tI 5 = nI p ∧ yI 4 = 1 ∧ yI 5 = nI p
theorem tok_f {n : Nat} {vb : Nat → Nat} {tI yI yJ : Nat → Int32} {val : Int64} {p e kd : Nat} (h : tokR n vb tI yI val p e kd) (hy : ∀ i, i ≠ 4 → i ≠ 5 → yJ i = yI i) : tokR n vb tI yJ val p e kd := by
  obtain ⟨q1, q2, q3, q4, q5, q6, q7⟩ := h
  exact ⟨q1, (hy 24 (by decide) (by decide)).trans q2, q3, (hy 25 (by decide) (by decide)).trans q4, q5, (hy 23 (by decide) (by decide)).trans q6, q7⟩
section ONE_
variable {n : Nat} {vb : Nat → Nat} {sI sb yt : Nat → Int32}
/-- a numeral of the reference where a number stands; the program goes on from tc -/
theorem y_numeral (hs : srcR n vb sI sb yt) {tI yI tc : Nat → Int32} {val : Int64} {p e G : Nat} {o : FO} (ht : tokR n vb tI yI val p e 2) (hf : fy yI o) (hb : foB o p) (h22 : yI 22 = nI n) (htc : tc 6 = tI 6) (hG : G ≤ 999999) : ∃ v tJ yJ val2 p2 e2 kd2, v ≤ 999999 ∧ tI 7 = nI v ∧ fX2_next tc sI sb = some tJ ∧ (∀ i, i < 4 → tJ i = tc i) ∧ e ≤ p2 ∧ tokR n vb tJ yJ val2 p2 e2 kd2 ∧ yJ 28 = nI p ∧ kpY yI yJ ∧ fX11_numeral yI val yt (0 : Int32) (nI G) = some (if v ≤ G then nI v else (-1 : Int32), yJ, val2) ∧ fy yJ (if v ≤ G then o else ntF o 2 p) := by
  have h1 := hs.1
  have hg := fy_good hf
  obtain ⟨t4, y24, t5, y25, t6, y23, pe, en, kl, kp, kn, kw⟩ := ht
  obtain ⟨v, v1, v2, v3⟩ := kn rfl
  obtain ⟨tJ, yJ, val2, p2, e2, kd2, w1, w2, w3, w4, w5, w6⟩ := t_next (val := val) hs (tI := tc) (yI := upd (upd yI 27 (val.toInt32)) 28 (yI 25)) (e0 := e) (by rw [ux_ne (by decide), ux_ne (by decide)]; exact h22) (htc.trans t6) (by rw [ux_ne (by decide), ux_ne (by decide)]; exact y23) en
  have j28 : yJ 28 = nI p := by rw [w6 28 (by decide), ux_at, y25]
  have j27 : yJ 27 = nI v := by rw [w6 27 (by decide), ux_ne (by decide), ux_at, v3, lN_i]
  have j4 : yJ 4 = yI 4 := by rw [w6 4 (by decide), ux_ne (by decide), ux_ne (by decide)]
  have j5 : yJ 5 = yI 5 := by rw [w6 5 (by decide), ux_ne (by decide), ux_ne (by decide)]
  have k0 : kpY yI yJ := ⟨by rw [w6 3 (by decide), ux_ne (by decide), ux_ne (by decide)], by rw [w6 6 (by decide), ux_ne (by decide), ux_ne (by decide)], by rw [w6 22 (by decide), ux_ne (by decide), ux_ne (by decide)]⟩
  have hfJ : fy yJ o := fy_same hf j4 j5
  have num : fX11_numeral yI val yt (0 : Int32) (nI G) = (if (bi (fX11_isIn (yJ 27) (0 : Int32) (nI G))) = 0 then bn (fX11_fails yJ (2 : Int32) (yJ 28)) fun a5 => some ((-1 : Int32), a5, val2) else some ((yJ 27), yJ, val2)) := by
    unfold fX11_numeral fX11_numeral_j24
    rw [gd_y hg, if_neg (show ¬ bi true = 0 from by decide), if_neg (show ¬ bi true = 0 from by decide), y24, if_pos (show nI 2 = (2 : Int32) from rfl), w2, bnS]
  rw [num, j27, j28]
  by_cases c : v ≤ G
  · have hin : fX11_isIn (nI v) (0 : Int32) (nI G) = true := isIn_yes (nI_pos (by omega)) (nI_nlt c (by omega))
    rw [hin, if_neg (show ¬ bi true = 0 from by decide)]
    exact ⟨v, tJ, yJ, val2, p2, e2, kd2, v1, v2, w1, w5, w4, w3, j28, k0, by rw [if_pos c], by rw [if_pos c]; exact hfJ⟩
  · have hin : fX11_isIn (nI v) (0 : Int32) (nI G) = false := isIn_no (.inr (nI_lt (by omega) (by omega)))
    rw [hin, if_pos (show bi false = 0 from rfl)]
    obtain ⟨yK, s2, s3, s5⟩ := y_fail (k := 2) (p := p) hfJ hb (by decide) (by decide) (by omega)
    have s2 : fX11_fails yJ (2 : Int32) (nI p) = some yK := s2
    rw [s2, bnS]
    exact ⟨v, tJ, yK, val2, p2, e2, kd2, v1, v2, w1, w5, w4, tok_f w3 s5, (s5 28 (by decide) (by decide)).trans j28, kpY_tr k0 (kpY_f s5), by rw [if_neg c], by rw [if_neg c]; exact s3⟩
/-- where no number stands -/
theorem y_numeral_no {yI : Nat → Int32} {val : Int64} {kd : Nat} {o : FO} (hf : fy yI o) (h24 : yI 24 = nI kd) (hkd : kd ≠ 2) (hkd4 : kd ≤ 4) (a b : Int32) : fX11_numeral yI val yt a b = some ((-1 : Int32), upd (upd yI 4 (1 : Int32)) 5 (yI 25), val) := by
  have hg := fy_good hf
  unfold fX11_numeral
  rw [gd_y hg, if_neg (show ¬ bi true = 0 from by decide), h24, if_neg (show ¬ nI kd = (2 : Int32) from fun z => hkd ((nI_eq (b := 2) (by omega) (by decide)).mp z)), y_stop hf, bnS]
  unfold fX11_numeral_j24
  rw [gd_n (show upd (upd yI 4 (1 : Int32)) 5 (yI 25) 4 = 1 from rfl), if_pos (show bi false = 0 from rfl)]
theorem y_numeral_st {yI : Nat → Int32} {val : Int64} (h : yI 4 = (1 : Int32)) (a b : Int32) : fX11_numeral yI val yt a b = some ((-1 : Int32), yI, val) := by
  unfold fX11_numeral fX11_numeral_j24
  rw [gd_n h, if_pos (show bi false = 0 from rfl), if_pos (show bi false = 0 from rfl)]
theorem y_one_st {yI al : Nat → Int32} {val : Int64} (h : yI 4 = (1 : Int32)) (a : Int32) : fX11_one yI val al yt a = some (yI, val, al) := by
  unfold fX11_one
  rw [y_numeral_st h, bnS]
  dsimp only
  rw [gd_n h, if_pos (show bi false = 0 from rfl)]
end ONE_
/-- what both hold of the text so far -/
def stP (tI yI toldI nums br bc bb al : Nat → Int32) (p : Nat) : Prop := ∃ N w o nb R C B nb2 R2 C2 B2, okN N w ∧ (∀ k, k < 9 → nums k = nI (N k)) ∧ (∀ k, k < 9 → al (4211 + k) = nI (N k)) ∧ fx tI o ∧ fy yI o ∧ foB o p ∧ okBd nb R C B ∧ xBd toldI br bc bb nb R C B ∧ okBd nb2 R2 C2 B2 ∧ yBd al 4211 nb2 R2 C2 B2 ∧ (o = none → nb2 = nb ∧ R2 = R ∧ C2 = C ∧ B2 = B ∧ ∀ i j, i < j → j < nb → ¬ (R i = R j ∧ C i = C j))
theorem stP_same {tI yI tJ yJ toldI nums br bc bb al : Nat → Int32} {p p2 : Nat} (h : stP tI yI toldI nums br bc bb al p) (hp : p ≤ p2) (t1 : tJ 1 = tI 1) (t2 : tJ 2 = tI 2) (y4 : yJ 4 = yI 4) (y5 : yJ 5 = yI 5) : stP tJ yJ toldI nums br bc bb al p2 := by
  obtain ⟨N, w, o, nb, R, C, B, nb2, R2, C2, B2, h1, h2, h3, h4, h5, h6, h7⟩ := h
  exact ⟨N, w, o, nb, R, C, B, nb2, R2, C2, B2, h1, h2, h3, fx_same h4 t1 t2, fy_same h5 y4 y5, foB_le h6 hp, h7⟩
