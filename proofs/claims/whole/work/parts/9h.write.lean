/-! ===== write ===== -/
theorem spb_put {sp : Nat → Int32} {pr i r u : Nat} (hi : i < 2) (hu : u < 2) (b : Bool) : spb (upd sp ((pr * 2 + i) / 32) (fX0_withBit (sp ((pr * 2 + i) / 32)) (nI ((pr * 2 + i) % 32)) (bi b))) r u = if r = pr ∧ u = i then b else spb sp r u := by
  unfold spb
  have hm : (pr * 2 + i) % 32 < 32 := Nat.mod_lt _ (by decide)
  have hm2 : (r * 2 + u) % 32 < 32 := Nat.mod_lt _ (by decide)
  by_cases c : (r * 2 + u) / 32 = (pr * 2 + i) / 32
  · rw [c, ux_at, bt_with _ _ hm hm2]
    by_cases d : r = pr ∧ u = i
    · rw [if_pos d, if_pos (by rw [d.1, d.2])]
    · rw [if_neg d, if_neg (by omega)]
  · rw [ux_ne c, if_neg (by intro d; rw [d.1, d.2] at c; exact c rfl)]
theorem x_putSpare (sp : Nat → Int32) {r i : Nat} (hr : r < 517) (hi : i < 2) (b : Bool) : fX0_putSpareBit sp (nI r) (nI i) (bi b) = some (upd sp ((r * 2 + i) / 32) (fX0_withBit (sp ((r * 2 + i) / 32)) (nI ((r * 2 + i) % 32)) (bi b))) := by
  unfold fX0_putSpareBit
  have e1 : nI r * (2 : Int32) + nI i = nI (r * 2 + i) := by
    show nI r * nI 2 + nI i = _
    rw [pk_mul, nI_add]
  have e2 : nI (r * 2 + i) >>> ((5 : Int32) &&& 31) = nI ((r * 2 + i) / 32) := shrN (r * 2 + i) 5 (by omega) (by decide)
  have e3 : nI (r * 2 + i) &&& (31 : Int32) = nI ((r * 2 + i) % 32) := fa_mask (r * 2 + i) 5
  rw [e1, e2, e3, if_neg (nI_pos (by omega)), if_neg (show ¬ (33 : Int32) ≤ nI ((r * 2 + i) / 32) from nI_ge (b := 33) (by omega) (by decide)), gdN (by omega) (by decide), gdN (by omega) (by decide), nI_clamp (by omega)]
theorem wr0 : ∀ n, n < 33 → 1 ≤ n → ∀ j, j < 32 → bt (if nI n < (32 : Int32) then (((1 : Int32) <<< (nI n &&& 31)) - (1 : Int32)) else (-1 : Int32)) j = decide (j < n) := by decide +kernel
section XPUT_
variable {R C B N : Nat → Nat} {nb w f : Nat} {bs : Option OF} {tI rI rr rc : Nat → Int32}
theorem x_l44 (hW : wirW tI N w f) (ok : okN N w) (hf : okM w f) (g : gOk R C nb bs (2 ^ (w - f)) (N 1 * 2 ^ f) (N 3) (N 4)) (hx : xG R C nb bs rI rr rc) (p : Int32) {a pr : Nat} (hpr : pr < 517) : ∀ (d F i : Nat) (x : Int32) (sp : Nat → Int32), i + d = gC bs → d < F → ∃ x2 sp2, fX9_putWord_l44 (nI a) p (nI pr) tI rI rc F x (nI i) sp = some (x2, sp2) ∧ (∀ j, j < 32 → (∀ t, i ≤ t → t < gC bs → gKo bs t ≠ j * 2 ^ f + a % 2 ^ f) → bt x2 j = bt x j) ∧ (∀ t, i ≤ t → t < gC bs → gKo bs t % 2 ^ f = a % 2 ^ f → bt x2 (gKo bs t / 2 ^ f) = false) ∧ ∀ r u, u < 2 → spb sp2 r u = if r = pr ∧ i ≤ u ∧ u < gC bs ∧ gKo bs u % 2 ^ f = a % 2 ^ f then bt p (gKo bs u / 2 ^ f) else spb sp r u := by
  obtain ⟨g1, g2, g3, g4, g5, g6⟩ := g
  obtain ⟨-, -, x3, -, x5⟩ := hx
  have hN4 := ok.2.2.2.2.2.2.2.1
  have hN1 := ok.2.2.2.2.1
  have h8 := p2f hf.1
  have hp2 : N 1 * 2 ^ f ≤ 32 * 8 := Nat.mul_le_mul hN1 h8.2
  have hmod : a % 2 ^ f < 2 ^ f := Nat.mod_lt _ (Nat.two_pow_pos f)
  generalize gC bs = n at *
  generalize gKo bs = q at *
  have hq32 : ∀ t, t < n → q t / 2 ^ f < 32 := fun t ht => Nat.lt_of_lt_of_le ((Nat.div_lt_iff_lt_mul h8.1).mpr (g5 t ht)) hN1
  intro d
  induction d with
  | zero =>
    intro F i x sp e1 e2
    obtain ⟨F, rfl⟩ : ∃ G, F = G + 1 := ⟨F - 1, by omega⟩
    rw [fX9_putWord_l44, x3, if_pos (nI_le (by omega) (by omega))]
    exact ⟨x, sp, rfl, fun _ _ _ => rfl, fun t h1 h2 => by omega, fun r u _ => by rw [if_neg (by omega)]⟩
  | succ d ih =>
    intro F i x sp e1 e2
    obtain ⟨F, rfl⟩ : ∃ G, F = G + 1 := ⟨F - 1, by omega⟩
    have hqi := g5 i (by omega)
    rw [fX9_putWord_l44, x3, if_neg (nI_ge (by omega) (by omega)), gdN (by omega) (by decide), nI_clamp (by omega), x5 i (by omega), x_offset hW, x_offset hW, show nI i + (1 : Int32) = nI (i + 1) from nI_1 i]
    by_cases c : q i % 2 ^ f = a % 2 ^ f
    · rw [if_pos (by rw [c]), hW.2.1, shrN (q i) f (by omega) (by have := hf.1; omega), ubit1 p (hq32 i (by omega)), x_putSpare sp hpr (by omega), bnS]
      obtain ⟨x2, sp2, w1, w2, w3, w4⟩ := ih F (i + 1) (fX0_withBit x (nI (q i / 2 ^ f)) (0 : Int32)) (upd sp ((pr * 2 + i) / 32) (fX0_withBit (sp ((pr * 2 + i) / 32)) (nI ((pr * 2 + i) % 32)) (bi (bt p (q i / 2 ^ f))))) (by omega) (by omega)
      refine ⟨x2, sp2, w1, fun j hj hno => ?_, fun t t1 t2 t3 => ?_, fun r u hu => ?_⟩
      · rw [w2 j hj (fun t t1 t2 => hno t (by omega) t2)]
        have := bt_with x false (hq32 i (by omega)) hj
        rw [show fX0_withBit x (nI (q i / 2 ^ f)) (0 : Int32) = fX0_withBit x (nI (q i / 2 ^ f)) (bi false) from rfl, this, if_neg]
        intro z
        exact hno i (Nat.le_refl _) (by omega) ((dm_eq h8.1 hmod).mpr ⟨c, z.symm⟩)
      · by_cases et : t = i
        · subst et
          rw [w2 _ (hq32 t t2) (fun u u1 u2 u3 => ?_), show fX0_withBit x (nI (q t / 2 ^ f)) (0 : Int32) = fX0_withBit x (nI (q t / 2 ^ f)) (bi false) from rfl, bt_with _ _ (hq32 t t2) (hq32 t t2), if_pos rfl]
          have e3 : q t = q t / 2 ^ f * 2 ^ f + a % 2 ^ f := (dm_eq h8.1 hmod).mpr ⟨c, rfl⟩
          have := g6 t u (by omega) u2
          omega
        · exact w3 t (by omega) t2 t3
      · rw [w4 r u hu, spb_put (by omega) hu]
        by_cases e : r = pr ∧ u = i
        · rw [if_pos e, if_neg (by omega), if_pos ⟨e.1, by omega, by omega, by rw [e.2]; exact c⟩, e.2]
        · rw [if_neg e]
          by_cases e2 : r = pr ∧ i + 1 ≤ u ∧ u < n ∧ q u % 2 ^ f = a % 2 ^ f
          · rw [if_pos e2, if_pos ⟨e2.1, by omega, e2.2.2⟩]
          · rw [if_neg e2, if_neg]
            intro z
            exact e2 ⟨z.1, by have : u ≠ i := fun y => e ⟨z.1, y⟩; omega, z.2.2⟩
    · rw [if_neg (fun z => c ((nI_eq (by omega) (by omega)).mp z))]
      obtain ⟨x2, sp2, w1, w2, w3, w4⟩ := ih F (i + 1) x sp (by omega) (by omega)
      refine ⟨x2, sp2, w1, fun j hj hno => w2 j hj (fun t t1 t2 => hno t (by omega) t2), fun t t1 t2 t3 => ?_, fun r u hu => ?_⟩
      · by_cases et : t = i
        · subst et; exact absurd t3 c
        · exact w3 t (by omega) t2 t3
      · rw [w4 r u hu]
        by_cases e2 : r = pr ∧ i + 1 ≤ u ∧ u < n ∧ q u % 2 ^ f = a % 2 ^ f
        · rw [if_pos e2, if_pos ⟨e2.1, by omega, e2.2.2⟩]
        · rw [if_neg e2, if_neg]
          intro z
          have : u ≠ i := fun y => c (by rw [← y]; exact z.2.2.2)
          exact e2 ⟨z.1, by omega, z.2.2⟩
theorem x_putWord {nu wd sp : Nat → Int32} (hW : wirW tI N w f) (ok : okN N w) (hf : okM w f) (g : gOk R C nb bs (2 ^ (w - f)) (N 1 * 2 ^ f) (N 3) (N 4)) (hG : xG R C nb bs rI rr rc) (h1 : nu 1 = nI (N 1)) {a : Nat} (ha : a < 2 ^ w) (p : Int32) : ∃ wd2 sp2, fX9_putWord tI rI rr rc nu wd sp (nI a) p = some (wd2, sp2) ∧ (∀ i, i ≠ plR R C nb w f bs a * 2 ^ f + a % 2 ^ f → wd2 i = wd i) ∧ (∀ j, j < 32 → bt (wd2 (plR R C nb w f bs a * 2 ^ f + a % 2 ^ f)) j = if j < N 1 ∧ fndP (gKo bs) (N 1 * 2 ^ f) (j * 2 ^ f + a % 2 ^ f) (gC bs) = j * 2 ^ f + a % 2 ^ f then bt p j else bt (wd (plR R C nb w f bs a * 2 ^ f + a % 2 ^ f)) j) ∧ ∀ r u, u < 2 → spb sp2 r u = if r = plR R C nb w f bs a ∧ u < gC bs ∧ gKo bs u % 2 ^ f = a % 2 ^ f then bt p (gKo bs u / 2 ^ f) else spb sp r u := by
  have hw := pw10 ok.2.2.1
  have h8 := p2f hf.1
  have hN1 := ok.2.2.2.2.1
  have hN1' := ok.2.2.2.1
  have hN3 := ok.2.2.2.2.2.2.1
  have hN4 := ok.2.2.2.2.2.2.2.1
  have hp : 2 ^ (w - f) ≤ 512 := Nat.le_trans (Nat.pow_le_pow_right (n := 2) (by decide) hf.2.2) (by decide)
  have hp2 : N 1 * 2 ^ f ≤ 32 * 8 := Nat.mul_le_mul hN1 h8.2
  have hmod : a % 2 ^ f < 2 ^ f := Nat.mod_lt _ (Nat.two_pow_pos f)
  have hrow := row_lt hf ha
  have hPR := plR_lt g hf ha
  unfold fX9_putWord
  have e0 : fX9_rowPlace tI rI rr (nI (a / 2 ^ f)) = some (nI (plR R C nb w f bs a)) := x_rowPlace g hN3 hG hW.2.2.1 (by omega) (by omega)
  have hpl : plR R C nb w f bs a * 2 ^ f ≤ 516 * 8 := Nat.mul_le_mul (by omega) h8.2
  have hix := wix (pr := plR R C nb w f bs a) ok hf hPR hmod
  rw [x_rowOf hW hf (by omega), e0, bnS, h1]
  obtain ⟨x2, sp2, q1, q2, q3, q4⟩ := x_l44 (a := a) (pr := plR R C nb w f bs a) hW ok hf g hG p (by omega) (gC bs) FU 0 (if nI (N 1) < (32 : Int32) then (((1 : Int32) <<< (nI (N 1) &&& 31)) - (1 : Int32)) else (-1 : Int32)) sp (by omega) (by show _ < 4294967296; have := g.2.1; omega)
  have q1 : fX9_putWord_l44 (nI a) p (nI (plR R C nb w f bs a)) tI rI rc FU (if nI (N 1) < (32 : Int32) then (((1 : Int32) <<< (nI (N 1) &&& 31)) - (1 : Int32)) else (-1 : Int32)) (0 : Int32) sp = some (x2, sp2) := q1
  rw [q1, bnS, hW.2.1, x_offset hW, shlN _ f (by have := hf.1; omega) (by omega), nI_add]
  generalize hat : plR R C nb w f bs a * 2 ^ f + a % 2 ^ f = at_ at *
  have ewi : fX0_wordIn wd (nI at_) = some (wd at_) := by
    unfold fX0_wordIn
    rw [if_neg (nI_pos (by omega)), if_neg (show ¬ (1056 : Int32) ≤ nI at_ from nI_ge (b := 1056) hix (by decide)), gdN hix (by decide), nI_clamp (by omega)]
  have ewp : ∀ v, fX0_putWordIn wd (nI at_) v = some (upd wd at_ v) := by
    intro v
    unfold fX0_putWordIn
    rw [if_neg (nI_pos (by omega)), if_neg (show ¬ (1056 : Int32) ≤ nI at_ from nI_ge (b := 1056) hix (by decide)), gdN hix (by decide), nI_clamp (by omega)]
  rw [ewi, bnS, ewp, bnS]
  refine ⟨_, _, rfl, fun i hi => ux_ne hi, fun j hj => ?_, fun r u hu => ?_⟩
  · rw [ux_at]
    show bt ((wd at_ &&& (x2 ^^^ (-1 : Int32))) ||| (p &&& x2)) j = _
    rw [b_or, b_and, b_and, bt_not _ hj]
    have bx : bt x2 j = decide (j < N 1 ∧ fndP (gKo bs) (N 1 * 2 ^ f) (j * 2 ^ f + a % 2 ^ f) (gC bs) = j * 2 ^ f + a % 2 ^ f) := by
      rcases fndP_or (a := gKo bs) (base := N 1 * 2 ^ f) (x := j * 2 ^ f + a % 2 ^ f) (gC bs) with ⟨s1, s2⟩ | ⟨i, s0, s1, s2⟩
      · rw [q2 j hj (fun t _ t2 => s1 t t2), wr0 (N 1) (by omega) hN1' j hj, s2]
        by_cases c : j < N 1
        · rw [decide_eq_true c, decide_eq_true ⟨c, rfl⟩]
        · rw [decide_eq_false c, decide_eq_false (fun z => c z.1)]
      · have hd := (dm_eq (c := gKo bs i) (j := j) h8.1 hmod).mp s1
        have := q3 i (Nat.zero_le _) s0 hd.1
        rw [hd.2] at this
        rw [this, s2, decide_eq_false]
        intro z
        have h5 := g.2.2.2.2.1 i s0
        omega
    rw [bx]
    by_cases c : j < N 1 ∧ fndP (gKo bs) (N 1 * 2 ^ f) (j * 2 ^ f + a % 2 ^ f) (gC bs) = j * 2 ^ f + a % 2 ^ f
    · rw [if_pos c, decide_eq_true c, Bool.not_true, Bool.and_false, Bool.false_or, Bool.and_true]
    · rw [if_neg c, decide_eq_false c, Bool.not_false, Bool.and_true, Bool.and_false, Bool.or_false]
  · rw [q4 r u hu]
    by_cases c : r = plR R C nb w f bs a ∧ u < gC bs ∧ gKo bs u % 2 ^ f = a % 2 ^ f
    · rw [if_pos c, if_pos ⟨c.1, Nat.zero_le _, c.2⟩]
    · rw [if_neg c, if_neg (fun z => c ⟨z.1, z.2.2⟩)]
end XPUT_
theorem plC_or {N : Nat → Nat} {f : Nat} {bs : Option OF} (a j : Nat) : ((∀ i, i < gC bs → gKo bs i ≠ j * 2 ^ f + a % 2 ^ f) ∧ plC N f bs a j = j * 2 ^ f + a % 2 ^ f) ∨ ∃ i, i < gC bs ∧ gKo bs i = j * 2 ^ f + a % 2 ^ f ∧ plC N f bs a j = N 1 * 2 ^ f + i := fndP_or (gC bs)
theorem plC_inj {N : Nat → Nat} {f : Nat} {bs : Option OF} {a j j2 : Nat} (hj : j < N 1) (hj2 : j2 < N 1) (h : plC N f bs a j = plC N f bs a j2) : j = j2 := by
  have c1 := col_lt (f := f) (a := a) hj
  have c2 := col_lt (f := f) (a := a) hj2
  have e : j * 2 ^ f + a % 2 ^ f = j2 * 2 ^ f + a % 2 ^ f → j = j2 := fun z => Nat.eq_of_mul_eq_mul_right (Nat.two_pow_pos f) (by omega)
  rcases plC_or (N := N) (f := f) (bs := bs) a j with ⟨p1, p2⟩ | ⟨i, p0, p1, p2⟩
  · rcases plC_or (N := N) (f := f) (bs := bs) a j2 with ⟨q1, q2⟩ | ⟨i2, q0, q1, q2⟩
    · exact e (by rw [← p2, ← q2, h])
    · omega
  · rcases plC_or (N := N) (f := f) (bs := bs) a j2 with ⟨q1, q2⟩ | ⟨i2, q0, q1, q2⟩
    · omega
    · have : i = i2 := by omega
      subst this
      exact e (by rw [← p1, ← q1])
section YPUT_
variable {R C B N : Nat → Nat} {nb w f : Nat} {bs : Option OF} {gr gc : Nat → Int32}
theorem y_lays {al tI : Nat → Int32} (hm : mdl al 0 N) (ok : okN N w) (hf : okM w f) (hb : okBd nb R C B) (hy : yBd al 0 nb R C B) (hbs : bst R C nb (N 3) (N 4) (syS C nb nb) bs) (hfit : ∀ k, k < nb → R k < 2 ^ (w - f) ∧ C k < N 1 * 2 ^ f) (h19 : tI 19 = nI (2 ^ f)) (hG : yG R C nb bs tI gr gc) {a j : Nat} (ha : a < 2 ^ w) (hj : j < N 1) (b : Bool) : ∃ tJ al2, fX11_lays tI al gr gc (nI a) (nI j) (bi b) = some (tJ, al2) ∧ tJ 19 = nI (2 ^ f) ∧ yG R C nb bs tJ gr gc ∧ (∀ k, (k < 15 ∨ 19 ≤ k) → tJ k = tI k) ∧ (∀ k, (k < 46 ∨ 4208 ≤ k) → al2 k = al k) ∧ ∀ q, q < 133184 → ybit al2 0 q = if q = 258 * plR R C nb w f bs a + plC N f bs a j then b else ybit al 0 q := by
  obtain ⟨tJ, q1, q2, q3, q4, q5, q6, q7, q8⟩ := y_goes hm ok hf hb hy hbs hfit h19 hG ha hj
  have g := gOk_of hbs hfit
  have hN3 := ok.2.2.2.2.2.2.1
  have hN4 := ok.2.2.2.2.2.2.2.1
  have h8 := p2f hf.1
  have hp : 2 ^ (w - f) ≤ 512 := Nat.le_trans (Nat.pow_le_pow_right (n := 2) (by decide) hf.2.2) (by decide)
  have hp2 : N 1 * 2 ^ f ≤ 32 * 8 := Nat.mul_le_mul ok.2.2.2.2.1 h8.2
  have hPR := plR_lt g hf ha
  have hPC := plC_lt (a := a) g hj
  unfold fX11_lays
  rw [q1, bnS, q2, q3]
  generalize plR R C nb w f bs a = pr at *
  generalize plC N f bs a j = pc at *
  have e4 : (258 : Int32) * nI pr + nI pc = nI (258 * pr + pc) := by
    show nI 258 * nI pr + nI pc = _
    rw [pk_mul, nI_add]
  have e5 : nI (258 * pr + pc) / (32 : Int32) = nI ((258 * pr + pc) / 32) := pk_div (d := 32) (by omega) (by decide) (by decide)
  have e6 : nI (258 * pr + pc) - nI (258 * pr + pc) / (32 : Int32) * (32 : Int32) = nI ((258 * pr + pc) % 32) := pk_rem (d := 32) (by omega) (by decide) (by decide)
  have e7 : (46 : Int32) + nI ((258 * pr + pc) / 32) = nI (0 + 46 + (258 * pr + pc) / 32) := nI_add 46 _
  rw [e4, e6, e5, e7, gdN (by omega) (by decide), gdN (by omega) (by decide), nI_clamp (by omega)]
  refine ⟨tJ, _, rfl, q6, q7, q8, fun k hk => ux_ne (by omega), fun q hq => ?_⟩
  unfold ybit
  show bt (upd al (0 + 46 + (258 * pr + pc) / 32) (fX0_withBit (al (0 + 46 + (258 * pr + pc) / 32)) (nI ((258 * pr + pc) % 32)) (bi b)) (0 + 46 + q / 32)) (q % 32) = _
  have hm1 : (258 * pr + pc) % 32 < 32 := Nat.mod_lt _ (by decide)
  have hm2 : q % 32 < 32 := Nat.mod_lt _ (by decide)
  by_cases c : q / 32 = (258 * pr + pc) / 32
  · rw [c, ux_at, bt_with _ _ hm1 hm2]
    by_cases d : q = 258 * pr + pc
    · rw [if_pos d, if_pos (by rw [d])]
    · rw [if_neg d, if_neg (by omega)]
  · rw [ux_ne (by omega), if_neg (by intro d; rw [d] at c; exact c rfl)]
theorem y_write_l {al : Nat → Int32} (hY : memY al 0 N R C B nb) (ok : okN N w) (hf : okM w f) (hb : okBd nb R C B) (hbs : bst R C nb (N 3) (N 4) (syS C nb nb) bs) (hfit : ∀ k, k < nb → R k < 2 ^ (w - f) ∧ C k < N 1 * 2 ^ f) {a : Nat} (ha : a < 2 ^ w) (p : Int32) : ∀ (d F j : Nat) (tI t : Nat → Int32), j + d = N 1 → d < F → tI 19 = nI (2 ^ f) → yG R C nb bs tI gr gc → (∀ k, (k < 46 ∨ 4208 ≤ k) → t k = al k) → (∀ i, i < j → ybit t 0 (258 * plR R C nb w f bs a + plC N f bs a i) = bt p i) → (∀ q, q < 133184 → (∀ i, i < j → q ≠ 258 * plR R C nb w f bs a + plC N f bs a i) → ybit t 0 q = ybit al 0 q) → ∃ tJ al2, fX11_write_l33 (nI a) p gr gc F (nI j) tI t = some (tJ, al2) ∧ (∀ k, (k < 15 ∨ 19 ≤ k) → tJ k = tI k) ∧ (∀ k, (k < 46 ∨ 4208 ≤ k) → al2 k = al k) ∧ (∀ i, i < N 1 → ybit al2 0 (258 * plR R C nb w f bs a + plC N f bs a i) = bt p i) ∧ ∀ q, q < 133184 → (∀ i, i < N 1 → q ≠ 258 * plR R C nb w f bs a + plC N f bs a i) → ybit al2 0 q = ybit al 0 q := by
  have hN1 := ok.2.2.2.2.1
  have g := gOk_of hbs hfit
  have hN3 := ok.2.2.2.2.2.2.1
  have hN4 := ok.2.2.2.2.2.2.2.1
  have h8 := p2f hf.1
  have hp : 2 ^ (w - f) ≤ 512 := Nat.le_trans (Nat.pow_le_pow_right (n := 2) (by decide) hf.2.2) (by decide)
  have hp2 : N 1 * 2 ^ f ≤ 32 * 8 := Nat.mul_le_mul ok.2.2.2.2.1 h8.2
  have hPR := plR_lt g hf ha
  intro d
  induction d with
  | zero =>
    intro F j tI t e1 e2 h19 hG h1 h2 h3
    obtain ⟨F, rfl⟩ : ∃ G, F = G + 1 := ⟨F - 1, by omega⟩
    have ej : j = N 1 := by omega
    have t1 : t 1 = nI (N 1) := (h1 1 (by decide)).trans (al_k hY (by decide))
    rw [fX11_write_l33, t1, if_pos (nI_le (by omega) (by omega))]
    refine ⟨tI, t, rfl, fun _ _ => rfl, h1, ?_, ?_⟩
    · rw [← ej]; exact h2
    · rw [← ej]; exact h3
  | succ d ih =>
    intro F j tI t e1 e2 h19 hG h1 h2 h3
    obtain ⟨F, rfl⟩ : ∃ G, F = G + 1 := ⟨F - 1, by omega⟩
    have t1 : t 1 = nI (N 1) := (h1 1 (by decide)).trans (al_k hY (by decide))
    have hYt := memY_cong (al2 := t) hb (b2 := 0) (by decide) (fun k hk => h1 (0 + k) (by omega)) hY
    rw [fX11_write_l33, t1, if_neg (nI_ge (by omega) (by omega)), bit1 p (show j < 32 by omega), show nI j + (1 : Int32) = nI (j + 1) from nI_1 j]
    obtain ⟨tJ, al2, q1, q2, q3, q4, q5, q6⟩ := y_lays (gr := gr) (gc := gc) hYt.2.1 ok hf hb hYt.2.2 hbs hfit h19 hG ha (show j < N 1 by omega) (bt p j)
    rw [q1, bnS]
    obtain ⟨tK, al3, r1, r2, r3, r4, r5⟩ := ih F (j + 1) tJ al2 (by omega) (by omega) q2 q3 (fun k hk => (q5 k hk).trans (h1 k hk)) (fun i hi => by
      have hPC := plC_lt (a := a) g (show i < N 1 by omega)
      rw [q6 _ (by omega)]
      by_cases c : i = j
      · subst c; rw [if_pos rfl]
      · rw [if_neg]
        · exact h2 i (by omega)
        · intro z
          exact c (plC_inj (f := f) (bs := bs) (a := a) (show i < N 1 by omega) (show j < N 1 by omega) (by omega))) (fun q hq hno => by
      rw [q6 q hq, if_neg (hno j (Nat.lt_succ_self j))]
      exact h3 q hq (fun i hi => hno i (by omega)))
    exact ⟨tK, al3, r1, fun k hk => (r2 k hk).trans (q4 k hk), r3, r4, r5⟩
end YPUT_
theorem celR_write {R C N : Nat → Nat} {nb w f : Nat} {bs : Option OF} {wd sp wd2 sp2 al al2 : Nat → Int32} {a : Nat} (ok : okN N w) (hf : okM w f) (g : gOk R C nb bs (2 ^ (w - f)) (N 1 * 2 ^ f) (N 3) (N 4)) (ha : a < 2 ^ w) (p : Int32) (h1 : ∀ i, i ≠ plR R C nb w f bs a * 2 ^ f + a % 2 ^ f → wd2 i = wd i) (h2 : ∀ j, j < 32 → bt (wd2 (plR R C nb w f bs a * 2 ^ f + a % 2 ^ f)) j = if j < N 1 ∧ fndP (gKo bs) (N 1 * 2 ^ f) (j * 2 ^ f + a % 2 ^ f) (gC bs) = j * 2 ^ f + a % 2 ^ f then bt p j else bt (wd (plR R C nb w f bs a * 2 ^ f + a % 2 ^ f)) j) (h3 : ∀ r u, u < 2 → spb sp2 r u = if r = plR R C nb w f bs a ∧ u < gC bs ∧ gKo bs u % 2 ^ f = a % 2 ^ f then bt p (gKo bs u / 2 ^ f) else spb sp r u) (h4 : ∀ i, i < N 1 → ybit al2 0 (258 * plR R C nb w f bs a + plC N f bs a i) = bt p i) (h5 : ∀ q, q < 133184 → (∀ i, i < N 1 → q ≠ 258 * plR R C nb w f bs a + plC N f bs a i) → ybit al2 0 q = ybit al 0 q) (hc : celR wd sp al 0 N w f) : celR wd2 sp2 al2 0 N w f := by
  have hN1 := ok.2.2.2.2.1
  have hN3 := ok.2.2.2.2.2.2.1
  have hN4 := ok.2.2.2.2.2.2.2.1
  have h8 := p2f hf.1
  have hp : 2 ^ (w - f) ≤ 512 := Nat.le_trans (Nat.pow_le_pow_right (n := 2) (by decide) hf.2.2) (by decide)
  have hp2 : N 1 * 2 ^ f ≤ 32 * 8 := Nat.mul_le_mul ok.2.2.2.2.1 h8.2
  have hPR := plR_lt g hf ha
  have hmod : a % 2 ^ f < 2 ^ f := Nat.mod_lt _ (Nat.two_pow_pos f)
  have hg4 := g.2.1
  have hPC : ∀ i, i < N 1 → plC N f bs a i < N 1 * 2 ^ f + N 4 := fun i hi => plC_lt (a := a) g hi
  have hor := fun j => plC_or (N := N) (f := f) (bs := bs) a j
  generalize hpr : plR R C nb w f bs a = pr at *
  have idx : ∀ r o, o < 2 ^ f → (r * 2 ^ f + o = pr * 2 ^ f + a % 2 ^ f ↔ (r = pr ∧ o = a % 2 ^ f)) := by
    intro r o ho
    constructor
    · intro z
      have q1 := (dm_eq (c := r * 2 ^ f + o) (j := r) h8.1 ho).mp rfl
      have q2 := (dm_eq (c := r * 2 ^ f + o) (j := pr) h8.1 hmod).mp z
      exact ⟨by rw [← q1.2, q2.2], by rw [← q1.1, q2.1]⟩
    · intro ⟨z1, z2⟩; rw [z1, z2]
  intro r hr
  obtain ⟨k1, k2, k3⟩ := hc r hr
  refine ⟨fun c hcc => ?_, fun i hi => ?_, fun o ho j j1 j2 => ?_⟩
  · have hcm : c % 2 ^ f < 2 ^ f := Nat.mod_lt _ (Nat.two_pow_pos f)
    have hj : c / 2 ^ f < N 1 := (Nat.div_lt_iff_lt_mul h8.1).mpr hcc
    by_cases e : r = pr ∧ c % 2 ^ f = a % 2 ^ f
    · have ec : c = c / 2 ^ f * 2 ^ f + a % 2 ^ f := (dm_eq h8.1 hmod).mpr ⟨e.2, rfl⟩
      rw [e.1, e.2, h2 _ (by omega)]
      rcases hor (c / 2 ^ f) with ⟨s1, s2⟩ | ⟨i, s0, s1, s2⟩
      · have s2' : fndP (gKo bs) (N 1 * 2 ^ f) (c / 2 ^ f * 2 ^ f + a % 2 ^ f) (gC bs) = c / 2 ^ f * 2 ^ f + a % 2 ^ f := s2
        rw [if_pos ⟨hj, s2'⟩]
        have := h4 (c / 2 ^ f) hj
        rw [s2, ← ec] at this
        exact this.symm
      · have s2' : fndP (gKo bs) (N 1 * 2 ^ f) (c / 2 ^ f * 2 ^ f + a % 2 ^ f) (gC bs) = N 1 * 2 ^ f + i := s2
        rw [if_neg (by intro z; rw [s2'] at z; omega)]
        have old := k1 c hcc
        rw [e.1, e.2] at old
        rw [old, h5 _ (by omega)]
        intro t ht z
        have zc : c = plC N f bs a t := by omega
        rcases hor t with ⟨u1, u2⟩ | ⟨i2, u0, u1, u2⟩
        · exact u1 i s0 (by rw [s1, ← ec, zc, u2])
        · omega
    · have ne : r * 2 ^ f + c % 2 ^ f ≠ pr * 2 ^ f + a % 2 ^ f := fun z => e ((idx r (c % 2 ^ f) hcm).mp z)
      rw [h1 _ ne, k1 c hcc, h5 _ (by omega)]
      intro t ht z
      have := hPC t ht
      have zr : r = pr := by omega
      have zc : c = plC N f bs a t := by omega
      rcases hor t with ⟨u1, u2⟩ | ⟨i2, u0, u1, u2⟩
      · exact e ⟨zr, ((dm_eq (c := c) (j := t) h8.1 hmod).mp (by rw [zc, u2])).1⟩
      · omega
  · rw [h3 r i hi]
    by_cases e : r = pr ∧ i < gC bs ∧ gKo bs i % 2 ^ f = a % 2 ^ f
    · have ec : gKo bs i = gKo bs i / 2 ^ f * 2 ^ f + a % 2 ^ f := (dm_eq h8.1 hmod).mpr ⟨e.2.2, rfl⟩
      have hj : gKo bs i / 2 ^ f < N 1 := (Nat.div_lt_iff_lt_mul h8.1).mpr (g.2.2.2.2.1 i e.2.1)
      rw [if_pos e, e.1]
      have := h4 (gKo bs i / 2 ^ f) hj
      rcases hor (gKo bs i / 2 ^ f) with ⟨s1, s2⟩ | ⟨i2, s0, s1, s2⟩
      · exact absurd ec (s1 i e.2.1)
      · have : i2 = i := up_inj g.2.2.2.2.2 s0 e.2.1 (by rw [s1]; exact ec.symm)
        subst this
        rw [s2] at this
        have h4' := h4 (gKo bs i2 / 2 ^ f) hj
        rw [s2] at h4'
        exact h4'.symm
    · rw [if_neg e, k2 i hi, h5 _ (by omega)]
      intro t ht z
      have := hPC t ht
      have zr : r = pr := by omega
      have zc : N 1 * 2 ^ f + i = plC N f bs a t := by omega
      have hct := col_lt (f := f) (a := a) ht
      rcases hor t with ⟨u1, u2⟩ | ⟨i2, u0, u1, u2⟩
      · omega
      · have : i2 = i := by omega
        subst this
        exact e ⟨zr, u0, ((dm_eq (c := gKo bs i2) (j := t) h8.1 hmod).mp u1).1⟩
  · by_cases e : r = pr ∧ o = a % 2 ^ f
    · rw [e.1, e.2, h2 j j2, if_neg (by omega)]
      have := k3 o ho j j1 j2
      rw [e.1, e.2] at this
      exact this
    · have ne : r * 2 ^ f + o ≠ pr * 2 ^ f + a % 2 ^ f := fun z => e ((idx r o ho).mp z)
      rw [h1 _ ne]; exact k3 o ho j j1 j2
theorem sim_write : Sim_write Rel := by
  intro x y p0 p1 h
  have h' := h
  obtain ⟨⟨N, R, C, B, w, f, nb, hm, hwr⟩, hwhy, htap, hflt, hpst, himg⟩ := h'
  have hm' := hm
  obtain ⟨hP, hX, hY, hc⟩ := hm'
  have hP' := hP
  obtain ⟨ok, hM, hmx, hb, hfit, hds⟩ := hP'
  have hwr' := hwr
  obtain ⟨hW, hG, hbs, hfw⟩ := hwr'
  have hw := pw10 ok.2.2.1
  have h0 : x.1 2 0 = nI (2 ^ w) := by have := hX.1 0 (by decide); rw [ok.1] at this; exact this
  have h1 : x.1 2 1 = nI (N 1) := hX.1 1 (by decide)
  have h0y : y.1 1 0 = nI (2 ^ w) := by have := al_k hY (k := 0) (by decide); rw [ok.1] at this; exact this
  have wy := Rel_why h
  unfold fX10_write fX11_write
  rw [h0y]
  rcases adr (x.1 2) h0 (by omega) p0 with ⟨r1, r2⟩ | ⟨a, r1, r2, r3, r4⟩
  · rw [if_pos r1, if_pos r2]
    exact ⟨_, _, rfl, rfl, rfl, wy _ _ _ _ rfl rfl rfl rfl rfl⟩
  · rw [if_neg r3, if_neg r4, r2]
    obtain ⟨pI2, rv2, tJ, al2, g1, g2, g3, g4, g5⟩ := pst_push hpst ⟨N, R, C, B, w, f, nb, hm⟩
    have g1 : fX1_remember (x.1 10) x.2.1 (x.1 1) (x.1 2) (x.1 3) (x.1 4) (x.1 5) (x.1 6) (x.1 7) = some (pI2, rv2) := g1
    have hY2 := memY_cong hb (b2 := 0) (by decide) (fun k hk => g5 (0 + k) (by omega)) hY
    obtain ⟨tK, z, gr, gc, nr, q1, q2, q3, -, q5⟩ := y_laysAll hY2.2.1 ok hmx hb hY2.2.2 tJ (y.1 4) (y.1 5) (y.1 6) (y.1 7)
    obtain ⟨wd2, sp2, u1, u2, u3, u4⟩ := x_putWord (nu := x.1 2) (wd := x.1 6) (sp := x.1 7) hW ok hM (gOk_of hbs hfit) hG h1 r1 p1
    obtain ⟨tL, al3, v1, v2, v3, v4, v5⟩ := y_write_l (gr := gr) (gc := gc) hY2 ok hM hb hbs hfit r1 p1 (N 1) FU 0 tK al2 (by omega) (by show _ < 4294967296; have := ok.2.2.2.2.1; omega) q2 q3 (fun _ _ => rfl) (fun i hi => absurd hi (Nat.not_lt_zero i)) (fun _ _ _ => rfl)
    have v1 : fX11_write_l33 (nI a) p1 gr gc FU (0 : Int32) tK al2 = some (tL, al3) := v1
    rw [g1, bnS, u1, bnS, g2, bnS]
    dsimp only
    rw [q1, bnS]
    dsimp only
    rw [v1, bnS]
    have tl : ∀ i, i < 11 → tL i = tJ i := fun i hi => (v2 i (by omega)).trans (q5 i (.inl hi))
    have hc2 : celR (x.1 6) (x.1 7) al2 0 N w f := celR_al ok hM (fun k k1 k2 => g5 k (by omega)) hc
    have hc3 := celR_write ok hM (gOk_of hbs hfit) r1 p1 u2 u3 u4 v4 v5 hc2
    refine ⟨_, _, rfl, rfl, rfl, ⟨N, R, C, B, w, f, nb, ⟨hP, hX, ?_, ?_⟩, hwr⟩, ⟨rfl, rfl, rfl⟩, ?_, ?_, ?_, ?_⟩
    · refine memY_cong hb (by decide) (fun k hk => ?_) hY2
      show upd (upd (upd _ 4208 _) 4209 _) 4210 _ (0 + k) = _
      rw [ux_ne (by omega), ux_ne (by omega), ux_ne (by omega)]
      exact v3 _ (by omega)
    · refine celR_al ok hM (fun k k1 k2 => ?_) hc3
      show upd (upd (upd _ 4208 _) 4209 _) 4210 _ k = _
      rw [ux_ne (by omega), ux_ne (by omega), ux_ne (by omega)]
    · exact tapR_cong (fun _ _ => rfl) ((tl 3 (by decide)).trans (g4 3 (by decide))) htap
    · exact ⟨hflt.1.trans ((tl 4 (by decide)).trans (g4 4 (by decide))).symm, hflt.2.trans ((tl 5 (by decide)).trans (g4 5 (by decide))).symm⟩
    · have e6 : tL 6 = tJ 6 := tl 6 (by decide)
      show pstR pI2 rv2 (tL 6) _
      rw [e6]
      refine pstR_cong (fun k k1 k2 => ?_) g3
      show upd (upd (upd _ 4208 _) 4209 _) 4210 _ k = _
      rw [ux_ne (by omega), ux_ne (by omega), ux_ne (by omega)]
      exact v3 k (by omega)
    · refine imgR_cong (fun k k1 => ?_) himg
      show upd (upd (upd _ 4208 _) 4209 _) 4210 _ k = _
      rw [ux_ne (by omega), ux_ne (by omega), ux_ne (by omega)]
      exact (v3 k (by omega)).trans (g5 k (by omega))
