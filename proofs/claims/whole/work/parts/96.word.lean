/-! ===== what is read: the program ===== -/
theorem bt_sh1 : ∀ p, p < 32 → ∀ i, i < 32 → bt ((1 : Int32) <<< (nI p &&& 31)) i = decide (i = p) := by
  intro p hp i hi
  rw [b_shl p hp 1 hi]
  by_cases c : p ≤ i
  · rw [decide_eq_true c, Bool.true_and, bt_1 _ (by omega)]
    by_cases e : i = p
    · rw [decide_eq_true e, decide_eq_true (by omega)]
    · rw [decide_eq_false e, decide_eq_false (by omega)]
  · rw [decide_eq_false c, Bool.false_and, decide_eq_false (by omega)]
theorem bt_not (x : Int32) {i : Nat} (hi : i < 32) : bt (x ^^^ (-1 : Int32)) i = !(bt x i) := by
  rw [b_xor, b_m1 i hi]; cases bt x i <;> rfl
theorem bt_with (x : Int32) (b : Bool) {p : Nat} (hp : p < 32) {j : Nat} (hj : j < 32) : bt (fX0_withBit x (nI p) (bi b)) j = if j = p then b else bt x j := by
  unfold fX0_withBit
  rw [b_or, b_and, bt_not _ hj, bt_sh1 p hp j hj, b_shl p hp _ hj]
  by_cases c : j = p
  · subst c
    rw [if_pos rfl, decide_eq_true rfl, Bool.not_true, Bool.and_false, Bool.false_or, decide_eq_true (Nat.le_refl _), Bool.true_and, Nat.sub_self, bt_bi b (by decide)]
    cases b <;> rfl
  · rw [if_neg c, decide_eq_false c, Bool.not_false, Bool.and_true]
    by_cases d : p ≤ j
    · rw [decide_eq_true d, Bool.true_and, bt_bi b (by omega), decide_eq_false (by omega), Bool.and_false, Bool.or_false]
    · rw [decide_eq_false d, Bool.false_and, Bool.or_false]
def spb (sp : Nat → Int32) (r i : Nat) : Bool := bt (sp ((r * 2 + i) / 32)) ((r * 2 + i) % 32)
theorem x_spareBit (sp : Nat → Int32) {r i : Nat} (hr : r < 517) (hi : i < 2) : fX0_spareBit sp (nI r) (nI i) = some (bi (spb sp r i)) := by
  unfold fX0_spareBit
  have e1 : nI r * (2 : Int32) + nI i = nI (r * 2 + i) := by
    show nI r * nI 2 + nI i = _
    rw [pk_mul, nI_add]
  have e2 : nI (r * 2 + i) >>> ((5 : Int32) &&& 31) = nI ((r * 2 + i) / 32) := shrN (r * 2 + i) 5 (by omega) (by decide)
  have e3 : nI (r * 2 + i) &&& (31 : Int32) = nI ((r * 2 + i) % 32) := fa_mask (r * 2 + i) 5
  rw [e1, e2, e3, if_neg (nI_pos (by omega)), if_neg (show ¬ (33 : Int32) ≤ nI ((r * 2 + i) / 32) from nI_ge (b := 33) (by omega) (by decide)), gdN (by omega) (by decide), nI_clamp (by omega), ubit1 _ (Nat.mod_lt _ (by decide))]
  rfl
def celR (wd sp al : Nat → Int32) (b : Nat) (N : Nat → Nat) (w f : Nat) : Prop := ∀ r, r < 2 ^ (w - f) + N 3 → (∀ c, c < N 1 * 2 ^ f → bt (wd (r * 2 ^ f + c % 2 ^ f)) (c / 2 ^ f) = ybit al b (258 * r + c)) ∧ (∀ i, i < 2 → spb sp r i = ybit al b (258 * r + (N 1 * 2 ^ f + i))) ∧ ∀ o, o < 2 ^ f → ∀ j, N 1 ≤ j → j < 32 → bt (wd (r * 2 ^ f + o)) j = false
def wirW (tI : Nat → Int32) (N : Nat → Nat) (w f : Nat) : Prop := tI 1 = nI (2 ^ f) ∧ tI 2 = nI f ∧ tI 3 = nI (2 ^ (w - f)) ∧ tI 4 = nI (N 1 * 2 ^ f)
def svb : Option Nat → Bool → Bool
  | none, b => b
  | some v, _ => decide (v = 1)
/-- the bit that a cell tells -/
def tld (al : Nat → Int32) (R C B N : Nat → Nat) (nb w f : Nat) (bs : Option OF) (a j : Nat) : Bool := svb (stk R C B (plR R C nb w f bs a) (plC N f bs a j) nb) (ybit al 0 (258 * plR R C nb w f bs a + plC N f bs a j))
theorem stk_none {R C B : Nat → Nat} {pr pc : Nat} : ∀ {n : Nat}, (∀ k, k < n → ¬ (R k = pr ∧ C k = pc)) → stk R C B pr pc n = none := by
  intro n
  induction n with
  | zero => intro _; rfl
  | succ n ih => intro h; rw [stk, if_neg (h n (Nat.lt_succ_self n))]; exact ih (fun k hk => h k (by omega))
theorem stk_val {R C B : Nat → Nat} {nb pr pc v : Nat} (hb : okBd nb R C B) : ∀ {n : Nat}, n ≤ nb → stk R C B pr pc n = some v → v ≤ 1 ∧ ∃ k, k < n ∧ R k = pr ∧ C k = pc ∧ B k = v := by
  intro n
  induction n with
  | zero => intro _ h; cases h
  | succ n ih =>
    intro hn h
    rw [stk] at h
    by_cases c : R n = pr ∧ C n = pc
    · rw [if_pos c] at h
      injection h with h
      subst h
      exact ⟨(hb.2 n (by omega)).2.2, n, Nat.lt_succ_self n, c.1, c.2, rfl⟩
    · rw [if_neg c] at h
      obtain ⟨q1, k, q2, q3⟩ := ih (by omega) h
      exact ⟨q1, k, by omega, q3⟩
theorem svB_bi {R C B : Nat → Nat} {nb pr pc : Nat} (hb : okBd nb R C B) (x : Bool) : svB (stk R C B pr pc nb) (bi x) = bi (svb (stk R C B pr pc nb) x) := by
  cases h : stk R C B pr pc nb with
  | none => rfl
  | some v =>
    have := (stk_val hb (Nat.le_refl _) h).1
    show nI v = bi (decide (v = 1))
    have e : v = 0 ∨ v = 1 := by omega
    rcases e with e | e <;> subst e <;> rfl
theorem stk_mended {R C B N : Nat → Nat} {nb w f sp c4 : Nat} {b : OF} {a j : Nat} (h : bst R C nb sp c4 (syS C nb nb) (some b)) (hf : ∀ k, k < nb → R k < 2 ^ (w - f) ∧ C k < N 1 * 2 ^ f) : stk R C B (plR R C nb w f (some b) a) (plC N f (some b) a j) nb = none := by
  apply stk_none
  intro k hk ⟨h1, h2⟩
  have q := hf k hk
  unfold plR at h1
  unfold plC at h2
  rcases fndP_or (a := gA R C nb (some b)) (base := 2 ^ (w - f)) (x := a / 2 ^ f) (gR R C nb (some b)) with ⟨r1, r2⟩ | ⟨i, -, -, r2⟩
  · rcases fndP_or (a := gKo (some b)) (base := N 1 * 2 ^ f) (x := j * 2 ^ f + a % 2 ^ f) (gC (some b)) with ⟨s1, s2⟩ | ⟨i, -, -, s2⟩
    · rw [r2] at h1
      rw [s2] at h2
      rcases gCov (R := R) h.1 hk with ⟨i, i1, i2⟩ | ⟨i, i1, i2⟩
      · exact r1 i i1 (by rw [i2, h1])
      · exact s1 i i1 (by rw [i2, h2])
    · rw [s2] at h2; omega
  · rw [r2] at h1; omega
section XW_
variable {R C B N : Nat → Nat} {nb w f : Nat} {bs : Option OF} {tI rI rr rc : Nat → Int32}
theorem x_rowOf (hW : wirW tI N w f) (hf : okM w f) {a : Nat} (ha : a < 2 ^ 31) : fX9_rowOf tI (nI a) = nI (a / 2 ^ f) := by
  unfold fX9_rowOf
  rw [hW.2.1]
  exact shrN a f ha (by have := hf.1; omega)
theorem x_offset (hW : wirW tI N w f) (a : Nat) : fX9_offset tI (nI a) = nI (a % 2 ^ f) := by
  unfold fX9_offset
  rw [hW.1, show nI (2 ^ f) - (1 : Int32) = nI (2 ^ f - 1) from pk_sub (b := 1) (Nat.two_pow_pos f)]
  exact fa_mask a f
theorem x_columnOf (hW : wirW tI N w f) (hf : okM w f) (a : Nat) {j : Nat} (hj : j < 32) : fX9_columnOf tI (nI a) (nI j) = nI (j * 2 ^ f + a % 2 ^ f) := by
  unfold fX9_columnOf
  have h8 := p2f hf.1
  have : j * 2 ^ f ≤ 32 * 8 := Nat.mul_le_mul (by omega) h8.2
  rw [x_offset hW, hW.2.1, shlN j f (by have := hf.1; omega) (by omega), nI_add]
theorem dm_eq {c j o m : Nat} (hm : 0 < m) (ho : o < m) : c = j * m + o ↔ (c % m = o ∧ c / m = j) := by
  constructor
  · intro h
    subst h
    rw [Nat.mul_comm, Nat.mul_add_mod, Nat.mod_eq_of_lt ho, Nat.mul_add_div hm, Nat.div_eq_of_lt ho, Nat.add_zero]
    exact ⟨rfl, rfl⟩
  · intro ⟨h1, h2⟩
    have := Nat.div_add_mod c m
    rw [h1, h2, Nat.mul_comm] at this
    exact this.symm
theorem x_l31 (hW : wirW tI N w f) (ok : okN N w) (hf : okM w f) (g : gOk R C nb bs (2 ^ (w - f)) (N 1 * 2 ^ f) (N 3) (N 4)) (hx : xG R C nb bs rI rr rc) (sp : Nat → Int32) {a pr : Nat} (hpr : pr < 517) : ∀ (d F i : Nat) (x : Int32), i + d = gC bs → d < F → ∃ x2, fX9_word_l31 (nI a) (nI pr) tI rI rc sp F x (nI i) = some x2 ∧ (∀ j, j < 32 → (∀ t, i ≤ t → t < gC bs → gKo bs t ≠ j * 2 ^ f + a % 2 ^ f) → bt x2 j = bt x j) ∧ ∀ t, i ≤ t → t < gC bs → gKo bs t % 2 ^ f = a % 2 ^ f → bt x2 (gKo bs t / 2 ^ f) = spb sp pr t := by
  obtain ⟨g1, g2, g3, g4, g5, g6⟩ := g
  obtain ⟨-, -, x3, -, x5⟩ := hx
  have hN4 := ok.2.2.2.2.2.2.2.1
  have hN1 := ok.2.2.2.2.1
  have h8 := p2f hf.1
  have hp2 : N 1 * 2 ^ f ≤ 32 * 8 := Nat.mul_le_mul hN1 h8.2
  have hmod : a % 2 ^ f < 2 ^ f := Nat.mod_lt _ (Nat.two_pow_pos f)
  generalize gC bs = n at *
  generalize gKo bs = q at *
  have hq32 : ∀ t, t < n → q t / 2 ^ f < 32 := fun t ht => Nat.lt_of_lt_of_le ((Nat.div_lt_iff_lt_mul h8.1).mpr (g5 t ht)) hN1
  intro d
  induction d with
  | zero =>
    intro F i x e1 e2
    obtain ⟨F, rfl⟩ : ∃ G, F = G + 1 := ⟨F - 1, by omega⟩
    rw [fX9_word_l31, x3, if_pos (nI_le (by omega) (by omega))]
    exact ⟨x, rfl, fun _ _ _ => rfl, fun t h1 h2 => by omega⟩
  | succ d ih =>
    intro F i x e1 e2
    obtain ⟨F, rfl⟩ : ∃ G, F = G + 1 := ⟨F - 1, by omega⟩
    have hqi := g5 i (by omega)
    rw [fX9_word_l31, x3, if_neg (nI_ge (by omega) (by omega)), gdN (by omega) (by decide), nI_clamp (by omega), x5 i (by omega), x_offset hW, x_offset hW, show nI i + (1 : Int32) = nI (i + 1) from nI_1 i]
    by_cases c : q i % 2 ^ f = a % 2 ^ f
    · rw [if_pos (by rw [c]), x_spareBit sp hpr (by omega), bnS, hW.2.1, shrN (q i) f (by omega) (by have := hf.1; omega)]
      obtain ⟨x2, w1, w2, w3⟩ := ih F (i + 1) (fX0_withBit x (nI (q i / 2 ^ f)) (bi (spb sp pr i))) (by omega) (by omega)
      refine ⟨x2, w1, fun j hj hno => ?_, fun t t1 t2 t3 => ?_⟩
      · rw [w2 j hj (fun t t1 t2 => hno t (by omega) t2), bt_with _ _ (hq32 i (by omega)) hj, if_neg]
        intro z
        exact hno i (Nat.le_refl _) (by omega) ((dm_eq h8.1 hmod).mpr ⟨c, z.symm⟩)
      · by_cases et : t = i
        · subst et
          rw [w2 _ (hq32 t t2) (fun u u1 u2 u3 => ?_), bt_with _ _ (hq32 t t2) (hq32 t t2), if_pos rfl]
          have e3 : q t = q t / 2 ^ f * 2 ^ f + a % 2 ^ f := (dm_eq h8.1 hmod).mpr ⟨c, rfl⟩
          have := g6 t u (by omega) u2
          omega
        · exact w3 t (by omega) t2 t3
    · rw [if_neg (fun z => c ((nI_eq (by omega) (by omega)).mp z))]
      obtain ⟨x2, w1, w2, w3⟩ := ih F (i + 1) x (by omega) (by omega)
      refine ⟨x2, w1, fun j hj hno => w2 j hj (fun t t1 t2 => hno t (by omega) t2), fun t t1 t2 t3 => ?_⟩
      by_cases et : t = i
      · subst et; exact absurd t3 c
      · exact w3 t (by omega) t2 t3
theorem x_stuck {sI br bc bb : Nat → Int32} (hW : wirW tI N w f) (ok : okN N w) (hf : okM w f) (hb : okBd nb R C B) (hx : xBd sI br bc bb nb R C B) (hfit : ∀ k, k < nb → R k < 2 ^ (w - f) ∧ C k < N 1 * 2 ^ f) {a : Nat} (ha : a < 2 ^ 31) (x0 : Int32) : ∀ (d F k : Nat) (x : Int32), k + d = nb → d < F → (∀ j, j < 32 → bt x j = svb (stk R C B (a / 2 ^ f) (j * 2 ^ f + a % 2 ^ f) k) (bt x0 j)) → ∃ x2, fX9_withStuck_l6 (nI a) tI sI br bc bb F x (nI k) = some x2 ∧ ∀ j, j < 32 → bt x2 j = svb (stk R C B (a / 2 ^ f) (j * 2 ^ f + a % 2 ^ f) nb) (bt x0 j) := by
  have hb1 := hb.1
  have h8 := p2f hf.1
  have hN1 := ok.2.2.2.2.1
  have hmod : a % 2 ^ f < 2 ^ f := Nat.mod_lt _ (Nat.two_pow_pos f)
  intro d
  induction d with
  | zero =>
    intro F k x e1 e2 h
    obtain ⟨F, rfl⟩ : ∃ G, F = G + 1 := ⟨F - 1, by omega⟩
    have : k = nb := by omega
    subst this
    rw [fX9_withStuck_l6, hx.1, if_pos (nI_le (Nat.le_refl _) (by omega))]
    exact ⟨x, rfl, h⟩
  | succ d ih =>
    intro F k x e1 e2 h
    obtain ⟨F, rfl⟩ : ∃ G, F = G + 1 := ⟨F - 1, by omega⟩
    have hk := hb.2 k (by omega)
    have hk2 := hx.2 k (by omega)
    have hk3 := hfit k (by omega)
    have hrow : a / 2 ^ f < 2 ^ 31 := Nat.lt_of_le_of_lt (Nat.div_le_self _ _) ha
    have hp : C k / 2 ^ f < 32 := Nat.lt_of_lt_of_le ((Nat.div_lt_iff_lt_mul h8.1).mpr hk3.2) hN1
    rw [fX9_withStuck_l6, hx.1, if_neg (nI_ge (by omega) (by omega)), gdN (by omega) (by decide), gdN (by omega) (by decide), nI_clamp (by omega), hk2.1, hk2.2.1, hk2.2.2, x_rowOf hW hf ha, x_offset hW, x_offset hW, show nI k + (1 : Int32) = nI (k + 1) from nI_1 k]
    by_cases c1 : R k = a / 2 ^ f
    · rw [if_pos (by rw [c1])]
      by_cases c2 : C k % 2 ^ f = a % 2 ^ f
      · rw [if_pos (by rw [c2]), gdN (by omega) (by decide), hW.2.1, shrN (C k) f (by omega) (by have := hf.1; omega)]
        have eB : nI (B k) = bi (decide (B k = 1)) := by
          have : B k = 0 ∨ B k = 1 := by omega
          rcases this with q | q <;> rw [q] <;> rfl
        rw [eB]
        refine ih F (k + 1) _ (by omega) (by omega) (fun j hj => ?_)
        rw [bt_with _ _ hp hj, stk]
        by_cases ej : j = C k / 2 ^ f
        · rw [if_pos ej, if_pos ⟨c1, (dm_eq h8.1 hmod).mpr ⟨c2, ej.symm⟩⟩]
          rfl
        · rw [if_neg ej, if_neg (fun z => ej ((dm_eq h8.1 hmod).mp z.2).2.symm)]
          exact h j hj
      · rw [if_neg (fun z => c2 ((nI_eq (by omega) (by omega)).mp z))]
        refine ih F (k + 1) x (by omega) (by omega) (fun j hj => ?_)
        rw [stk, if_neg (fun z => c2 ((dm_eq h8.1 hmod).mp z.2).1)]
        exact h j hj
    · rw [if_neg (fun z => c1 ((nI_eq (by omega) hrow).mp z))]
      refine ih F (k + 1) x (by omega) (by omega) (fun j hj => ?_)
      rw [stk, if_neg (fun z => c1 z.1)]
      exact h j hj
theorem wix {pr o : Nat} (ok : okN N w) (hf : okM w f) (hpr : pr < 2 ^ (w - f) + N 3) (ho : o < 2 ^ f) : pr * 2 ^ f + o < 1056 := by
  have h8 := p2f hf.1
  have hw := pw10 ok.2.2.1
  have hN3 := ok.2.2.2.2.2.2.1
  have e : 2 ^ (w - f) * 2 ^ f = 2 ^ w := by rw [← Nat.pow_add]; congr 1; have := hf.2.1; omega
  have h1 : (pr + 1) * 2 ^ f ≤ (2 ^ (w - f) + N 3) * 2 ^ f := Nat.mul_le_mul_right _ hpr
  rw [Nat.add_mul, Nat.add_mul, Nat.one_mul, e] at h1
  have h2 : N 3 * 2 ^ f ≤ 4 * 8 := Nat.mul_le_mul hN3 h8.2
  omega
theorem x_word {sI br bc bb wd sp al : Nat → Int32} (hW : wirW tI N w f) (ok : okN N w) (hf : okM w f) (hb : okBd nb R C B) (hx : xBd sI br bc bb nb R C B) (hfit : ∀ k, k < nb → R k < 2 ^ (w - f) ∧ C k < N 1 * 2 ^ f) (hbs : bst R C nb (N 3) (N 4) (syS C nb nb) bs) (hG : xG R C nb bs rI rr rc) (hc : celR wd sp al 0 N w f) {a : Nat} (ha : a < 2 ^ w) : ∃ v, fX9_word tI rI rr rc sI br bc bb wd sp (nI a) = some v ∧ ∀ j, j < 32 → bt v j = (decide (j < N 1) && tld al R C B N nb w f bs a j) := by
  have g := gOk_of hbs hfit
  have hw := pw10 ok.2.2.1
  have h8 := p2f hf.1
  have hN1 := ok.2.2.2.2.1
  have hN3 := ok.2.2.2.2.2.2.1
  have hN4 := ok.2.2.2.2.2.2.2.1
  have hp : 2 ^ (w - f) ≤ 512 := Nat.le_trans (Nat.pow_le_pow_right (n := 2) (by decide) hf.2.2) (by decide)
  have hp2 : N 1 * 2 ^ f ≤ 32 * 8 := Nat.mul_le_mul hN1 h8.2
  have hmod : a % 2 ^ f < 2 ^ f := Nat.mod_lt _ (Nat.two_pow_pos f)
  have hrow := row_lt hf ha
  have hPR := plR_lt g hf ha
  unfold fX9_word
  have e0 : fX9_rowPlace tI rI rr (nI (a / 2 ^ f)) = some (nI (plR R C nb w f bs a)) := x_rowPlace g hN3 hG hW.2.2.1 (by omega) (by omega)
  have hpl : plR R C nb w f bs a * 2 ^ f ≤ 516 * 8 := Nat.mul_le_mul (by omega) h8.2
  have hix := wix (pr := plR R C nb w f bs a) ok hf hPR hmod
  rw [x_rowOf hW hf (by omega), e0, bnS, hW.2.1, x_offset hW, shlN _ f (by have := hf.1; omega) (by omega), nI_add]
  have ewi : fX0_wordIn wd (nI (plR R C nb w f bs a * 2 ^ f + a % 2 ^ f)) = some (wd (plR R C nb w f bs a * 2 ^ f + a % 2 ^ f)) := by
    unfold fX0_wordIn
    rw [if_neg (nI_pos (by omega)), if_neg (show ¬ (1056 : Int32) ≤ nI (plR R C nb w f bs a * 2 ^ f + a % 2 ^ f) from nI_ge (b := 1056) hix (by decide)), gdN hix (by decide), nI_clamp (by omega)]
  rw [ewi, bnS]
  obtain ⟨x2, q1, q2, q3⟩ := x_l31 (a := a) (pr := plR R C nb w f bs a) hW ok hf g hG sp (by omega) (gC bs) FU 0 (wd (plR R C nb w f bs a * 2 ^ f + a % 2 ^ f)) (by omega) (by show _ < 4294967296; have := g.2.1; omega)
  have q1 : fX9_word_l31 (nI a) (nI (plR R C nb w f bs a)) tI rI rc sp FU (wd (plR R C nb w f bs a * 2 ^ f + a % 2 ^ f)) (0 : Int32) = some x2 := q1
  rw [q1, bnS]
  have hcel := hc _ hPR
  have base : ∀ j, j < 32 → bt x2 j = (decide (j < N 1) && ybit al 0 (258 * plR R C nb w f bs a + plC N f bs a j)) := by
    intro j hj
    by_cases cj : j < N 1
    · rw [decide_eq_true cj, Bool.true_and]
      unfold plC
      rcases fndP_or (a := gKo bs) (base := N 1 * 2 ^ f) (x := j * 2 ^ f + a % 2 ^ f) (gC bs) with ⟨s1, s2⟩ | ⟨i, s0, s1, s2⟩
      · rw [s2, q2 j hj (fun t _ t2 => s1 t t2)]
        have hd := (dm_eq (c := j * 2 ^ f + a % 2 ^ f) (j := j) h8.1 hmod).mp rfl
        have := hcel.1 (j * 2 ^ f + a % 2 ^ f) (col_lt cj)
        rw [hd.1, hd.2] at this
        exact this
      · have hd := (dm_eq (c := gKo bs i) (j := j) h8.1 hmod).mp s1
        have := q3 i (Nat.zero_le _) s0 hd.1
        rw [hd.2] at this
        rw [s2, this]
        exact hcel.2.1 i (by have := g.2.1; omega)
    · rw [decide_eq_false cj, Bool.false_and, q2 j hj (fun t _ t2 => ?_)]
      · exact hcel.2.2 _ hmod j (by omega) hj
      · intro z
        have h1 := g.2.2.2.2.1 t t2
        have h2 : N 1 * 2 ^ f ≤ j * 2 ^ f := Nat.mul_le_mul_right _ (by omega)
        omega
  cases bs with
  | some b =>
    rw [hG.1, show gM (some b) = (1 : Int32) from rfl, if_neg (show ¬ (1 : Int32) = 0 from by decide)]
    refine ⟨x2, rfl, fun j hj => ?_⟩
    rw [base j hj]
    unfold tld
    rw [stk_mended (B := B) hbs hfit]
    rfl
  | none =>
    rw [hG.1, show gM none = (0 : Int32) from rfl, if_pos rfl]
    unfold fX9_withStuck
    have er : plR R C nb w f none a = a / 2 ^ f := rfl
    have ec : ∀ j, plC N f none a j = j * 2 ^ f + a % 2 ^ f := fun _ => rfl
    obtain ⟨x3, r1, r2⟩ := x_stuck (a := a) hW ok hf hb hx hfit (by omega) x2 nb FU 0 x2 (by omega) (by show _ < 4294967296; have := hb.1; omega) (fun j hj => rfl)
    have r1 : fX9_withStuck_l6 (nI a) tI sI br bc bb FU x2 (0 : Int32) = some x3 := r1
    rw [r1, bnS, bnS]
    refine ⟨x3, rfl, fun j hj => ?_⟩
    rw [r2 j hj, base j hj]
    unfold tld
    rw [er, ec]
    by_cases cj : j < N 1
    · rw [decide_eq_true cj, Bool.true_and, Bool.true_and]
    · rw [decide_eq_false cj, Bool.false_and, Bool.false_and]
      have : stk R C B (a / 2 ^ f) (j * 2 ^ f + a % 2 ^ f) nb = none := stk_none (fun k hk z => by
        have h1 := (hfit k hk).2
        have h2 : N 1 * 2 ^ f ≤ j * 2 ^ f := Nat.mul_le_mul_right _ (by omega)
        omega)
      rw [this]; rfl
end XW_
