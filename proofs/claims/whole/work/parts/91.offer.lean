/-! ===== BAD cells as both sides hold them; the rows that a choice of columns leaves ===== -/
/-- a column, or none: 0 is none, c + 1 is column c -/
def cI (o : Nat) : Int32 := if o = 0 then (-1 : Int32) else nI (o - 1)
theorem nI_m1 {c : Nat} (h : c < 2 ^ 31) : ¬ nI c = (-1 : Int32) := by
  intro e
  have h1 := nI_toInt h
  rw [e] at h1
  have : ((-1 : Int32)).toInt = -1 := by decide
  omega
theorem cI_eq {c o : Nat} (hc : c < 2 ^ 31) (ho : o ≤ 1000) : nI c = cI o ↔ c + 1 = o := by
  unfold cI
  by_cases e : o = 0
  · rw [if_pos e]; exact ⟨fun z => absurd z (nI_m1 hc), fun z => by omega⟩
  · rw [if_neg e, nI_eq hc (by omega)]; omega
theorem cI_none {o : Nat} (ho : o ≤ 1000) : cI o = (-1 : Int32) ↔ o = 0 := by
  unfold cI
  by_cases e : o = 0
  · rw [if_pos e]; exact ⟨fun _ => e, fun _ => rfl⟩
  · rw [if_neg e]; exact ⟨fun z => absurd z (nI_m1 (by omega)), fun z => absurd z e⟩
theorem cI_pos {o : Nat} (h : 0 < o) : cI o = nI (o - 1) := if_neg (by omega)
theorem cI_s (c : Nat) : cI (c + 1) = nI c := if_neg (by omega)
def okBd (nb : Nat) (R C B : Nat → Nat) : Prop := nb ≤ 12 ∧ ∀ k, k < nb → R k < 512 ∧ C k < 256 ∧ B k ≤ 1
def xBd (sI br bc bb : Nat → Int32) (nb : Nat) (R C B : Nat → Nat) : Prop := sI 4 = nI nb ∧ ∀ k, k < nb → br k = nI (R k) ∧ bc k = nI (C k) ∧ bb k = nI (B k)
def yBd (al : Nat → Int32) (b nb : Nat) (R C B : Nat → Nat) : Prop := al (b + 9) = nI nb ∧ ∀ k, k < nb → al (b + 10 + 3 * k) = nI (R k) ∧ al (b + 10 + 3 * k + 1) = nI (C k) ∧ al (b + 10 + 3 * k + 2) = nI (B k)
theorem badOfN (b k : Nat) : fX11_badOf (nI b) (nI k) = nI (b + 10 + 3 * k) := by
  unfold fX11_badOf
  show nI b + nI 10 + nI 3 * nI k = _
  rw [pk_mul, nI_add, nI_add]
theorem badAtN (k : Nat) : fX11_badAt (nI k) = nI (0 + 10 + 3 * k) := badOfN 0 k
def rwNd (R C : Nat → Nat) (o1 o2 : Nat) : Nat → (Nat → Nat) × Nat
  | 0 => (fun _ => 0, 0)
  | k + 1 => if C k + 1 = o1 ∨ C k + 1 = o2 then rwNd R C o1 o2 k else rwStp (rwNd R C o1 o2 k) (R k)
theorem rwNd_up (R C : Nat → Nat) (o1 o2 : Nat) : ∀ k, rwUp (rwNd R C o1 o2 k).1 (rwNd R C o1 o2 k).2 := by
  intro k
  induction k with
  | zero => intro i j _ h; exact absurd h (Nat.not_lt_zero j)
  | succ k ih =>
    rw [rwNd]
    by_cases c : C k + 1 = o1 ∨ C k + 1 = o2
    · rw [if_pos c]; exact ih
    · rw [if_neg c]; exact rwStp_up ih
theorem rwNd_le (R C : Nat → Nat) (o1 o2 : Nat) : ∀ k, (rwNd R C o1 o2 k).2 ≤ k := by
  intro k
  induction k with
  | zero => exact Nat.le_refl _
  | succ k ih =>
    rw [rwNd]
    by_cases c : C k + 1 = o1 ∨ C k + 1 = o2
    · rw [if_pos c]; omega
    · rw [if_neg c]; have := (rwStp_le (rwNd R C o1 o2 k) (R k)).1; omega
theorem rwNd_mem (R C : Nat → Nat) (o1 o2 u : Nat) : ∀ k, (∃ i, i < (rwNd R C o1 o2 k).2 ∧ (rwNd R C o1 o2 k).1 i = u) ↔ ∃ j, j < k ∧ R j = u ∧ ¬ (C j + 1 = o1 ∨ C j + 1 = o2) := by
  intro k
  induction k with
  | zero => exact ⟨fun ⟨i, h, _⟩ => absurd h (Nat.not_lt_zero i), fun ⟨j, h, _⟩ => absurd h (Nat.not_lt_zero j)⟩
  | succ k ih =>
    rw [rwNd]
    by_cases c : C k + 1 = o1 ∨ C k + 1 = o2
    · rw [if_pos c, ih]
      constructor
      · intro ⟨j, h1, h2⟩; exact ⟨j, by omega, h2⟩
      · intro ⟨j, h1, h2, h3⟩
        by_cases ej : j = k
        · subst ej; exact absurd c h3
        · exact ⟨j, by omega, h2, h3⟩
    · rw [if_neg c, rwStp_mem (rwNd_up R C o1 o2 k), ih]
      constructor
      · rintro (⟨j, h1, h2⟩ | h)
        · exact ⟨j, by omega, h2⟩
        · exact ⟨k, Nat.lt_succ_self k, h.symm, c⟩
      · intro ⟨j, h1, h2, h3⟩
        by_cases ej : j = k
        · subst ej; exact .inr h2.symm
        · exact .inl ⟨j, by omega, h2, h3⟩
section NEED_
variable {sI br bc bb al : Nat → Int32} {nb : Nat} {R C B : Nat → Nat} {o1 o2 : Nat}
theorem x_needs (hb : okBd nb R C B) (hx : xBd sI br bc bb nb R C B) (h1 : o1 ≤ 256) (h2 : o2 ≤ 256) : ∀ (j F k : Nat) (tI lf : Nat → Int32), k + j = nb → j < F → tI 8 = nI (rwNd R C o1 o2 k).2 → hld lf (rwNd R C o1 o2 k).1 (rwNd R C o1 o2 k).2 → ∃ tJ lf2, fX3_offer_l8 (cI o1) (cI o2) sI br bc F (nI k) tI lf = some (tJ, lf2) ∧ tJ 8 = nI (rwNd R C o1 o2 nb).2 ∧ (∀ i, i ≠ 8 → tJ i = tI i) ∧ hld lf2 (rwNd R C o1 o2 nb).1 (rwNd R C o1 o2 nb).2 := by
  intro j
  induction j with
  | zero =>
    intro F k tI lf e1 e2 h8 hl
    obtain ⟨F, rfl⟩ : ∃ G, F = G + 1 := ⟨F - 1, by omega⟩
    have : k = nb := by omega
    subst this
    rw [fX3_offer_l8, hx.1, if_pos (nI_le (Nat.le_refl _) (by have := hb.1; omega))]
    exact ⟨tI, lf, rfl, h8, fun i _ => rfl, hl⟩
  | succ j ih =>
    intro F k tI lf e1 e2 h8 hl
    obtain ⟨F, rfl⟩ : ∃ G, F = G + 1 := ⟨F - 1, by omega⟩
    have hk := hb.2 k (by omega)
    have hk2 := hx.2 k (by omega)
    have hb1 := hb.1
    rw [fX3_offer_l8, hx.1, if_neg (nI_ge (by omega) (by omega)), gdN (by omega) (by decide), nI_clamp (by omega), hk2.1, hk2.2.1, show nI k + (1 : Int32) = nI (k + 1) from nI_1 k]
    have hn := rwNd_le R C o1 o2 k
    have hu := rwNd_up R C o1 o2 k
    by_cases c1 : C k + 1 = o1
    · rw [if_pos ((cI_eq (by omega) (by omega)).mpr c1)]
      have e : rwNd R C o1 o2 (k + 1) = rwNd R C o1 o2 k := by rw [rwNd, if_pos (.inl c1)]
      exact ih F (k + 1) tI lf (by omega) (by omega) (by rw [e]; exact h8) (by rw [e]; exact hl)
    · rw [if_neg (fun z => c1 ((cI_eq (by omega) (by omega)).mp z))]
      by_cases c2 : C k + 1 = o2
      · rw [if_pos ((cI_eq (by omega) (by omega)).mpr c2)]
        have e : rwNd R C o1 o2 (k + 1) = rwNd R C o1 o2 k := by rw [rwNd, if_pos (.inr c2)]
        exact ih F (k + 1) tI lf (by omega) (by omega) (by rw [e]; exact h8) (by rw [e]; exact hl)
      · rw [if_neg (fun z => c2 ((cI_eq (by omega) (by omega)).mp z)), gdN (by omega) (by decide), h8]
        have e : rwNd R C o1 o2 (k + 1) = rwStp (rwNd R C o1 o2 k) (R k) := by rw [rwNd, if_neg (by omega)]
        obtain ⟨lf2, q1, q2⟩ := x_put (v := R k) hl (by omega) hu hk.1
        rw [q1, bnS]
        obtain ⟨tJ, lf3, w1, w2, w3, w4⟩ := ih F (k + 1) (upd tI 8 (nI (rwStp (rwNd R C o1 o2 k) (R k)).2)) lf2 (by omega) (by omega) (by rw [e, ux_at]) (by rw [e]; exact q2)
        exact ⟨tJ, lf3, w1, w2, fun i hi => by rw [w3 i hi, ux_ne hi], w4⟩
theorem y_needs_l (hb : okBd nb R C B) (hy : yBd al 0 nb R C B) (h1 : o1 ≤ 256) (h2 : o2 ≤ 256) : ∀ (j F k : Nat) (tI lf : Nat → Int32), k + j = nb → j < F → tI 13 = nI (rwNd R C o1 o2 k).2 → hld lf (rwNd R C o1 o2 k).1 (rwNd R C o1 o2 k).2 → ∃ tJ lf2, fX11_needs_l7 (cI o1) (cI o2) al F (nI k) tI lf = some (tJ, lf2) ∧ tJ 13 = nI (rwNd R C o1 o2 nb).2 ∧ (∀ i, i ≠ 13 → tJ i = tI i) ∧ hld lf2 (rwNd R C o1 o2 nb).1 (rwNd R C o1 o2 nb).2 := by
  have hy9 : al 9 = nI nb := hy.1
  intro j
  induction j with
  | zero =>
    intro F k tI lf e1 e2 h8 hl
    obtain ⟨F, rfl⟩ : ∃ G, F = G + 1 := ⟨F - 1, by omega⟩
    have : k = nb := by omega
    subst this
    rw [fX11_needs_l7, hy9, if_pos (nI_le (Nat.le_refl _) (by have := hb.1; omega))]
    exact ⟨tI, lf, rfl, h8, fun i _ => rfl, hl⟩
  | succ j ih =>
    intro F k tI lf e1 e2 h8 hl
    obtain ⟨F, rfl⟩ : ∃ G, F = G + 1 := ⟨F - 1, by omega⟩
    have hk := hb.2 k (by omega)
    have hk2 := hy.2 k (by omega)
    have hb1 := hb.1
    rw [fX11_needs_l7, hy9, if_neg (nI_ge (by omega) (by omega)), badAtN, show nI (0 + 10 + 3 * k) + (1 : Int32) = nI (0 + 10 + 3 * k + 1) from nI_1 _, gdN (by omega) (by decide), gdN (by omega) (by decide), nI_clamp (by omega), nI_clamp (by omega), hk2.1, hk2.2.1, show nI k + (1 : Int32) = nI (k + 1) from nI_1 k]
    have hn := rwNd_le R C o1 o2 k
    have hu := rwNd_up R C o1 o2 k
    have skip : (C k + 1 = o1 ∨ C k + 1 = o2) → ∀ x : Int32, x = 1 → ∃ tJ lf2, (bn (fX11_needs_l64 (nI (R k)) tI lf FU x (0 : Int32)) fun y8 => (if y8 = 0 then bn (fX11_needs_l117 (nI (R k)) FU (tI 13) lf) fun y15 => gd (gi y15.1 13) (fX11_needs_l7 (cI o1) (cI o2) al F (nI (k + 1)) (upd tI 13 ((tI 13) + (1 : Int32))) (upd y15.2 y15.1.toNatClampNeg (nI (R k)))) else fX11_needs_l7 (cI o1) (cI o2) al F (nI (k + 1)) tI lf)) = some (tJ, lf2) ∧ tJ 13 = nI (rwNd R C o1 o2 nb).2 ∧ (∀ i, i ≠ 13 → tJ i = tI i) ∧ hld lf2 (rwNd R C o1 o2 nb).1 (rwNd R C o1 o2 nb).2 := by
      intro c x hx
      subst hx
      obtain ⟨r, q1, q2⟩ := y_is (v := R k) tI hl (by omega) h8 hk.1 (rwNd R C o1 o2 k).2 FU 0 1 (by omega) (by show _ < 4294967296; omega) (.inr rfl)
      have q1 : fX11_needs_l64 (nI (R k)) tI lf FU 1 (0 : Int32) = some r := q1
      rw [q1, bnS, if_neg (fun z => absurd (q2.mp z).1 (by decide))]
      have e : rwNd R C o1 o2 (k + 1) = rwNd R C o1 o2 k := by rw [rwNd, if_pos c]
      exact ih F (k + 1) tI lf (by omega) (by omega) (by rw [e]; exact h8) (by rw [e]; exact hl)
    by_cases c1 : C k + 1 = o1
    · rw [if_pos ((cI_eq (by omega) (by omega)).mpr c1)]
      exact skip (.inl c1) _ rfl
    · rw [if_neg (fun z => c1 ((cI_eq (by omega) (by omega)).mp z))]
      by_cases c2 : C k + 1 = o2
      · rw [if_pos ((cI_eq (by omega) (by omega)).mpr c2)]
        exact skip (.inr c2) _ rfl
      · rw [if_neg (fun z => c2 ((cI_eq (by omega) (by omega)).mp z))]
        have e : rwNd R C o1 o2 (k + 1) = rwStp (rwNd R C o1 o2 k) (R k) := by rw [rwNd, if_neg (by omega)]
        obtain ⟨r, q1, q2⟩ := y_is (v := R k) tI hl (by omega) h8 hk.1 (rwNd R C o1 o2 k).2 FU 0 0 (by omega) (by show _ < 4294967296; omega) (.inl rfl)
        have q1 : fX11_needs_l64 (nI (R k)) tI lf FU (0 : Int32) (0 : Int32) = some r := q1
        rw [q1, bnS]
        by_cases c3 : ∃ i, i < (rwNd R C o1 o2 k).2 ∧ (rwNd R C o1 o2 k).1 i = R k
        · have hr : ¬ r = 0 := by
            intro z
            obtain ⟨i, w1, w2⟩ := c3
            exact (q2.mp z).2 i (Nat.zero_le _) w1 w2
          rw [if_neg hr]
          have e2 : rwStp (rwNd R C o1 o2 k) (R k) = rwNd R C o1 o2 k := rwStp_in ((rwMem hu).mpr c3)
          exact ih F (k + 1) tI lf (by omega) (by omega) (by rw [e, e2]; exact h8) (by rw [e, e2]; exact hl)
        · have hr : r = 0 := q2.mpr ⟨rfl, fun i _ w2 w3 => c3 ⟨i, w2, w3⟩⟩
          have e2 : rwStp (rwNd R C o1 o2 k) (R k) = (rwIns (rwNd R C o1 o2 k).1 (rwLow (rwNd R C o1 o2 k).1 (R k) (rwNd R C o1 o2 k).2) (R k), (rwNd R C o1 o2 k).2 + 1) := rwStp_out (fun z => c3 ((rwMem hu).mp z))
          have hlow := (rwLow_spec (v := R k) hu).1
          obtain ⟨lf2, s1, s2⟩ := y_shift (v := R k) hl (by omega) hu hk.1 (fun i w1 w2 => c3 ⟨i, w1, w2⟩) (rwNd R C o1 o2 k).2 FU lf (Nat.le_refl _) (by show _ < 4294967296; omega) (fun i w1 w2 => by omega) (fun j => by rw [if_neg (by omega)])
          rw [if_pos hr, h8, s1, bnS, gdN (by omega) (by decide), nI_clamp (by omega), show nI (rwNd R C o1 o2 k).2 + (1 : Int32) = nI ((rwNd R C o1 o2 k).2 + 1) from nI_1 _]
          obtain ⟨tJ, lf3, w1, w2, w3, w4⟩ := ih F (k + 1) (upd tI 13 (nI ((rwNd R C o1 o2 k).2 + 1))) (upd lf2 (rwLow (rwNd R C o1 o2 k).1 (R k) (rwNd R C o1 o2 k).2) (nI (R k))) (by omega) (by omega) (by rw [e, e2, ux_at]) (by rw [e, e2]; exact hld_ins hl hlow hk.1 s2)
          exact ⟨tJ, lf3, w1, w2, fun i hi => by rw [w3 i hi, ux_ne hi], w4⟩
theorem y_needs (hb : okBd nb R C B) (hy : yBd al 0 nb R C B) (h1 : o1 ≤ 256) (h2 : o2 ≤ 256) (tI lf : Nat → Int32) : ∃ tJ lf2, fX11_needs tI al lf (cI o1) (cI o2) = some (tJ, lf2) ∧ tJ 13 = nI (rwNd R C o1 o2 nb).2 ∧ (∀ i, i ≠ 13 → tJ i = tI i) ∧ hld lf2 (rwNd R C o1 o2 nb).1 (rwNd R C o1 o2 nb).2 := by
  unfold fX11_needs
  obtain ⟨tJ, lf2, q1, q2, q3, q4⟩ := y_needs_l (o1 := o1) (o2 := o2) hb hy h1 h2 nb FU 0 (upd tI 13 (0 : Int32)) lf (by omega) (by show _ < 4294967296; have := hb.1; omega) (ux_at _ _ _) (fun i h => absurd h (Nat.not_lt_zero i))
  have q1 : fX11_needs_l7 (cI o1) (cI o2) al FU (0 : Int32) (upd tI 13 (0 : Int32)) lf = some (tJ, lf2) := q1
  rw [q1, bnS]
  exact ⟨tJ, lf2, rfl, q2, fun i hi => by rw [q3 i hi, ux_ne hi], q4⟩
end NEED_
/-! ===== choices of columns, in their order ===== -/
abbrev OF : Type := Nat × Nat
def ofR (R C : Nat → Nat) (nb : Nat) (o : OF) : Nat := (rwNd R C o.1 o.2 nb).2
def ofA (R C : Nat → Nat) (nb : Nat) (o : OF) : Nat → Nat := (rwNd R C o.1 o.2 nb).1
def ofC (o : OF) : Nat := (if o.1 = 0 then 0 else 1) + (if o.2 = 0 then 0 else 1)
theorem ofC_le (o : OF) : ofC o ≤ 2 := by unfold ofC; split <;> split <;> omega
def encR (a : Nat → Nat) : Nat → Nat
  | 0 => 0
  | i + 1 => encR a i * 512 + a i
theorem encR_lt {a : Nat → Nat} : ∀ {n : Nat}, (∀ i, i < n → a i < 512) → encR a n < 512 ^ n := by
  intro n
  induction n with
  | zero => intro _; exact Nat.one_pos
  | succ n ih =>
    intro h
    have h1 := ih (fun i hi => h i (by omega))
    have h2 := h n (Nat.lt_succ_self n)
    rw [encR, Nat.pow_succ]
    omega
theorem encR_4 {a : Nat → Nat} {n : Nat} (hn : n ≤ 4) (h : ∀ i, i < n → a i < 512) : encR a n < 68719476736 := by
  refine Nat.lt_of_lt_of_le (encR_lt h) ?_
  have : 512 ^ n ≤ 512 ^ 4 := Nat.pow_le_pow_right (by decide) hn
  exact Nat.le_trans this (by decide)
theorem encR_eq {a b : Nat → Nat} : ∀ {n : Nat}, (∀ i, i < n → a i = b i) → encR a n = encR b n := by
  intro n
  induction n with
  | zero => intro _; rfl
  | succ n ih =>
    intro h
    rw [encR, encR, ih (fun i hi => h i (by omega)), h n (Nat.lt_succ_self n)]
theorem encR_lex {a b : Nat → Nat} {i : Nat} (h1 : ∀ j, j < i → a j = b j) (h2 : a i < b i) : ∀ {n : Nat}, i < n → (∀ j, j < n → a j < 512) → encR a n < encR b n := by
  intro n
  induction n with
  | zero => intro h; exact absurd h (Nat.not_lt_zero i)
  | succ n ih =>
    intro h hd
    rw [encR, encR]
    by_cases e : i = n
    · subst e
      rw [encR_eq h1]; omega
    · have q1 := ih (by omega) (fun j hj => hd j (by omega))
      have q2 := hd n (Nat.lt_succ_self n)
      omega
def kyT (R C : Nat → Nat) (nb : Nat) (o : OF) : Nat := (ofR R C nb o + ofC o) * 3 + ofC o
def kyE (R C : Nat → Nat) (nb : Nat) (o : OF) : Nat := encR (ofA R C nb o) (ofR R C nb o)
def kyX (R C : Nat → Nat) (nb : Nat) (o : OF) : Nat := kyT R C nb o * 68719476736 + kyE R C nb o
def kyF (R C : Nat → Nat) (nb : Nat) (o : OF) : Nat := kyX R C nb o * 1048576 + (o.1 * 1024 + o.2)
def vOf (o : OF) : Prop := (o.1 = 0 → o.2 = 0) ∧ o.1 ≤ 256 ∧ o.2 ≤ 256
theorem ofA_b {R C : Nat → Nat} {nb : Nat} {o : OF} (hR : ∀ k, k < nb → R k < 512) : ∀ i, i < ofR R C nb o → ofA R C nb o i < 512 := by
  intro i hi
  obtain ⟨j, h1, h2, -⟩ := (rwNd_mem R C o.1 o.2 (ofA R C nb o i) nb).mp ⟨i, hi, rfl⟩
  rw [← h2]; exact hR j h1
theorem kyE_lt {R C : Nat → Nat} {nb : Nat} {o : OF} (hR : ∀ k, k < nb → R k < 512) (h : ofR R C nb o ≤ 4) : kyE R C nb o < 68719476736 := encR_4 h (ofA_b hR)
