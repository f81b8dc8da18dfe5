/-! ===== places of rows and columns ===== -/
def fndP (a : Nat → Nat) (base x : Nat) : Nat → Nat
  | 0 => x
  | i + 1 => if a i = x then base + i else fndP a base x i
theorem fndP_out {a : Nat → Nat} {base x : Nat} : ∀ {n : Nat}, (∀ i, i < n → a i ≠ x) → fndP a base x n = x := by
  intro n
  induction n with
  | zero => intro _; rfl
  | succ n ih => intro h; rw [fndP, if_neg (h n (Nat.lt_succ_self n))]; exact ih (fun i hi => h i (by omega))
theorem fndP_at {a : Nat → Nat} {base x i : Nat} : ∀ {n : Nat}, i < n → a i = x → (∀ j, j < n → a j = x → j = i) → fndP a base x n = base + i := by
  intro n
  induction n with
  | zero => intro h; exact absurd h (Nat.not_lt_zero i)
  | succ n ih =>
    intro h1 h2 h3
    rw [fndP]
    by_cases c : a n = x
    · rw [if_pos c, h3 n (Nat.lt_succ_self n) c]
    · rw [if_neg c]
      have : i ≠ n := fun z => c (by rw [← z]; exact h2)
      exact ih (by omega) h2 (fun j hj => h3 j (by omega))
theorem fndP_or {a : Nat → Nat} {base x : Nat} : ∀ (n : Nat), ((∀ i, i < n → a i ≠ x) ∧ fndP a base x n = x) ∨ ∃ i, i < n ∧ a i = x ∧ fndP a base x n = base + i := by
  intro n
  induction n with
  | zero => exact .inl ⟨fun i h => absurd h (Nat.not_lt_zero i), rfl⟩
  | succ n ih =>
    rw [fndP]
    by_cases c : a n = x
    · rw [if_pos c]; exact .inr ⟨n, Nat.lt_succ_self n, c, rfl⟩
    · rw [if_neg c]
      rcases ih with ⟨h1, h2⟩ | ⟨i, h1, h2, h3⟩
      · refine .inl ⟨fun i hi => ?_, h2⟩
        by_cases e : i = n
        · rw [e]; exact c
        · exact h1 i (by omega)
      · exact .inr ⟨i, by omega, h2, h3⟩
theorem up_inj {a : Nat → Nat} {n i j : Nat} (hu : rwUp a n) (hi : i < n) (hj : j < n) (h : a i = a j) : i = j := by
  rcases Nat.lt_trichotomy i j with z | z | z
  · have := hu i j z hj; omega
  · exact z
  · have := hu j i z hi; omega
def gR (R C : Nat → Nat) (nb : Nat) : Option OF → Nat
  | none => 0
  | some b => ofR R C nb b
def gA (R C : Nat → Nat) (nb : Nat) : Option OF → Nat → Nat
  | none => fun _ => 0
  | some b => ofA R C nb b
def gC : Option OF → Nat
  | none => 0
  | some b => ofC b
def gKo : Option OF → Nat → Nat
  | none => fun _ => 0
  | some b => fun i => if i = 0 then b.1 - 1 else b.2 - 1
def gM : Option OF → Int32
  | none => 0
  | some _ => 1
/-- what is given up lies in the array, rising, no more than there are spare ones -/
def gOk (R C : Nat → Nat) (nb : Nat) (bs : Option OF) (rows cols sr sc : Nat) : Prop := gR R C nb bs ≤ sr ∧ gC bs ≤ sc ∧ (∀ i, i < gR R C nb bs → gA R C nb bs i < rows) ∧ rwUp (gA R C nb bs) (gR R C nb bs) ∧ (∀ i, i < gC bs → gKo bs i < cols) ∧ rwUp (gKo bs) (gC bs)
theorem gOk_of {R C : Nat → Nat} {nb sp c4 rows cols : Nat} {bs : Option OF} (h : bst R C nb sp c4 (syS C nb nb) bs) (hf : ∀ k, k < nb → R k < rows ∧ C k < cols) : gOk R C nb bs rows cols sp c4 := by
  cases bs with
  | none => exact ⟨Nat.zero_le _, Nat.zero_le _, fun i h => absurd h (Nat.not_lt_zero i), fun i j _ h => absurd h (Nat.not_lt_zero j), fun i h => absurd h (Nat.not_lt_zero i), fun i j _ h => absurd h (Nat.not_lt_zero j)⟩
  | some b =>
    obtain ⟨h1, h2, h3⟩ := h
    refine ⟨h2.1, h2.2, fun i hi => ?_, rwNd_up R C b.1 b.2 nb, ?_, ?_⟩
    · obtain ⟨j, q1, q2, -⟩ := (rwNd_mem R C b.1 b.2 (ofA R C nb b i) nb).mp ⟨i, hi, rfl⟩
      show ofA R C nb b i < rows
      rw [← q2]; exact (hf j q1).1
    · intro i hi
      have hi : i < ofC b := hi
      show (if i = 0 then b.1 - 1 else b.2 - 1) < cols
      rcases h1 with q | ⟨t, q1, q2⟩ | ⟨t, u, q1, q2, q3, q4⟩
      · rw [q, ofC_0] at hi; omega
      · rw [q2, ofC_1] at hi
        have : i = 0 := by omega
        rw [if_pos this, q2]; exact (hf t q1).2
      · rw [q4, ofC_2] at hi
        have w1 := (hf t q1).2
        have w2 := (hf u q2).2
        rw [q4]
        show (if i = 0 then C t + 1 - 1 else C u + 1 - 1) < cols
        split <;> omega
    · intro i j hij hj
      have hj : j < ofC b := hj
      show (if i = 0 then b.1 - 1 else b.2 - 1) < (if j = 0 then b.1 - 1 else b.2 - 1)
      rcases h1 with q | ⟨t, q1, q2⟩ | ⟨t, u, q1, q2, q3, q4⟩
      · rw [q, ofC_0] at hj; omega
      · rw [q2, ofC_1] at hj; omega
      · rw [q4, ofC_2] at hj
        have e1 : i = 0 := by omega
        have e2 : j ≠ 0 := by omega
        rw [if_pos e1, if_neg e2, q4]
        show C t + 1 - 1 < C u + 1 - 1
        omega
/-- every BAD cell lies in what is given up, if something is -/
theorem gCov {R C : Nat → Nat} {nb : Nat} {b : OF} (v : syS C nb nb b) {k : Nat} (hk : k < nb) : (∃ i, i < gR R C nb (some b) ∧ gA R C nb (some b) i = R k) ∨ ∃ i, i < gC (some b) ∧ gKo (some b) i = C k := by
  by_cases c : C k + 1 = b.1 ∨ C k + 1 = b.2
  · right
    rcases c with c | c
    · refine ⟨0, ?_, ?_⟩
      · show 0 < ofC b
        unfold ofC; rw [if_neg (show ¬ b.1 = 0 by omega)]; omega
      · show (if 0 = 0 then b.1 - 1 else b.2 - 1) = C k
        rw [if_pos rfl]; omega
    · have hb1 : b.1 ≠ 0 := by
        rcases v with q | ⟨t, q1, q2⟩ | ⟨t, u, q1, q2, q3, q4⟩
        · rw [q] at c; exact absurd c (Nat.succ_ne_zero _)
        · rw [q2]; exact Nat.succ_ne_zero _
        · rw [q4]; exact Nat.succ_ne_zero _
      refine ⟨1, ?_, ?_⟩
      · show 1 < ofC b
        unfold ofC; rw [if_neg hb1, if_neg (show ¬ b.2 = 0 by omega)]; omega
      · show (if 1 = 0 then b.1 - 1 else b.2 - 1) = C k
        rw [if_neg (by decide)]; omega
  · left
    obtain ⟨i, h1, h2⟩ := (rwNd_mem R C b.1 b.2 (R k) nb).mpr ⟨k, hk, rfl, c⟩
    exact ⟨i, h1, h2⟩
/-- the program's picture of what is given up -/
def xG (R C : Nat → Nat) (nb : Nat) (bs : Option OF) (rI rr rc : Nat → Int32) : Prop := rI 4 = gM bs ∧ rI 2 = nI (gR R C nb bs) ∧ rI 3 = nI (gC bs) ∧ (∀ i, i < gR R C nb bs → rr i = nI (gA R C nb bs i)) ∧ ∀ i, i < gC bs → rc i = nI (gKo bs i)
def yG (R C : Nat → Nat) (nb : Nat) (bs : Option OF) (tI gr gc : Nat → Int32) : Prop := tI 14 = gM bs ∧ tI 11 = nI (gR R C nb bs) ∧ tI 12 = nI (gC bs) ∧ (∀ i, i < gR R C nb bs → gr i = nI (gA R C nb bs i)) ∧ ∀ i, i < gC bs → gc i = nI (gKo bs i)
theorem cI_gKo {b : OF} (vb : vOf b) {rc : Nat → Int32} (h0 : rc 0 = cI b.1) (h1 : rc 1 = cI b.2) : ∀ i, i < ofC b → rc i = nI (gKo (some b) i) := by
  intro i hi
  have h2 := ofC_le b
  show rc i = nI (if i = 0 then b.1 - 1 else b.2 - 1)
  have hb1 : b.1 ≠ 0 := by
    intro z
    unfold ofC at hi
    rw [if_pos z, if_pos (vb.1 z)] at hi; omega
  by_cases c : i = 0
  · rw [if_pos c, c, h0, cI_pos (by omega)]
  · have e : i = 1 := by omega
    have hb2 : b.2 ≠ 0 := by
      intro z
      unfold ofC at hi
      rw [if_neg hb1, if_pos z] at hi; omega
    rw [if_neg c, e, h1, cI_pos (by omega)]
theorem xG_of {R C : Nat → Nat} {nb : Nat} {bs : Option OF} {rI rr rc : Nat → Int32} (h : xBs R C nb rI rr rc bs) : xG R C nb bs rI rr rc := by
  cases bs with
  | none => exact ⟨h.1, h.2.1, h.2.2, fun i h => absurd h (Nat.not_lt_zero i), fun i h => absurd h (Nat.not_lt_zero i)⟩
  | some b => exact ⟨h.1, h.2.1, h.2.2.1, fun i hi => (h.2.2.2.1 i hi).1, cI_gKo h.2.2.2.2.2.2.2 h.2.2.2.2.1 h.2.2.2.2.2.1⟩
theorem yG_of {R C : Nat → Nat} {nb : Nat} {bs : Option OF} {rI rr rc : Nat → Int32} (h : yBs R C nb rI rr rc bs) : yG R C nb bs rI rr rc := by
  cases bs with
  | none => exact ⟨h.1, h.2.1, h.2.2, fun i h => absurd h (Nat.not_lt_zero i), fun i h => absurd h (Nat.not_lt_zero i)⟩
  | some b => exact ⟨h.1, h.2.1, h.2.2.1, fun i hi => (h.2.2.2.1 i hi).1, cI_gKo h.2.2.2.2.2.2.2 h.2.2.2.2.1 h.2.2.2.2.2.1⟩
section XPL_
variable {R C : Nat → Nat} {nb : Nat} {bs : Option OF} {rI rr rc tI : Nat → Int32} {rows cols sr sc : Nat}
theorem x_rowPlace (g : gOk R C nb bs rows cols sr sc) (hsr : sr ≤ 4) (hx : xG R C nb bs rI rr rc) (h3 : tI 3 = nI rows) (hrows : rows ≤ 1024) {x : Nat} (hxx : x < 2 ^ 31) : fX9_rowPlace tI rI rr (nI x) = some (nI (fndP (gA R C nb bs) rows x (gR R C nb bs))) := by
  unfold fX9_rowPlace
  obtain ⟨g1, g2, g3, g4, g5, g6⟩ := g
  obtain ⟨-, x2, -, x4, -⟩ := hx
  generalize gR R C nb bs = n at *
  generalize gA R C nb bs = a at *
  have loop : ∀ (j F i : Nat), i + j = n → j < F → (∀ t, t < i → a t ≠ x) → (fX9_rowPlace_l2 (nI x) tI rI rr F (nI i) = some (.inl ()) ∧ ∀ t, t < n → a t ≠ x) ∨ ∃ t, t < n ∧ a t = x ∧ fX9_rowPlace_l2 (nI x) tI rI rr F (nI i) = some (.inr (nI (rows + t))) := by
    intro j
    induction j with
    | zero =>
      intro F i e1 e2 h
      obtain ⟨F, rfl⟩ : ∃ G, F = G + 1 := ⟨F - 1, by omega⟩
      have : i = n := by omega
      subst this
      rw [fX9_rowPlace_l2, x2, if_pos (nI_le (Nat.le_refl _) (by omega))]
      exact .inl ⟨rfl, h⟩
    | succ j ih =>
      intro F i e1 e2 h
      obtain ⟨F, rfl⟩ : ∃ G, F = G + 1 := ⟨F - 1, by omega⟩
      have w := g3 i (by omega)
      rw [fX9_rowPlace_l2, x2, if_neg (nI_ge (by omega) (by omega)), gdN (by omega) (by decide), nI_clamp (by omega), x4 i (by omega), h3, nI_add, show nI i + (1 : Int32) = nI (i + 1) from nI_1 i]
      by_cases c : a i = x
      · rw [if_pos (by rw [c])]
        exact .inr ⟨i, by omega, c, rfl⟩
      · rw [if_neg (fun z => c ((nI_eq (by omega) hxx).mp z))]
        exact ih F (i + 1) (by omega) (by omega) (fun t ht => by
          by_cases et : t = i
          · rw [et]; exact c
          · exact h t (by omega))
  rcases loop n FU 0 (by omega) (by show _ < 4294967296; omega) (fun t h => absurd h (Nat.not_lt_zero t)) with ⟨q1, q2⟩ | ⟨t, q1, q2, q3⟩
  · have q1 : fX9_rowPlace_l2 (nI x) tI rI rr FU (0 : Int32) = some (.inl ()) := q1
    rw [q1, bnS, fndP_out q2]
  · have q3 : fX9_rowPlace_l2 (nI x) tI rI rr FU (0 : Int32) = some (.inr (nI (rows + t))) := q3
    rw [q3, bnS, fndP_at q1 q2 (fun j hj h => up_inj g4 hj q1 (h.trans q2.symm))]
theorem x_columnPlace (g : gOk R C nb bs rows cols sr sc) (hsc : sc ≤ 2) (hx : xG R C nb bs rI rr rc) (h4 : tI 4 = nI cols) (hcols : cols ≤ 1024) {x : Nat} (hxx : x < 2 ^ 31) : fX9_columnPlace tI rI rc (nI x) = some (nI (fndP (gKo bs) cols x (gC bs))) := by
  unfold fX9_columnPlace
  obtain ⟨g1, g2, g3, g4, g5, g6⟩ := g
  obtain ⟨-, -, x2, -, x4⟩ := hx
  generalize gC bs = n at *
  generalize gKo bs = a at *
  have loop : ∀ (j F i : Nat), i + j = n → j < F → (∀ t, t < i → a t ≠ x) → (fX9_columnPlace_l2 (nI x) tI rI rc F (nI i) = some (.inl ()) ∧ ∀ t, t < n → a t ≠ x) ∨ ∃ t, t < n ∧ a t = x ∧ fX9_columnPlace_l2 (nI x) tI rI rc F (nI i) = some (.inr (nI (cols + t))) := by
    intro j
    induction j with
    | zero =>
      intro F i e1 e2 h
      obtain ⟨F, rfl⟩ : ∃ G, F = G + 1 := ⟨F - 1, by omega⟩
      have : i = n := by omega
      subst this
      rw [fX9_columnPlace_l2, x2, if_pos (nI_le (Nat.le_refl _) (by omega))]
      exact .inl ⟨rfl, h⟩
    | succ j ih =>
      intro F i e1 e2 h
      obtain ⟨F, rfl⟩ : ∃ G, F = G + 1 := ⟨F - 1, by omega⟩
      have w := g5 i (by omega)
      rw [fX9_columnPlace_l2, x2, if_neg (nI_ge (by omega) (by omega)), gdN (by omega) (by decide), nI_clamp (by omega), x4 i (by omega), h4, nI_add, show nI i + (1 : Int32) = nI (i + 1) from nI_1 i]
      by_cases c : a i = x
      · rw [if_pos (by rw [c])]
        exact .inr ⟨i, by omega, c, rfl⟩
      · rw [if_neg (fun z => c ((nI_eq (by omega) hxx).mp z))]
        exact ih F (i + 1) (by omega) (by omega) (fun t ht => by
          by_cases et : t = i
          · rw [et]; exact c
          · exact h t (by omega))
  rcases loop n FU 0 (by omega) (by show _ < 4294967296; omega) (fun t h => absurd h (Nat.not_lt_zero t)) with ⟨q1, q2⟩ | ⟨t, q1, q2, q3⟩
  · have q1 : fX9_columnPlace_l2 (nI x) tI rI rc FU (0 : Int32) = some (.inl ()) := q1
    rw [q1, bnS, fndP_out q2]
  · have q3 : fX9_columnPlace_l2 (nI x) tI rI rc FU (0 : Int32) = some (.inr (nI (cols + t))) := q3
    rw [q3, bnS, fndP_at q1 q2 (fun j hj h => up_inj g6 hj q1 (h.trans q2.symm))]
end XPL_
/-! ===== one bit ===== -/
theorem bt_1 : ∀ i, i < 32 → bt 1 i = decide (i = 0) := by decide +kernel
theorem bt_bi (b : Bool) {i : Nat} (hi : i < 32) : bt (bi b) i = (b && decide (i = 0)) := by
  cases b with
  | true => show bt 1 i = _; rw [bt_1 i hi]; rfl
  | false => show bt 0 i = _; rw [b_0]; rfl
theorem bit1 (x : Int32) {s : Nat} (hs : s < 32) : (x >>> (nI s &&& 31)) &&& (1 : Int32) = bi (bt x s) := by
  apply b_ext
  intro i hi
  rw [b_and, b_sshr s hs x hi, bt_1 i hi, bt_bi _ hi]
  by_cases c : i = 0
  · subst c; rw [if_pos (by omega), Nat.add_zero]
  · rw [decide_eq_false c, Bool.and_false, Bool.and_false]
theorem ubit1 (x : Int32) {s : Nat} (hs : s < 32) : (ush x (nI s)) &&& (1 : Int32) = bi (bt x s) := by
  apply b_ext
  intro i hi
  rw [b_and, b_ushr s hs x i, bt_1 i hi, bt_bi _ hi]
  by_cases c : i = 0
  · subst c; rw [Nat.add_zero]
  · rw [decide_eq_false c, Bool.and_false, Bool.and_false]
/-- the reference's bit at a place -/
def ybit (al : Nat → Int32) (b q : Nat) : Bool := bt (al (b + 46 + q / 32)) (q % 32)
/-- the bit at which the cell at a place is stuck -/
def stk (R C B : Nat → Nat) (pr pc : Nat) : Nat → Option Nat
  | 0 => none
  | k + 1 => if R k = pr ∧ C k = pc then some (B k) else stk R C B pr pc k
def svB : Option Nat → Int32 → Int32
  | none, x => x
  | some v, _ => nI v
def siB : Option Nat → Int32
  | none => 0
  | some _ => 1
section YPL_
variable {R C B N : Nat → Nat} {nb w f : Nat} {bs : Option OF} {al gr gc : Nat → Int32}
theorem y_l36 (hm : mdl al 0 N) (ok : okN N w) (hf : okM w f) (g : gOk R C nb bs (2 ^ (w - f)) (N 1 * 2 ^ f) (N 3) (N 4)) (hgr : ∀ i, i < gR R C nb bs → gr i = nI (gA R C nb bs i)) {x : Nat} (hx : x < 2 ^ 31) : ∀ (j F i : Nat) (tI : Nat → Int32), i + j = gR R C nb bs → j < F → tI 11 = nI (gR R C nb bs) → tI 19 = nI (2 ^ f) → tI 15 = nI (fndP (gA R C nb bs) (2 ^ (w - f)) x i) → ∃ tJ, fX11_goesTo_l36 (nI x) al gr F (nI i) tI = some tJ ∧ tJ 15 = nI (fndP (gA R C nb bs) (2 ^ (w - f)) x (gR R C nb bs)) ∧ ∀ k, k ≠ 15 → tJ k = tI k := by
  have hrows : fX11_rows al (0 : Int32) (nI (2 ^ f)) = some (nI (2 ^ (w - f))) := y_rows hm ok hf.1
  obtain ⟨g1, g2, g3, g4, g5, g6⟩ := g
  have hN3 := ok.2.2.2.2.2.2.1
  have hp : 2 ^ (w - f) ≤ 512 := Nat.le_trans (Nat.pow_le_pow_right (n := 2) (by decide) hf.2.2) (by decide)
  generalize gR R C nb bs = n at *
  generalize gA R C nb bs = a at *
  intro j
  induction j with
  | zero =>
    intro F i tI e1 e2 h11 h19 h15
    obtain ⟨F, rfl⟩ : ∃ G, F = G + 1 := ⟨F - 1, by omega⟩
    have : i = n := by omega
    subst this
    rw [fX11_goesTo_l36, h11, if_pos (nI_le (Nat.le_refl _) (by omega))]
    exact ⟨tI, rfl, h15, fun k _ => rfl⟩
  | succ j ih =>
    intro F i tI e1 e2 h11 h19 h15
    obtain ⟨F, rfl⟩ : ∃ G, F = G + 1 := ⟨F - 1, by omega⟩
    have w1 := g3 i (by omega)
    rw [fX11_goesTo_l36, h11, if_neg (nI_ge (by omega) (by omega)), gdN (by omega) (by decide), nI_clamp (by omega), hgr i (by omega), h19, hrows, bnS, show nI i + (1 : Int32) = nI (i + 1) from nI_1 i, nI_add]
    by_cases c : a i = x
    · rw [if_pos (by rw [c])]
      obtain ⟨tJ, q1, q2, q3⟩ := ih F (i + 1) (upd tI 15 (nI (2 ^ (w - f) + i))) (by omega) (by omega) (by rw [ux_ne (by decide)]; exact h11) (by rw [ux_ne (by decide)]; exact h19) (by rw [ux_at, fndP, if_pos c])
      exact ⟨tJ, q1, q2, fun k hk => by rw [q3 k hk, ux_ne hk]⟩
    · rw [if_neg (fun z => c ((nI_eq (by omega) hx).mp z))]
      obtain ⟨tJ, q1, q2, q3⟩ := ih F (i + 1) (upd tI 15 (tI 15)) (by omega) (by omega) (by rw [ux_ne (by decide)]; exact h11) (by rw [ux_ne (by decide)]; exact h19) (by rw [ux_at, fndP, if_neg c]; exact h15)
      exact ⟨tJ, q1, q2, fun k hk => by rw [q3 k hk, ux_ne hk]⟩
theorem y_l88 (hm : mdl al 0 N) (ok : okN N w) (hf : okM w f) (g : gOk R C nb bs (2 ^ (w - f)) (N 1 * 2 ^ f) (N 3) (N 4)) (hgc : ∀ i, i < gC bs → gc i = nI (gKo bs i)) {x : Nat} (hx : x < 2 ^ 31) : ∀ (j F i : Nat) (tI : Nat → Int32), i + j = gC bs → j < F → tI 12 = nI (gC bs) → tI 19 = nI (2 ^ f) → tI 16 = nI (fndP (gKo bs) (N 1 * 2 ^ f) x i) → ∃ tJ, fX11_goesTo_l88 (nI x) al gc F (nI i) tI = some tJ ∧ tJ 16 = nI (fndP (gKo bs) (N 1 * 2 ^ f) x (gC bs)) ∧ ∀ k, k ≠ 16 → tJ k = tI k := by
  have hcols : fX11_columns al (0 : Int32) (nI (2 ^ f)) = some (nI (N 1 * 2 ^ f)) := y_columns hm ok
  obtain ⟨g1, g2, g3, g4, g5, g6⟩ := g
  have hN4 := ok.2.2.2.2.2.2.2.1
  have hp : N 1 * 2 ^ f ≤ 32 * 8 := Nat.mul_le_mul ok.2.2.2.2.1 (p2f hf.1).2
  generalize gC bs = n at *
  generalize gKo bs = a at *
  intro j
  induction j with
  | zero =>
    intro F i tI e1 e2 h11 h19 h15
    obtain ⟨F, rfl⟩ : ∃ G, F = G + 1 := ⟨F - 1, by omega⟩
    have : i = n := by omega
    subst this
    rw [fX11_goesTo_l88, h11, if_pos (nI_le (Nat.le_refl _) (by omega))]
    exact ⟨tI, rfl, h15, fun k _ => rfl⟩
  | succ j ih =>
    intro F i tI e1 e2 h11 h19 h15
    obtain ⟨F, rfl⟩ : ∃ G, F = G + 1 := ⟨F - 1, by omega⟩
    have w1 := g5 i (by omega)
    rw [fX11_goesTo_l88, h11, if_neg (nI_ge (by omega) (by omega)), gdN (by omega) (by decide), nI_clamp (by omega), hgc i (by omega), h19, hcols, bnS, show nI i + (1 : Int32) = nI (i + 1) from nI_1 i, nI_add]
    by_cases c : a i = x
    · rw [if_pos (by rw [c])]
      obtain ⟨tJ, q1, q2, q3⟩ := ih F (i + 1) (upd tI 16 (nI (N 1 * 2 ^ f + i))) (by omega) (by omega) (by rw [ux_ne (by decide)]; exact h11) (by rw [ux_ne (by decide)]; exact h19) (by rw [ux_at, fndP, if_pos c])
      exact ⟨tJ, q1, q2, fun k hk => by rw [q3 k hk, ux_ne hk]⟩
    · rw [if_neg (fun z => c ((nI_eq (by omega) hx).mp z))]
      obtain ⟨tJ, q1, q2, q3⟩ := ih F (i + 1) (upd tI 16 (tI 16)) (by omega) (by omega) (by rw [ux_ne (by decide)]; exact h11) (by rw [ux_ne (by decide)]; exact h19) (by rw [ux_at, fndP, if_neg c]; exact h15)
      exact ⟨tJ, q1, q2, fun k hk => by rw [q3 k hk, ux_ne hk]⟩
theorem y_l186 (hb : okBd nb R C B) (hy : yBd al 0 nb R C B) {pr pc : Nat} (hpr : pr < 2 ^ 31) (hpc : pc < 2 ^ 31) (raw : Int32) : ∀ (j F k : Nat) (tI : Nat → Int32), k + j = nb → j < F → tI 15 = nI pr → tI 16 = nI pc → tI 17 = svB (stk R C B pr pc k) raw → tI 18 = siB (stk R C B pr pc k) → ∃ tJ, fX11_goesTo_l186 al F (nI k) tI = some tJ ∧ tJ 17 = svB (stk R C B pr pc nb) raw ∧ tJ 18 = siB (stk R C B pr pc nb) ∧ ∀ i, i ≠ 17 → i ≠ 18 → tJ i = tI i := by
  have hb1 := hb.1
  have hy9 : al 9 = nI nb := hy.1
  intro j
  induction j with
  | zero =>
    intro F k tI e1 e2 h15 h16 h17 h18
    obtain ⟨F, rfl⟩ : ∃ G, F = G + 1 := ⟨F - 1, by omega⟩
    have : k = nb := by omega
    subst this
    rw [fX11_goesTo_l186, hy9, if_pos (nI_le (Nat.le_refl _) (by omega))]
    exact ⟨tI, rfl, h17, h18, fun _ _ _ => rfl⟩
  | succ j ih =>
    intro F k tI e1 e2 h15 h16 h17 h18
    obtain ⟨F, rfl⟩ : ∃ G, F = G + 1 := ⟨F - 1, by omega⟩
    have hk := hb.2 k (by omega)
    have hk2 := hy.2 k (by omega)
    rw [fX11_goesTo_l186, hy9, if_neg (nI_ge (by omega) (by omega)), badAtN, show nI (0 + 10 + 3 * k) + (1 : Int32) = nI (0 + 10 + 3 * k + 1) from nI_1 _, show nI (0 + 10 + 3 * k) + (2 : Int32) = nI (0 + 10 + 3 * k + 2) from nI_add _ 2, gdN (by omega) (by decide), nI_clamp (by omega), nI_clamp (by omega), nI_clamp (by omega), hk2.1, hk2.2.1, hk2.2.2, h15, h16, show nI k + (1 : Int32) = nI (k + 1) from nI_1 k]
    by_cases c1 : R k = pr
    · rw [if_pos (by rw [c1]), gdN (by omega) (by decide)]
      by_cases c2 : C k = pc
      · rw [if_pos (by rw [c2]), gdN (by omega) (by decide)]
        have e : stk R C B pr pc (k + 1) = some (B k) := by rw [stk, if_pos ⟨c1, c2⟩]
        obtain ⟨tJ, q1, q2, q3, q4⟩ := ih F (k + 1) (upd (upd tI 17 (nI (B k))) 18 (1 : Int32)) (by omega) (by omega) (by rw [ux_ne (by decide), ux_ne (by decide)]; exact h15) (by rw [ux_ne (by decide), ux_ne (by decide)]; exact h16) (by rw [e, ux_ne (by decide), ux_at]; rfl) (by rw [e, ux_at]; rfl)
        exact ⟨tJ, q1, q2, q3, fun i i1 i2 => by rw [q4 i i1 i2, ux_ne i2, ux_ne i1]⟩
      · rw [if_neg (fun z => c2 ((nI_eq (by omega) hpc).mp z))]
        have e : stk R C B pr pc (k + 1) = stk R C B pr pc k := by rw [stk, if_neg (fun z => c2 z.2)]
        exact ih F (k + 1) tI (by omega) (by omega) h15 h16 (by rw [e]; exact h17) (by rw [e]; exact h18)
    · rw [if_neg (fun z => c1 ((nI_eq (by omega) hpr).mp z))]
      have e : stk R C B pr pc (k + 1) = stk R C B pr pc k := by rw [stk, if_neg (fun z => c1 z.1)]
      exact ih F (k + 1) tI (by omega) (by omega) h15 h16 (by rw [e]; exact h17) (by rw [e]; exact h18)
/-- the places of a cell -/
def plR (R C : Nat → Nat) (nb w f : Nat) (bs : Option OF) (a : Nat) : Nat := fndP (gA R C nb bs) (2 ^ (w - f)) (a / 2 ^ f) (gR R C nb bs)
def plC (N : Nat → Nat) (f : Nat) (bs : Option OF) (a j : Nat) : Nat := fndP (gKo bs) (N 1 * 2 ^ f) (j * 2 ^ f + a % 2 ^ f) (gC bs)
theorem row_lt {a : Nat} (hf : okM w f) (ha : a < 2 ^ w) : a / 2 ^ f < 2 ^ (w - f) := by
  have : 2 ^ w = 2 ^ f * 2 ^ (w - f) := by rw [← Nat.pow_add]; congr 1; have := hf.2.1; omega
  rw [this] at ha
  exact Nat.div_lt_of_lt_mul ha
theorem col_lt {a j : Nat} (hj : j < N 1) : j * 2 ^ f + a % 2 ^ f < N 1 * 2 ^ f := by
  have h1 : a % 2 ^ f < 2 ^ f := Nat.mod_lt _ (Nat.two_pow_pos f)
  have h2 : (j + 1) * 2 ^ f ≤ N 1 * 2 ^ f := Nat.mul_le_mul_right _ hj
  rw [Nat.add_mul, Nat.one_mul] at h2
  omega
theorem plR_lt {a : Nat} (g : gOk R C nb bs (2 ^ (w - f)) (N 1 * 2 ^ f) (N 3) (N 4)) (hf : okM w f) (ha : a < 2 ^ w) : plR R C nb w f bs a < 2 ^ (w - f) + N 3 := by
  have h1 := row_lt hf ha
  have h2 := g.1
  unfold plR
  rcases fndP_or (a := gA R C nb bs) (base := 2 ^ (w - f)) (x := a / 2 ^ f) (gR R C nb bs) with ⟨-, e⟩ | ⟨i, e1, -, e3⟩
  · rw [e]; omega
  · rw [e3]; omega
theorem plC_lt {a j : Nat} (g : gOk R C nb bs (2 ^ (w - f)) (N 1 * 2 ^ f) (N 3) (N 4)) (hj : j < N 1) : plC N f bs a j < N 1 * 2 ^ f + N 4 := by
  have h1 := col_lt (f := f) (a := a) hj
  have h2 := g.2.1
  unfold plC
  rcases fndP_or (a := gKo bs) (base := N 1 * 2 ^ f) (x := j * 2 ^ f + a % 2 ^ f) (gC bs) with ⟨-, e⟩ | ⟨i, e1, -, e3⟩
  · rw [e]; omega
  · rw [e3]; omega
theorem y_goesTo (hm : mdl al 0 N) (ok : okN N w) (hf : okM w f) (hb : okBd nb R C B) (hy : yBd al 0 nb R C B) (g : gOk R C nb bs (2 ^ (w - f)) (N 1 * 2 ^ f) (N 3) (N 4)) {tI : Nat → Int32} (h19 : tI 19 = nI (2 ^ f)) (hG : yG R C nb bs tI gr gc) {a j : Nat} (ha : a < 2 ^ w) (hj : j < N 1) : ∃ tJ, fX11_goesTo tI al gr gc (nI a) (nI j) = some tJ ∧ tJ 15 = nI (plR R C nb w f bs a) ∧ tJ 16 = nI (plC N f bs a j) ∧ tJ 17 = svB (stk R C B (plR R C nb w f bs a) (plC N f bs a j) nb) (bi (ybit al 0 (258 * plR R C nb w f bs a + plC N f bs a j))) ∧ tJ 18 = siB (stk R C B (plR R C nb w f bs a) (plC N f bs a j) nb) ∧ ∀ k, (k < 15 ∨ 19 ≤ k) → tJ k = tI k := by
  obtain ⟨-, y11, y12, yr, yc⟩ := hG
  have h8 := p2f hf.1
  have hw := pw10 ok.2.2.1
  have hN3 := ok.2.2.2.2.2.2.1
  have hN4 := ok.2.2.2.2.2.2.2.1
  have hp : 2 ^ (w - f) ≤ 512 := Nat.le_trans (Nat.pow_le_pow_right (n := 2) (by decide) hf.2.2) (by decide)
  have hp2 : N 1 * 2 ^ f ≤ 32 * 8 := Nat.mul_le_mul ok.2.2.2.2.1 h8.2
  have hrow := row_lt hf ha
  have hcol := col_lt (f := f) (a := a) hj
  have hPR := plR_lt g hf ha
  have hPC := plC_lt (a := a) g hj
  unfold fX11_goesTo
  have e1 : nI a / nI (2 ^ f) = nI (a / 2 ^ f) := pk_div (by omega) (by omega) (by omega)
  have e2 : nI a - nI a / nI (2 ^ f) * nI (2 ^ f) = nI (a % 2 ^ f) := pk_rem (by omega) (by omega) (by omega)
  have e3 : nI j * nI (2 ^ f) + (nI a - nI a / nI (2 ^ f) * nI (2 ^ f)) = nI (j * 2 ^ f + a % 2 ^ f) := by rw [e2, pk_mul, nI_add]
  rw [h19, e3, e1, gzN (by omega) (by omega), gzN (by omega) (by omega)]
  obtain ⟨t1, q1, q2, q3⟩ := y_l36 hm ok hf g yr (show a / 2 ^ f < 2 ^ 31 by omega) (gR R C nb bs) FU 0 (upd (upd tI 15 (nI (a / 2 ^ f))) 16 (nI (j * 2 ^ f + a % 2 ^ f))) (by omega) (by show _ < 4294967296; have := g.1; omega) (by rw [ux_ne (by decide), ux_ne (by decide)]; exact y11) (by rw [ux_ne (by decide), ux_ne (by decide)]; exact h19) (by rw [ux_ne (by decide), ux_at]; rfl)
  have q1 : fX11_goesTo_l36 (nI (a / 2 ^ f)) al gr FU (0 : Int32) (upd (upd tI 15 (nI (a / 2 ^ f))) 16 (nI (j * 2 ^ f + a % 2 ^ f))) = some t1 := q1
  rw [q1, bnS]
  obtain ⟨t2, r1, r2, r3⟩ := y_l88 hm ok hf g yc (show j * 2 ^ f + a % 2 ^ f < 2 ^ 31 by omega) (gC bs) FU 0 t1 (by omega) (by show _ < 4294967296; have := g.2.1; omega) (by rw [q3 12 (by decide), ux_ne (by decide), ux_ne (by decide)]; exact y12) (by rw [q3 19 (by decide), ux_ne (by decide), ux_ne (by decide)]; exact h19) (by rw [q3 16 (by decide), ux_at]; rfl)
  have r1 : fX11_goesTo_l88 (nI (j * 2 ^ f + a % 2 ^ f)) al gc FU (0 : Int32) t1 = some t2 := r1
  rw [r1, bnS]
  have s15 : t2 15 = nI (plR R C nb w f bs a) := by rw [r3 15 (by decide)]; exact q2
  have s16 : t2 16 = nI (plC N f bs a j) := r2
  rw [s15, s16]
  generalize plR R C nb w f bs a = pr at *
  generalize plC N f bs a j = pc at *
  have e4 : (258 : Int32) * nI pr + nI pc = nI (258 * pr + pc) := by
    show nI 258 * nI pr + nI pc = _
    rw [pk_mul, nI_add]
  have e5 : nI (258 * pr + pc) / (32 : Int32) = nI ((258 * pr + pc) / 32) := pk_div (d := 32) (by omega) (by decide) (by decide)
  have e6 : nI (258 * pr + pc) - nI (258 * pr + pc) / (32 : Int32) * (32 : Int32) = nI ((258 * pr + pc) % 32) := pk_rem (d := 32) (by omega) (by decide) (by decide)
  have e7 : (46 : Int32) + nI ((258 * pr + pc) / 32) = nI (0 + 46 + (258 * pr + pc) / 32) := nI_add 46 _
  rw [e4, e6, e5, e7, gdN (by omega) (by decide), nI_clamp (by omega), bit1 _ (Nat.mod_lt _ (by decide))]
  obtain ⟨t3, v1, v2, v3, v4⟩ := y_l186 hb hy (pr := pr) (pc := pc) (by omega) (by omega) (bi (ybit al 0 (258 * pr + pc))) nb FU 0 (upd (upd t2 17 (bi (ybit al 0 (258 * pr + pc)))) 18 (0 : Int32)) (by omega) (by show _ < 4294967296; have := hb.1; omega) (by rw [ux_ne (by decide), ux_ne (by decide)]; exact s15) (by rw [ux_ne (by decide), ux_ne (by decide)]; exact s16) (by rw [ux_ne (by decide), ux_at]; rfl) (by rw [ux_at]; rfl)
  have v1 : fX11_goesTo_l186 al FU (0 : Int32) (upd (upd t2 17 (bi (bt (al (0 + 46 + (258 * pr + pc) / 32)) ((258 * pr + pc) % 32)))) 18 (0 : Int32)) = some t3 := v1
  rw [v1, bnS]
  refine ⟨t3, rfl, ?_, ?_, v2, v3, ?_⟩
  · rw [v4 15 (by decide) (by decide), ux_ne (by decide), ux_ne (by decide)]; exact s15
  · rw [v4 16 (by decide) (by decide), ux_ne (by decide), ux_ne (by decide)]; exact s16
  · intro k hk
    rw [v4 k (by omega) (by omega), ux_ne (by omega), ux_ne (by omega), r3 k (by omega), q3 k (by omega), ux_ne (by omega), ux_ne (by omega)]
end YPL_
