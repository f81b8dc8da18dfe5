/-! ===== shapes: numbers of both sides ===== -/
theorem xlog : ∀ k, k < 12 → fX10_log (nI (2 ^ k)) = nI k := by decide +kernel
theorem shrN (n k : Nat) (hn : n < 2 ^ 31) (hk : k < 32) : nI n >>> (nI k &&& 31) = nI (n / 2 ^ k) := pk_shrN hn _ k (s_l k hk)
theorem shlN (n k : Nat) (hk : k < 32) (h : n * 2 ^ k < 2 ^ 32) : nI n <<< (nI k &&& 31) = nI (n * 2 ^ k) := pk_shlN _ k (s_l k hk) h
theorem ylog_l (k : Nat) (hk : k < 31) : ∀ (f i : Nat), i ≤ k → k < f + i → fX11_log_l2 (nI (2 ^ k)) f (nI i) = some (nI k) := by
  intro f
  induction f with
  | zero => intro i h1 h2; exact absurd h2 (by omega)
  | succ f ih =>
    intro i h1 h2
    have hp : 2 ^ k < 2 ^ 31 := Nat.pow_lt_pow_right (by decide) hk
    rw [fX11_log_l2]
    have e1 : nI i + (1 : Int32) = nI (i + 1) := nI_1 i
    rw [e1, shrN _ _ hp (by omega)]
    by_cases e : i = k
    · have : 2 ^ k / 2 ^ (i + 1) = 0 := by rw [e]; exact Nat.div_eq_of_lt (Nat.pow_lt_pow_right (by decide) (by omega))
      rw [this, if_pos (by show nI 0 ≤ nI 0; exact nI_le (Nat.le_refl _) (by decide)), e]
    · have hd : 2 ^ k / 2 ^ (i + 1) = 2 ^ (k - (i + 1)) := Nat.pow_div (by omega) (by decide)
      have hpos : 0 < 2 ^ (k - (i + 1)) := Nat.two_pow_pos _
      have hlt : 2 ^ (k - (i + 1)) < 2 ^ 31 := Nat.pow_lt_pow_right (by decide) (by omega)
      rw [hd, if_neg (nI_nle hpos hlt)]
      exact ih (i + 1) (by omega) (by omega)
theorem ylog (k : Nat) (hk : k < 31) : fX11_log (nI (2 ^ k)) = some (nI k) := by
  unfold fX11_log
  have h := ylog_l k hk FU 0 (Nat.zero_le _) (by show k < 4294967296 + 0; omega)
  show bn (fX11_log_l2 (nI (2 ^ k)) FU (nI 0)) _ = _
  rw [h]; rfl
/-- numbers that a spec may have; WORDS are 2^w -/
def okN (N : Nat → Nat) (w : Nat) : Prop := N 0 = 2 ^ w ∧ 4 ≤ w ∧ w ≤ 10 ∧ 1 ≤ N 1 ∧ N 1 ≤ 32 ∧ (N 2 = 0 ∨ ∃ f, f ≤ 3 ∧ N 2 = 2 ^ f) ∧ N 3 ≤ 4 ∧ N 4 ≤ 2 ∧ 1 ≤ N 5 ∧ N 5 ≤ 20 ∧ 1 ≤ N 6 ∧ N 6 ≤ 20 ∧ N 7 ≤ 100 ∧ N 8 ≤ 2
/-- inputs of the first gate, of the last -/
def aI (l : Nat) : Nat := if l < 5 then 2 else 3
def bI (l : Nat) : Nat := (l + aI l - 1) / aI l
theorem aI_b (l : Nat) : 2 ≤ aI l ∧ aI l ≤ 3 := by unfold aI; split <;> omega
theorem bI_b : ∀ l, l < 10 → 3 ≤ l → 2 ≤ bI l ∧ bI l ≤ 3 := by decide
def upN (a b : Nat) : Nat := (a + b - 1) / b
def gP (l C n : Nat) : Nat := (aI l + 2) * (bI l + 2) * 2 ^ l * C * 10 ^ n
noncomputable def tT (g n : Nat) : Nat := @dite _ (∃ t, isT g n t) (Classical.propDecidable _) (fun h => h.choose) (fun _ => 0)
theorem tT_eq {g n t : Nat} (h : isT g n t) : tT g n = t := by
  unfold tT
  have h1 : ∃ t, isT g n t := ⟨t, h⟩
  rw [dif_pos h1]
  exact isT_one h1.choose_spec h
noncomputable def tS (l C n : Nat) : Nat := tT (gP l C n) n
/-- columns and lines that go together -/
def okLC (l C : Nat) : Prop := 3 ≤ l ∧ l ≤ 9 ∧ 2 ≤ C ∧ C ≤ 259 ∧ 2 ^ l * C ≤ 34304
def okS (n : Nat) : Prop := n = 2 ∨ n = 4 ∨ n = 6 ∨ n = 8
def Bd (n : Nat) : Nat := if n = 2 then 4096 else if n = 4 then 4096 else if n = 6 then 64 else 39
theorem gP_le {l C : Nat} (n : Nat) (h : okLC l C) : gP l C n ≤ 857600 * 10 ^ n := by
  unfold gP
  obtain ⟨h1, h2, h3, h4, h5⟩ := h
  have ha := aI_b l
  have hb := bI_b l (by omega) h1
  refine Nat.mul_le_mul_right _ ?_
  calc (aI l + 2) * (bI l + 2) * 2 ^ l * C = (aI l + 2) * (bI l + 2) * (2 ^ l * C) := Nat.mul_assoc _ _ _
    _ ≤ 5 * 5 * 34304 := Nat.mul_le_mul (Nat.mul_le_mul (by omega) (by omega)) h5
    _ = 857600 := by decide
theorem gP_ge {l C : Nat} (n : Nat) (h : okLC l C) : 256 * 10 ^ n ≤ gP l C n := by
  unfold gP
  obtain ⟨h1, h2, h3, h4, h5⟩ := h
  have ha := aI_b l
  have hb := bI_b l (by omega) h1
  have h8 : 8 ≤ 2 ^ l := Nat.pow_le_pow_right (n := 2) (by decide) h1
  refine Nat.mul_le_mul_right _ ?_
  calc 256 = 4 * 4 * 8 * 2 := by decide
    _ ≤ (aI l + 2) * (bI l + 2) * 2 ^ l * C := Nat.mul_le_mul (Nat.mul_le_mul (Nat.mul_le_mul (by omega) (by omega)) h8) h3
theorem gP_B {l C n : Nat} (h : okLC l C) (hn : okS n) : gP l C n ≤ 18 * Bd n ^ n := by
  refine Nat.le_trans (gP_le n h) ?_
  rcases hn with rfl | rfl | rfl | rfl <;> decide
theorem gP_51 {l C n : Nat} (h : okLC l C) (hn : okS n) : gP l C n < 2 ^ 51 := by
  refine Nat.lt_of_le_of_lt (gP_le n h) ?_
  rcases hn with rfl | rfl | rfl | rfl <;> decide
theorem gP_4096 {l C n : Nat} (h : okLC l C) (hn : okS n) : gP l C n ≤ 18 * 4096 ^ n := by
  refine Nat.le_trans (gP_le n h) ?_
  rcases hn with rfl | rfl | rfl | rfl <;> decide
theorem gP_0 {l C n : Nat} (h : okLC l C) : 0 < gP l C n := Nat.lt_of_lt_of_le (Nat.mul_pos (by decide) (Nat.pow_pos (by decide))) (gP_ge n h)
/-- the reference's step -/
def stN (n : Nat) : Nat := if n = 2 then 64 else 8
theorem tS_ok {l C n : Nat} (h : okLC l C) (hn : okS n) : isT (gP l C n) n (tS l C n) ∧ tS l C n ≤ Bd n := by
  have hB2 : 18 * (Bd n + stN n) ^ n < 2 ^ 63 := by rcases hn with rfl | rfl | rfl | rfl <;> decide
  have hB3 : Bd n + stN n < 2 ^ 31 := by rcases hn with rfl | rfl | rfl | rfl <;> decide
  have hst : 0 < stN n := by rcases hn with rfl | rfl | rfl | rfl <;> decide
  have hn2 : n < 2 ^ 31 := by rcases hn with rfl | rfl | rfl | rfl <;> decide
  obtain ⟨t0, t, -, -, h1, h2⟩ := tenths_ok n (gP l C n) ((aI l + 2) * (bI l + 2) * 2 ^ l * C) (stN n) (Bd n) hn2 hst rfl (Nat.lt_trans (gP_51 h hn) (by decide)) (gP_B h hn) hB2 hB3
  have e := tT_eq h2
  unfold tS
  rw [e]
  exact ⟨h2, h1⟩
theorem tS_10 {l C n : Nat} (h : okLC l C) (hn : okS n) : 10 ≤ tS l C n := by
  obtain ⟨h1, -⟩ := tS_ok h hn
  rcases Nat.lt_or_ge (tS l C n) 10 with z | z
  · exfalso
    have h2 : 18 * tS l C n ^ n ≤ 18 * 9 ^ n := mono18 n (by omega)
    have h3 : 18 * 9 ^ n < 256 * 10 ^ n := by rcases hn with rfl | rfl | rfl | rfl <;> decide
    have h4 := gP_ge n h
    have h5 := h1.1
    omega
  · exact z
