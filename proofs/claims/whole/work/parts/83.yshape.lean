/-! ===== shapes: the reference ===== -/
/-- a block of the reference's row holds these numbers -/
def mdl (al : Nat → Int32) (b : Nat) (N : Nat → Nat) : Prop := b + 46 ≤ 43047 ∧ ∀ k, k < 9 → al (b + k) = nI (N k)
theorem pdiv {w f : Nat} (h : f ≤ w) : 2 ^ w / 2 ^ f = 2 ^ (w - f) := Nat.pow_div h (by decide)
theorem p31 {k : Nat} (h : k < 31) : 2 ^ k < 2 ^ 31 := Nat.pow_lt_pow_right (by decide) h
theorem p2f {f : Nat} (h : f ≤ 3) : 1 ≤ 2 ^ f ∧ 2 ^ f ≤ 8 := ⟨Nat.two_pow_pos f, Nat.le_trans (Nat.pow_le_pow_right (n := 2) (by decide) h) (by decide)⟩
theorem pw10 {w : Nat} (h : w ≤ 10) : 2 ^ w ≤ 1024 := Nat.le_trans (Nat.pow_le_pow_right (n := 2) (by decide) h) (by decide)
section YS_
variable {al : Nat → Int32} {b w f : Nat} {N : Nat → Nat}
theorem y_rows (hm : mdl al b N) (ok : okN N w) (hf : f ≤ 3) : fX11_rows al (nI b) (nI (2 ^ f)) = some (nI (2 ^ (w - f))) := by
  unfold fX11_rows
  obtain ⟨h1, h2⟩ := hm
  have hw := ok.2.1
  have hw2 := pw10 ok.2.2.1
  have h8 := p2f hf
  simp only [fa_lit, nI_add]
  rw [gdN (by omega) (by decide), gzN (by omega) (by omega), nI_clamp (by omega), h2 0 (by decide), ok.1, pk_div (by omega) (by omega) (by omega), pdiv (by omega)]
theorem y_columns (hm : mdl al b N) (ok : okN N w) : fX11_columns al (nI b) (nI (2 ^ f)) = some (nI (N 1 * 2 ^ f)) := by
  unfold fX11_columns
  obtain ⟨h1, h2⟩ := hm
  simp only [fa_lit, nI_add]
  rw [gdN (by omega) (by decide), nI_clamp (by omega), h2 1 (by decide), pk_mul]
theorem y_allRows (hm : mdl al b N) (ok : okN N w) (hf : f ≤ 3) : fX11_allRows al (nI b) (nI (2 ^ f)) = some (nI (2 ^ (w - f) + N 3 + 1)) := by
  unfold fX11_allRows
  rw [y_rows hm ok hf, bnS]
  obtain ⟨h1, h2⟩ := hm
  simp only [fa_lit, nI_add]
  rw [gdN (by omega) (by decide), nI_clamp (by omega), h2 3 (by decide), nI_add, nI_add]
theorem y_allColumns (hm : mdl al b N) (ok : okN N w) : fX11_allColumns al (nI b) (nI (2 ^ f)) = some (nI (N 1 * 2 ^ f + N 4 + 1)) := by
  unfold fX11_allColumns
  rw [y_columns hm ok, bnS]
  obtain ⟨h1, h2⟩ := hm
  simp only [fa_lit, nI_add]
  rw [gdN (by omega) (by decide), nI_clamp (by omega), h2 4 (by decide), nI_add, nI_add]
theorem y_lines (hm : mdl al b N) (ok : okN N w) (hf : f ≤ 3) : fX11_lines al (nI b) (nI (2 ^ f)) = some (nI (w - f)) := by
  unfold fX11_lines
  have := ok.2.2.1
  rw [y_rows hm ok hf, bnS, ylog _ (by omega), bnS]
theorem y_first (hm : mdl al b N) (ok : okN N w) (hf : f ≤ 3) : fX11_firstInputs al (nI b) (nI (2 ^ f)) = some (nI (aI (w - f))) := by
  unfold fX11_firstInputs
  have := ok.2.2.1
  rw [y_lines hm ok hf, bnS]
  unfold aI
  by_cases c : w - f < 5
  · rw [if_pos c, if_pos (show nI (w - f) < (5 : Int32) from nI_lt c (by decide))]; rfl
  · rw [if_neg c, if_neg (show ¬ nI (w - f) < (5 : Int32) from nI_nlt (b := 5) (by omega) (by omega))]; rfl
theorem y_last (hm : mdl al b N) (ok : okN N w) (hf : f ≤ 3) : fX11_lastInputs al (nI b) (nI (2 ^ f)) = some (nI (bI (w - f))) := by
  unfold fX11_lastInputs
  have := ok.2.2.1
  have ha := aI_b (w - f)
  rw [y_lines hm ok hf, bnS, y_first hm ok hf, bnS]
  unfold fX11_up
  rw [gzN (by omega) (by omega), bnS]
  simp only [fa_lit, nI_add]
  rw [pk_sub (by omega), pk_div (by omega) (by omega) (by omega)]
  rfl
theorem okLC_of (ok : okN N w) (hf : f ≤ 3) (hl : 3 ≤ w - f) (hl2 : w - f ≤ 9) : okLC (w - f) (N 1 * 2 ^ f + N 4 + 1) := by
  obtain ⟨h0, h1, h2, h3, h4, -, h5, h6, -⟩ := ok
  have h8 := p2f hf
  have hb : 1 ≤ N 1 * 2 ^ f := Nat.mul_pos h3 h8.1
  have hb2 : N 1 * 2 ^ f ≤ 32 * 8 := Nat.mul_le_mul h4 h8.2
  have hwp := pw10 h2
  refine ⟨hl, hl2, by omega, by omega, ?_⟩
  have e1 : 2 ^ (w - f) * (N 1 * 2 ^ f) = N 1 * 2 ^ w := by
    rw [Nat.mul_left_comm, ← Nat.pow_add]
    congr 2
    omega
  have h512 : 2 ^ (w - f) ≤ 512 := Nat.le_trans (Nat.pow_le_pow_right (n := 2) (by decide) hl2) (by decide)
  have e2 : 2 ^ (w - f) * (N 1 * 2 ^ f + N 4 + 1) = N 1 * 2 ^ w + 2 ^ (w - f) * (N 4 + 1) := by rw [Nat.add_assoc, Nat.mul_add, e1]
  rw [e2]
  have h7 : N 1 * 2 ^ w ≤ 32 * 1024 := Nat.mul_le_mul h4 hwp
  have h9 : 2 ^ (w - f) * (N 4 + 1) ≤ 512 * 3 := Nat.mul_le_mul h512 (by omega)
  omega
theorem y_tenths {n : Nat} (hm : mdl al b N) (ok : okN N w) (hf : f ≤ 3) (hl : 3 ≤ w - f) (hl2 : w - f ≤ 9) (hn : okS n) : fX11_tenths al (nI b) (nI (2 ^ f)) (nI n) = some (nI (tS (w - f) (N 1 * 2 ^ f + N 4 + 1) n)) := by
  unfold fX11_tenths
  have hLC := okLC_of ok hf hl hl2
  have ha := aI_b (w - f)
  have hb := bI_b (w - f) (by omega) hl
  have hR : 2 ^ (w - f) < 2 ^ 31 := p31 (by omega)
  rw [y_first hm ok hf, bnS, y_last hm ok hf, bnS, y_rows hm ok hf, bnS, y_allColumns hm ok, bnS]
  have hB2 : 18 * (Bd n + stN n) ^ n < 2 ^ 63 := by rcases hn with rfl | rfl | rfl | rfl <;> decide
  have hB3 : Bd n + stN n < 2 ^ 31 := by rcases hn with rfl | rfl | rfl | rfl <;> decide
  have hst : 0 < stN n := by rcases hn with rfl | rfl | rfl | rfl <;> decide
  have hn2 : n < 2 ^ 31 := by rcases hn with rfl | rfl | rfl | rfl <;> decide
  have est : (if nI n = (2 : Int32) then (64 : Int32) else (8 : Int32)) = nI (stN n) := by rcases hn with rfl | rfl | rfl | rfl <;> decide
  obtain ⟨t0, t, h1, h2, -, h3⟩ := tenths_ok n (gP (w - f) (N 1 * 2 ^ f + N 4 + 1) n) ((aI (w - f) + 2) * (bI (w - f) + 2) * 2 ^ (w - f) * (N 1 * 2 ^ f + N 4 + 1)) (stN n) (Bd n) hn2 hst rfl (Nat.lt_trans (gP_51 hLC hn) (by decide)) (gP_B hLC hn) hB2 hB3
  have hC := hLC.2.2.2.1
  have ep : ((((nI (aI (w - f)) + (2 : Int32)).toInt64) * ((nI (bI (w - f)) + (2 : Int32)).toInt64)) * ((nI (2 ^ (w - f))).toInt64)) * ((nI (N 1 * 2 ^ f + N 4 + 1)).toInt64) = lN ((aI (w - f) + 2) * (bI (w - f) + 2) * 2 ^ (w - f) * (N 1 * 2 ^ f + N 4 + 1)) := by
    simp only [fa_lit, nI_add]
    rw [nI_l (by omega), nI_l (by omega), nI_l hR, nI_l (by omega), lN_mul, lN_mul, lN_mul]
  rw [ep, est, h1, bnS, h2, bnS]
  unfold tS
  rw [tT_eq h3]
end YS_
