theorem lt_step (n g : Nat) (hn0 : 0 < n) (hn : n < 2 ^ 31) (hg : g < 2 ^ 51) (f b s : Nat) (hs0 : 0 < s) (hbs : b + s ≤ 4096) : fX4_leastTenths_l59 (nI n) (lN g) (f + 1) (nI b) (nI s) = fX4_leastTenths_l59 (nI n) (lN g) f (nI (if g ≤ 18 * (b + s) ^ n then b else b + s)) (nI (s / 2)) := by
  rw [fX4_leastTenths_l59, if_neg (nI_nle hs0 (by omega))]
  obtain ⟨r, h1, h2, h3⟩ := lt_l72 n g b s hn hg hbs (by omega) FU 0 18 (Nat.zero_le _) (by show n < 4294967296 + 0; omega) (by simp) (by decide)
  have h1 : fX4_leastTenths_l72 (nI n) (lN g) (nI b) (nI s) FU (18 : Int64) (0 : Int32) = some (lN r) := h1
  rw [h1, bnS]
  have e2 : nI s / (2 : Int32) = nI (s / 2) := pk_div (d := 2) (by omega) (by decide) (by decide)
  rw [e2]
  congr 1
  by_cases c : g ≤ 18 * (b + s) ^ n
  · rw [if_pos c, if_pos ((lg_cmp_ge _ _).mpr ((pk_lLE (by omega) h2).mpr (h3.mpr c)))]
  · rw [if_neg c, if_neg (fun z => c (h3.mp ((pk_lLE (by omega) h2).mp ((lg_cmp_ge _ _).mp z)))), nI_add]
theorem lt_end (n g f b : Nat) : fX4_leastTenths_l59 (nI n) (lN g) (f + 1) (nI b) (nI 0) = some (nI b) := by
  rw [fX4_leastTenths_l59, if_pos (by show nI 0 ≤ nI 0; exact nI_le (Nat.le_refl _) (by decide))]
theorem lt_l59 (n g : Nat) (hn0 : 0 < n) (hn : n < 2 ^ 31) (hg : g < 2 ^ 51) : ∀ (k b f : Nat), b + 2 ^ (k + 1) ≤ 4096 → k + 1 < f → 18 * b ^ n < g → g ≤ 18 * (b + 2 ^ (k + 1)) ^ n → ∃ t, fX4_leastTenths_l59 (nI n) (lN g) f (nI b) (nI (2 ^ k)) = some (nI t) ∧ t < 4096 ∧ isT g n (t + 1) := by
  intro k
  induction k with
  | zero =>
    intro b f h1 h2 h3 h4
    obtain ⟨f, rfl⟩ : ∃ f', f = f' + 2 := ⟨f - 2, by omega⟩
    rw [lt_step n g hn0 hn hg (f + 1) b (2 ^ 0) (by decide) (by simp at h1 ⊢; omega)]
    show ∃ t, fX4_leastTenths_l59 (nI n) (lN g) (f + 1) _ (nI 0) = _ ∧ _
    rw [lt_end]
    simp only [Nat.pow_zero, Nat.zero_add, Nat.pow_one] at h1 h4 ⊢
    by_cases c : g ≤ 18 * (b + 1) ^ n
    · rw [if_pos c]
      exact ⟨b, rfl, by omega, c, fun s hs => Nat.lt_of_le_of_lt (mono18 n (by omega)) h3⟩
    · rw [if_neg c]
      exact ⟨b + 1, rfl, by omega, h4, fun s hs => Nat.lt_of_le_of_lt (mono18 n (by omega)) (Nat.not_le.mp c)⟩
  | succ k ih =>
    intro b f h1 h2 h3 h4
    obtain ⟨f, rfl⟩ : ∃ f', f = f' + 1 := ⟨f - 1, by omega⟩
    have e2 : 2 ^ (k + 1 + 1) = 2 ^ (k + 1) + 2 ^ (k + 1) := by rw [Nat.pow_succ 2 (k + 1)]; omega
    have hp : 0 < 2 ^ (k + 1) := Nat.two_pow_pos _
    rw [lt_step n g hn0 hn hg f b (2 ^ (k + 1)) hp (by omega)]
    have e3 : 2 ^ (k + 1) / 2 = 2 ^ k := by rw [Nat.pow_succ]; omega
    rw [e3]
    by_cases c : g ≤ 18 * (b + 2 ^ (k + 1)) ^ n
    · rw [if_pos c]
      exact ih b f (by omega) (by omega) h3 c
    · rw [if_neg c]
      refine ih (b + 2 ^ (k + 1)) f (by omega) (by omega) (Nat.not_le.mp c) ?_
      have : b + 2 ^ (k + 1) + 2 ^ (k + 1) = b + 2 ^ (k + 1 + 1) := by omega
      rw [this]; exact h4
/-- the class: the least t -/
theorem leastT_ok (tI : Nat → Int32) (a la R C n : Nat) (ha : tI 7 = nI a) (hla : tI 8 = nI la) (hR : tI 1 = nI R) (hC : tI 4 = nI C) (ha2 : a < 100) (hla2 : la < 100) (hR2 : R < 2 ^ 31) (hC2 : C < 2 ^ 31) (hn0 : 0 < n) (hn : n < 2 ^ 31) (g : Nat) (hg : g = (a + 2) * (la + 2) * R * C * 10 ^ n) (hg0 : 0 < g) (hg51 : g < 2 ^ 51) (hB : g ≤ 18 * 4096 ^ n) : ∃ t, fX4_leastTenths tI (nI n) = some (nI t) ∧ t ≤ 4096 ∧ isT g n t := by
  unfold fX4_leastTenths
  have e1 : ((((tI 7).toInt64) + (2 : Int64)) * (((tI 8) + (2 : Int32)).toInt64)) * ((tI 1).toInt64) * ((tI 4).toInt64) = lN ((a + 2) * (la + 2) * R * C) := by
    rw [ha, hla, hR, hC, nI_l (by omega), nI_l hR2, nI_l hC2]
    have e2 : (nI la + (2 : Int32)).toInt64 = lN (la + 2) := by
      have : nI la + (2 : Int32) = nI (la + 2) := nI_add la 2
      rw [this, nI_l (by omega)]
    rw [e2]
    have e3 : lN a + (2 : Int64) = lN (a + 2) := lN_add a 2
    rw [e3, lN_mul, lN_mul, lN_mul]
  rw [e1]
  have h1 := lt_l33 n hn FU 0 ((a + 2) * (la + 2) * R * C) (Nat.zero_le _) (by show n < 4294967296 + 0; omega)
  rw [Nat.sub_zero, ← hg] at h1
  have h1 : fX4_leastTenths_l33 (nI n) FU (lN ((a + 2) * (la + 2) * R * C)) (0 : Int32) = some (lN g) := h1
  rw [h1, bnS]
  obtain ⟨t, h2, h3, h4⟩ := lt_l59 n g hn0 hn hg51 11 0 FU (by decide) (by decide) (by rw [Nat.zero_pow hn0]; omega) (by rw [Nat.zero_add]; exact hB)
  have h2 : fX4_leastTenths_l59 (nI n) (lN g) FU (0 : Int32) (2048 : Int32) = some (nI t) := h2
  rw [h2, bnS]
  exact ⟨t + 1, by rw [← nI_1], by omega, h4⟩
/-- the reference: the least t -/
theorem tenths_ok (n g path st Bd : Nat) (hn : n < 2 ^ 31) (hst : 0 < st) (hg : g = path * 10 ^ n) (hg63 : g < 2 ^ 63) (hB : g ≤ 18 * Bd ^ n) (hB2 : 18 * (Bd + st) ^ n < 2 ^ 63) (hB3 : Bd + st < 2 ^ 31) : ∃ t0 t, fX11_tenths_l54 (nI n) (lN path) (nI st) FU (0 : Int32) = some (nI t0) ∧ fX11_tenths_l90 (nI n) (lN path) FU (nI t0) = some (nI t) ∧ t ≤ Bd ∧ isT g n t := by
  obtain ⟨t0, h1, h2, h3⟩ := tn_l54 n g path st Bd hn hst hg hg63 hB hB2 hB3 FU 0 (Nat.zero_le _) (by show Bd < 4294967296 + 0; omega) (fun s hs => absurd hs (Nat.not_lt_zero s))
  obtain ⟨t, h4, h5, h6⟩ := tn_l90 n g path Bd hn hg hg63 hB (Nat.lt_of_le_of_lt (mono18 n (by omega)) hB2) (by omega) FU t0 h2 (by show Bd < 4294967296 + t0; omega) h3
  exact ⟨t0, t, h1, h4, h5, h6⟩
