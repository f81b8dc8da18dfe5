/-! ===== small rows on the functional side ===== -/
theorem bnS {α β : Type} (a : α) (k : α → Option β) : bn (some a) k = k a := rfl
theorem gdT {α : Type} (x : Option α) : gd true x = x := rfl
theorem giN {k n : Nat} (h : k < n) (hn : n < 2 ^ 31) : gi (nI k) n = true := decide_eq_true (vp_in_nI h hn)
theorem gdN {α : Type} {k n : Nat} (h : k < n) (hn : n < 2 ^ 31) (x : Option α) : gd (gi (nI k) n) x = x := by rw [giN h hn]; rfl
theorem nzN {k : Nat} (h0 : 0 < k) (h : k < 2 ^ 31) : nz (nI k) = true := decide_eq_true (nI_ne0 h0 h)
theorem gzN {α : Type} {k : Nat} (h0 : 0 < k) (h : k < 2 ^ 31) (x : Option α) : gd (nz (nI k)) x = x := by rw [nzN h0 h]; rfl
theorem FU_gt {n : Nat} (h : n < 4294967296) : ∃ f, FU = f + 1 ∧ n ≤ f := ⟨4294967295, rfl, by omega⟩
/-! ===== the least t ===== -/
/-- t is the least with g ≤ 18 t^n -/
def isT (g n t : Nat) : Prop := g ≤ 18 * t ^ n ∧ ∀ s, s < t → 18 * s ^ n < g
theorem isT_one {g n a b : Nat} (ha : isT g n a) (hb : isT g n b) : a = b := by
  rcases Nat.lt_trichotomy a b with h | h | h
  · exact absurd (hb.2 a h) (Nat.not_lt.mpr ha.1)
  · exact h
  · exact absurd (ha.2 b h) (Nat.not_lt.mpr hb.1)
theorem mono18 {a b : Nat} (n : Nat) (h : a ≤ b) : 18 * a ^ n ≤ 18 * b ^ n := Nat.mul_le_mul_left 18 (Nat.pow_le_pow_left h n)
/-- power(v, n) of the reference -/
theorem pw_l (v n : Nat) (hv : v < 2 ^ 31) (hn : n < 2 ^ 31) : ∀ (f k p : Nat), k ≤ n → n < f + k → fX11_power_l5 (nI v) (nI n) f (lN p) (nI k) = some (lN (p * v ^ (n - k))) := by
  intro f
  induction f with
  | zero => intro k p h1 h2; exact absurd h2 (by omega)
  | succ f ih =>
    intro k p h1 h2
    rw [fX11_power_l5]
    by_cases e : n ≤ k
    · rw [if_pos (nI_le e (by omega))]
      have : n - k = 0 := by omega
      rw [this, Nat.pow_zero, Nat.mul_one]
    · rw [if_neg (nI_ge (by omega) (by omega)), nI_l hv, lN_mul]
      show fX11_power_l5 (nI v) (nI n) f (lN (p * v)) (nI k + 1) = _
      rw [nI_1, ih (k + 1) (p * v) (by omega) (by omega)]
      congr 2
      have : n - k = (n - (k + 1)) + 1 := by omega
      rw [this, Nat.pow_succ, Nat.mul_assoc, Nat.mul_comm v]
theorem pw_ok (v n : Nat) (hv : v < 2 ^ 31) (hn : n < 2 ^ 31) : fX11_power (nI v) (nI n) = some (lN (v ^ n)) := by
  unfold fX11_power
  have h := pw_l v n hv hn FU 0 1 (Nat.zero_le _) (by show n < 4294967296 + 0; omega)
  rw [Nat.sub_zero, Nat.one_mul] at h
  show bn (fX11_power_l5 (nI v) (nI n) FU (lN 1) (nI 0)) _ = _
  rw [h]
  rfl
/-- the reference's coarse steps -/
theorem tn_l54 (n g path st Bd : Nat) (hn : n < 2 ^ 31) (hst : 0 < st) (hg : g = path * 10 ^ n) (hg63 : g < 2 ^ 63) (hB : g ≤ 18 * Bd ^ n) (hB2 : 18 * (Bd + st) ^ n < 2 ^ 63) (hB3 : Bd + st < 2 ^ 31) : ∀ (f t : Nat), t ≤ Bd → Bd < f + t → (∀ s, s < t → 18 * s ^ n < g) → ∃ t2, fX11_tenths_l54 (nI n) (lN path) (nI st) f (nI t) = some (nI t2) ∧ t2 ≤ Bd ∧ ∀ s, s < t2 → 18 * s ^ n < g := by
  intro f
  induction f with
  | zero => intro t h1 h2; exact absurd h2 (by omega)
  | succ f ih =>
    intro t h1 h2 h3
    rw [fX11_tenths_l54, nI_add, pw_ok _ _ (by omega) hn, bnS]
    show ∃ t2, bn (fX11_power (nI 10) (nI n)) _ = _ ∧ _
    rw [pw_ok _ _ (by decide) hn, bnS]
    have hle : 18 * (t + st) ^ n < 2 ^ 63 := Nat.lt_of_le_of_lt (mono18 n (by omega)) hB2
    have e1 : (18 : Int64) * lN ((t + st) ^ n) = lN (18 * (t + st) ^ n) := lN_mul 18 _
    have e2 : lN path * lN (10 ^ n) = lN g := by rw [lN_mul, hg]
    rw [e1, e2]
    by_cases c : g ≤ 18 * (t + st) ^ n
    · rw [if_pos ((lg_cmp_ge _ _).mpr ((pk_lLE hg63 hle).mpr c))]
      exact ⟨t, rfl, h1, h3⟩
    · rw [if_neg (fun z => c ((pk_lLE hg63 hle).mp ((lg_cmp_ge _ _).mp z)))]
      have hlt : t + st < Bd := by
        rcases Nat.lt_or_ge (t + st) Bd with z | z
        · exact z
        · exact absurd (Nat.le_trans hB (mono18 n z)) c
      refine ih (t + st) (by omega) (by omega) (fun s hs => ?_)
      exact Nat.lt_of_le_of_lt (mono18 n (Nat.le_of_lt hs)) (Nat.not_le.mp c)
/-- the reference's last steps -/
theorem tn_l90 (n g path Bd : Nat) (hn : n < 2 ^ 31) (hg : g = path * 10 ^ n) (hg63 : g < 2 ^ 63) (hB : g ≤ 18 * Bd ^ n) (hB2 : 18 * Bd ^ n < 2 ^ 63) (hB3 : Bd < 2 ^ 31) : ∀ (f t : Nat), t ≤ Bd → Bd < f + t → (∀ s, s < t → 18 * s ^ n < g) → ∃ t2, fX11_tenths_l90 (nI n) (lN path) f (nI t) = some (nI t2) ∧ t2 ≤ Bd ∧ isT g n t2 := by
  intro f
  induction f with
  | zero => intro t h1 h2; exact absurd h2 (by omega)
  | succ f ih =>
    intro t h1 h2 h3
    rw [fX11_tenths_l90, pw_ok _ _ (by omega) hn, bnS]
    show ∃ t2, bn (fX11_power (nI 10) (nI n)) _ = _ ∧ _
    rw [pw_ok _ _ (by decide) hn, bnS]
    have hle : 18 * t ^ n < 2 ^ 63 := Nat.lt_of_le_of_lt (mono18 n h1) hB2
    have e1 : (18 : Int64) * lN (t ^ n) = lN (18 * t ^ n) := lN_mul 18 _
    have e2 : lN path * lN (10 ^ n) = lN g := by rw [lN_mul, hg]
    rw [e1, e2]
    by_cases c : g ≤ 18 * t ^ n
    · rw [if_pos ((lg_cmp_ge _ _).mpr ((pk_lLE hg63 hle).mpr c))]
      exact ⟨t, rfl, h1, c, h3⟩
    · rw [if_neg (fun z => c ((pk_lLE hg63 hle).mp ((lg_cmp_ge _ _).mp z)))]
      have hlt : t < Bd := by
        rcases Nat.lt_or_ge t Bd with z | z
        · exact z
        · exact absurd (Nat.le_trans hB (mono18 n z)) c
      show ∃ t2, fX11_tenths_l90 (nI n) (lN path) f (nI t + 1) = _ ∧ _
      rw [nI_1]
      refine ih (t + 1) (by omega) (by omega) (fun s hs => ?_)
      exact Nat.lt_of_le_of_lt (mono18 n (by omega)) (Nat.not_le.mp c)
/-- the class: ten to the n -/
theorem lt_l33 (n : Nat) (hn : n < 2 ^ 31) : ∀ (f k g : Nat), k ≤ n → n < f + k → fX4_leastTenths_l33 (nI n) f (lN g) (nI k) = some (lN (g * 10 ^ (n - k))) := by
  intro f
  induction f with
  | zero => intro k g h1 h2; exact absurd h2 (by omega)
  | succ f ih =>
    intro k g h1 h2
    rw [fX4_leastTenths_l33]
    by_cases e : n ≤ k
    · rw [if_pos (nI_le e (by omega))]
      have : n - k = 0 := by omega
      rw [this, Nat.pow_zero, Nat.mul_one]
    · rw [if_neg (nI_ge (by omega) (by omega))]
      show fX4_leastTenths_l33 (nI n) f (lN g * lN 10) (nI k + 1) = _
      rw [lN_mul, nI_1, ih (k + 1) (g * 10) (by omega) (by omega)]
      congr 2
      have : n - k = (n - (k + 1)) + 1 := by omega
      rw [this, Nat.pow_succ, Nat.mul_assoc, Nat.mul_comm 10]
/-- the class: a power that stops at the goal -/
theorem lt_l72 (n g a b : Nat) (hn : n < 2 ^ 31) (hg : g < 2 ^ 51) (hs : a + b ≤ 4096) (hs1 : 1 ≤ a + b) : ∀ (f k P : Nat), k ≤ n → n < f + k → P = 18 * (a + b) ^ k → P < 2 ^ 63 → ∃ r, fX4_leastTenths_l72 (nI n) (lN g) (nI a) (nI b) f (lN P) (nI k) = some (lN r) ∧ r < 2 ^ 63 ∧ (g ≤ r ↔ g ≤ 18 * (a + b) ^ n) := by
  intro f
  induction f with
  | zero => intro k P h1 h2; exact absurd h2 (by omega)
  | succ f ih =>
    intro k P h1 h2 hP hP63
    rw [fX4_leastTenths_l72]
    by_cases e : n ≤ k
    · rw [if_pos (nI_le e (by omega))]
      have : n = k := by omega
      exact ⟨P, rfl, hP63, by rw [hP, this]⟩
    · rw [if_neg (nI_ge (by omega) (by omega))]
      by_cases c : g ≤ P
      · rw [if_pos ((lg_cmp_ge _ _).mpr ((pk_lLE (by omega) hP63).mpr c))]
        refine ⟨P, rfl, hP63, fun _ => ?_, fun _ => c⟩
        refine Nat.le_trans c ?_
        rw [hP]
        exact Nat.mul_le_mul_left 18 (Nat.pow_le_pow_right hs1 h1)
      · rw [if_neg (fun z => c ((pk_lLE (by omega) hP63).mp ((lg_cmp_ge _ _).mp z))), nI_add, nI_l (by omega), lN_mul]
        show ∃ r, fX4_leastTenths_l72 (nI n) (lN g) (nI a) (nI b) f (lN (P * (a + b))) (nI k + 1) = _ ∧ _
        rw [nI_1]
        refine ih (k + 1) (P * (a + b)) (by omega) (by omega) (by rw [hP, Nat.pow_succ, Nat.mul_assoc]) ?_
        have h5 : P < 2251799813685248 := by omega
        calc P * (a + b) ≤ P * 4096 := Nat.mul_le_mul_left P hs
          _ < 2251799813685248 * 4096 := Nat.mul_lt_mul_of_pos_right h5 (by decide)
          _ = 2 ^ 63 := by decide
