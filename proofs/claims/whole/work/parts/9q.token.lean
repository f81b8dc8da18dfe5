/-! ===== tokens: both readers take the same ===== -/
theorem ch_l : ∀ v, v < 256 → fX2_isLetter ((nI v).toInt8.toInt32) = fX11_isLetter (nI v) ∧ (fX11_isLetter (nI v) = true ↔ (97 ≤ v ∧ v ≤ 122)) := by decide +kernel
theorem ch_d : ∀ v, v < 256 → fX2_isDigit ((nI v).toInt8.toInt32) = fX11_isDigit (nI v) ∧ (fX11_isDigit (nI v) = true ↔ (48 ≤ v ∧ v ≤ 57)) := by decide +kernel
theorem ch_b : ∀ v, v < 256 → (fX2_isBlank ((nI v).toInt8.toInt32) = true ↔ (v = 32 ∨ v = 10)) := by decide +kernel
theorem ch_s : ∀ v, v < 256 → ((nI v).toInt8.toInt32 = (59 : Int32) ↔ v = 59) := by decide +kernel
theorem bi_t {b : Bool} (h : b = true) : ¬ bi b = 0 := by rw [h]; decide
theorem bi_f {b : Bool} (h : ¬ b = true) : bi b = 0 := by cases b; rfl; exact absurd rfl h
/-- the bytes that are read -/
def srcR (n : Nat) (vb : Nat → Nat) (sI sb yt : Nat → Int32) : Prop := n ≤ 300 ∧ sI 1 = nI n ∧ ∀ i, i < n → vb i < 256 ∧ sb i = (nI (vb i)).toInt8.toInt32 ∧ yt i = nI (vb i)
def enc (b : Nat) (c : Nat → Nat) : Nat → Nat
  | 0 => 0
  | k + 1 => b * enc b c k + c k
theorem enc_lt {b : Nat} {c : Nat → Nat} (hb : 0 < b) : ∀ {k : Nat}, (∀ i, i < k → c i < b) → enc b c k < b ^ k := by
  intro k
  induction k with
  | zero => intro _; exact Nat.one_pos
  | succ k ih =>
    intro h
    have h1 := ih (fun i hi => h i (by omega))
    have h2 := h k (Nat.lt_succ_self k)
    rw [enc, Nat.pow_succ]
    have h3 : b * (enc b c k + 1) ≤ b * b ^ k := Nat.mul_le_mul_left b h1
    rw [Nat.mul_add, Nat.mul_one, Nat.mul_comm b (b ^ k)] at h3
    omega
theorem enc_cong {b : Nat} {c d : Nat → Nat} : ∀ {k : Nat}, (∀ i, i < k → c i = d i) → enc b c k = enc b d k := by
  intro k
  induction k with
  | zero => intro _; rfl
  | succ k ih => intro h; rw [enc, enc, ih (fun i hi => h i (by omega)), h k (Nat.lt_succ_self k)]
theorem enc_inj {c d : Nat → Nat} : ∀ {m k : Nat}, (∀ i, i < m → 1 ≤ c i ∧ c i ≤ 26) → (∀ i, i < k → 1 ≤ d i ∧ d i ≤ 26) → enc 27 c m = enc 27 d k → m = k ∧ ∀ i, i < m → c i = d i := by
  intro m
  induction m with
  | zero =>
    intro k hc hd h
    cases k with
    | zero => exact ⟨rfl, fun i hi => absurd hi (Nat.not_lt_zero i)⟩
    | succ k =>
      have := hd k (Nat.lt_succ_self k)
      rw [enc, enc] at h; omega
  | succ m ih =>
    intro k hc hd h
    have h1 := hc m (Nat.lt_succ_self m)
    cases k with
    | zero => rw [enc, enc] at h; omega
    | succ k =>
      have h2 := hd k (Nat.lt_succ_self k)
      rw [enc, enc] at h
      have e1 : c m = d k := by omega
      have e2 : enc 27 c m = enc 27 d k := by omega
      obtain ⟨q1, q2⟩ := ih (fun i hi => hc i (by omega)) (fun i hi => hd i (by omega)) e2
      subst q1
      refine ⟨rfl, fun i hi => ?_⟩
      by_cases ei : i = m
      · subst ei; exact e1
      · exact q2 i (by omega)
def tokR (n : Nat) (vb : Nat → Nat) (tI yI : Nat → Int32) (val : Int64) (p e kd : Nat) : Prop := tI 4 = nI kd ∧ yI 24 = nI kd ∧ tI 5 = nI p ∧ yI 25 = nI p ∧ tI 6 = nI e ∧ yI 23 = nI e ∧ p ≤ e ∧ e ≤ n ∧ kd ≤ 4 ∧ (kd ≠ 0 → p < e) ∧ (kd = 2 → ∃ v, v ≤ 999999 ∧ tI 7 = nI v ∧ val = lN v) ∧ (kd = 1 → e - p ≤ 8 ∧ (∀ i, p ≤ i → i < e → 97 ≤ vb i ∧ vb i ≤ 122) ∧ val = lN (enc 27 (fun i => vb (p + i) - 96) (e - p)))
section TOK_
variable {n : Nat} {vb : Nat → Nat} {sI sb yt : Nat → Int32}
theorem y_byte (hs : srcR n vb sI sb yt) {yI : Nat → Int32} (h22 : yI 22 = nI n) {i : Nat} (hi : i < n) : fX11_byteAt yI yt (nI i) = some (nI (vb i)) := by
  have h1 := hs.1
  unfold fX11_byteAt
  rw [h22, if_neg (nI_ge hi (by omega)), gdN (by omega) (by decide), nI_clamp (by omega), (hs.2.2 i hi).2.2]
theorem y_byte_end (hs : srcR n vb sI sb yt) {yI : Nat → Int32} (h22 : yI 22 = nI n) : fX11_byteAt yI yt (nI n) = some (-1 : Int32) := by
  have h1 := hs.1
  unfold fX11_byteAt
  rw [h22, if_pos (nI_le (Nat.le_refl _) (by omega))]
theorem t_blank (hs : srcR n vb sI sb yt) : ∀ (d F G i : Nat) (tI yI : Nat → Int32), i + d = n → d < F → d < G → yI 22 = nI n → tI 5 = nI i → yI 23 = nI i → ∃ q tJ yJ, fX2_next_l8 sI sb F tI = some tJ ∧ fX11_takes_l0 yt G yI = some yJ ∧ i ≤ q ∧ q ≤ n ∧ tJ 5 = nI q ∧ yJ 23 = nI q ∧ (∀ k, k ≠ 5 → tJ k = tI k) ∧ ∀ k, k ≠ 23 → yJ k = yI k := by
  have h1 := hs.1
  intro d
  induction d with
  | zero =>
    intro F G i tI yI e1 e2 e3 h22 h5 h23
    obtain ⟨F, rfl⟩ : ∃ G, F = G + 1 := ⟨F - 1, by omega⟩
    obtain ⟨G, rfl⟩ : ∃ F, G = F + 1 := ⟨G - 1, by omega⟩
    have : i = n := by omega
    subst this
    rw [fX2_next_l8, hs.2.1, h5, if_pos (nI_le (Nat.le_refl _) (by omega)), fX11_takes_l0, h23, y_byte_end hs h22, bnS, if_neg (show ¬ (-1 : Int32) = (32 : Int32) from by decide), bnS, if_neg (show ¬ (-1 : Int32) = (10 : Int32) from by decide)]
    exact ⟨i, tI, yI, rfl, rfl, Nat.le_refl _, Nat.le_refl _, h5, h23, fun _ _ => rfl, fun _ _ => rfl⟩
  | succ d ih =>
    intro F G i tI yI e1 e2 e3 h22 h5 h23
    obtain ⟨F, rfl⟩ : ∃ G, F = G + 1 := ⟨F - 1, by omega⟩
    obtain ⟨G, rfl⟩ : ∃ F, G = F + 1 := ⟨G - 1, by omega⟩
    obtain ⟨b1, b2, b3⟩ := hs.2.2 i (by omega)
    rw [fX2_next_l8, hs.2.1, h5, if_neg (nI_ge (by omega) (by omega)), gdN (by omega) (by decide), nI_clamp (by omega), b2, fX11_takes_l0, h23, y_byte hs h22 (by omega), bnS, bnS, show nI i + (1 : Int32) = nI (i + 1) from nI_1 i]
    by_cases c : vb i = 32 ∨ vb i = 10
    · rw [if_neg (bi_t ((ch_b _ b1).mpr c))]
      obtain ⟨q, tJ, yJ, w1, w2, w3, w4, w5, w6, w7, w8⟩ := ih F G (i + 1) (upd tI 5 (nI (i + 1))) (upd yI 23 (nI (i + 1))) (by omega) (by omega) (by omega) (by rw [ux_ne (by decide)]; exact h22) (ux_at _ _ _) (ux_at _ _ _)
      refine ⟨q, tJ, yJ, w1, ?_, by omega, w4, w5, w6, fun k hk => by rw [w7 k hk, ux_ne hk], fun k hk => by rw [w8 k hk, ux_ne hk]⟩
      rcases c with c | c
      · rw [c, if_pos (show nI 32 = (32 : Int32) from rfl)]; exact w2
      · rw [c, if_neg (show ¬ nI 10 = (32 : Int32) from by decide), if_pos (show nI 10 = (10 : Int32) from rfl)]; exact w2
    · rw [if_pos (bi_f (fun z => c ((ch_b _ b1).mp z))), if_neg (show ¬ nI (vb i) = (32 : Int32) from fun z => c (.inl ((nI_eq (b := 32) (by omega) (by decide)).mp z))), if_neg (show ¬ nI (vb i) = (10 : Int32) from fun z => c (.inr ((nI_eq (b := 10) (by omega) (by decide)).mp z)))]
      exact ⟨i, tI, yI, rfl, rfl, Nat.le_refl _, by omega, h5, h23, fun _ _ => rfl, fun _ _ => rfl⟩
theorem t_letters (hs : srcR n vb sI sb yt) {p : Nat} : ∀ (d F G i : Nat) (tI yI : Nat → Int32) (val : Int64), i + d = n → d < F → d < G → p ≤ i → yI 22 = nI n → yI 25 = nI p → tI 6 = nI i → yI 23 = nI i → (∀ j, p ≤ j → j < i → 97 ≤ vb j ∧ vb j ≤ 122) → (i - p ≤ 8 → val = lN (enc 27 (fun j => vb (p + j) - 96) (i - p))) → ∃ e tJ yJ val2, fX2_takeLetters_l0 sI sb F tI = some tJ ∧ fX11_takes_l80 yt G yI val = some (yJ, val2) ∧ i ≤ e ∧ e ≤ n ∧ tJ 6 = nI e ∧ yJ 23 = nI e ∧ (∀ j, p ≤ j → j < e → 97 ≤ vb j ∧ vb j ≤ 122) ∧ (e - p ≤ 8 → val2 = lN (enc 27 (fun j => vb (p + j) - 96) (e - p))) ∧ (i < n → 97 ≤ vb i ∧ vb i ≤ 122 → i < e) ∧ (∀ k, k ≠ 6 → tJ k = tI k) ∧ ∀ k, k ≠ 23 → yJ k = yI k := by
  have h1 := hs.1
  intro d
  induction d with
  | zero =>
    intro F G i tI yI val e1 e2 e3 hp h22 h25 h6 h23 hl hv
    obtain ⟨F, rfl⟩ : ∃ G, F = G + 1 := ⟨F - 1, by omega⟩
    obtain ⟨G, rfl⟩ : ∃ F, G = F + 1 := ⟨G - 1, by omega⟩
    have : i = n := by omega
    subst this
    rw [fX2_takeLetters_l0, hs.2.1, h6, if_pos (nI_le (Nat.le_refl _) (by omega)), fX11_takes_l80, h23, y_byte_end hs h22, bnS, if_pos (show bi (fX11_isLetter (-1 : Int32)) = 0 from by decide)]
    exact ⟨i, tI, yI, val, rfl, rfl, Nat.le_refl _, Nat.le_refl _, h6, h23, hl, hv, fun z => absurd z (Nat.lt_irrefl _), fun _ _ => rfl, fun _ _ => rfl⟩
  | succ d ih =>
    intro F G i tI yI val e1 e2 e3 hp h22 h25 h6 h23 hl hv
    obtain ⟨F, rfl⟩ : ∃ G, F = G + 1 := ⟨F - 1, by omega⟩
    obtain ⟨G, rfl⟩ : ∃ F, G = F + 1 := ⟨G - 1, by omega⟩
    obtain ⟨b1, b2, b3⟩ := hs.2.2 i (by omega)
    have cl := ch_l _ b1
    rw [fX2_takeLetters_l0, hs.2.1, h6, if_neg (nI_ge (by omega) (by omega)), gdN (by omega) (by decide), nI_clamp (by omega), b2, cl.1, fX11_takes_l80, h23, h25, y_byte hs h22 (by omega), bnS, bnS, show nI i + (1 : Int32) = nI (i + 1) from nI_1 i, pk_sub hp]
    by_cases c : 97 ≤ vb i ∧ vb i ≤ 122
    · rw [if_neg (bi_t (cl.2.mpr c)), if_neg (bi_t (cl.2.mpr c))]
      have go : ∀ val', (i + 1 - p ≤ 8 → val' = lN (enc 27 (fun j => vb (p + j) - 96) (i + 1 - p))) → ∃ e tJ yJ val2, fX2_takeLetters_l0 sI sb F (upd tI 6 (nI (i + 1))) = some tJ ∧ fX11_takes_l80 yt G (upd yI 23 (nI (i + 1))) val' = some (yJ, val2) ∧ i ≤ e ∧ e ≤ n ∧ tJ 6 = nI e ∧ yJ 23 = nI e ∧ (∀ j, p ≤ j → j < e → 97 ≤ vb j ∧ vb j ≤ 122) ∧ (e - p ≤ 8 → val2 = lN (enc 27 (fun j => vb (p + j) - 96) (e - p))) ∧ (i < n → 97 ≤ vb i ∧ vb i ≤ 122 → i < e) ∧ (∀ k, k ≠ 6 → tJ k = tI k) ∧ ∀ k, k ≠ 23 → yJ k = yI k := by
        intro val' hv'
        obtain ⟨e, tJ, yJ, val2, w1, w2, w3, w4, w5, w6, w7, w8, w9, w10, w11⟩ := ih F G (i + 1) (upd tI 6 (nI (i + 1))) (upd yI 23 (nI (i + 1))) val' (by omega) (by omega) (by omega) (by omega) (by rw [ux_ne (by decide)]; exact h22) (by rw [ux_ne (by decide)]; exact h25) (ux_at _ _ _) (ux_at _ _ _) (fun j j1 j2 => by
          by_cases ej : j = i
          · subst ej; exact c
          · exact hl j j1 (by omega)) hv'
        exact ⟨e, tJ, yJ, val2, w1, w2, by omega, w4, w5, w6, w7, w8, fun _ _ => by omega, fun k hk => by rw [w10 k hk, ux_ne hk], fun k hk => by rw [w11 k hk, ux_ne hk]⟩
      by_cases c8 : 8 ≤ i - p
      · rw [if_pos (show (8 : Int32) ≤ nI (i - p) from nI_le (a := 8) c8 (by omega))]
        exact go val (fun z => by omega)
      · rw [if_neg (show ¬ (8 : Int32) ≤ nI (i - p) from nI_ge (b := 8) (by omega) (by decide))]
        refine go _ (fun _ => ?_)
        rw [hv (by omega), nI_l (by omega)]
        show (((lN 27 * lN (enc 27 (fun j => vb (p + j) - 96) (i - p))) + lN (vb i)) - lN 97) + lN 1 = _
        rw [lN_mul, lN_add, lN_sub (by omega), lN_add, show i + 1 - p = (i - p) + 1 from by omega, enc, show p + (i - p) = i from by omega]
        congr 1
        omega
    · rw [if_pos (bi_f (fun z => c (cl.2.mp z))), if_pos (bi_f (fun z => c (cl.2.mp z)))]
      exact ⟨i, tI, yI, val, rfl, rfl, Nat.le_refl _, by omega, h6, h23, hl, hv, fun _ z => absurd z c, fun _ _ => rfl, fun _ _ => rfl⟩
theorem t_digits (hs : srcR n vb sI sb yt) {p : Nat} : ∀ (d F G i : Nat) (tI yI : Nat → Int32) (val : Int64), i + d = n → d < F → d < G → p ≤ i → yI 22 = nI n → yI 25 = nI p → tI 5 = nI p → tI 6 = nI i → yI 23 = nI i → (∃ v, v < 10 ^ (if i - p ≤ 6 then i - p else 6) ∧ tI 7 = nI v ∧ val = lN v) → ∃ e tJ yJ val2, fX2_takeDigits_l5 sI sb F tI = some tJ ∧ fX11_takes_l189 yt G yI val = some (yJ, val2) ∧ i ≤ e ∧ e ≤ n ∧ tJ 6 = nI e ∧ yJ 23 = nI e ∧ (∃ v, v ≤ 999999 ∧ tJ 7 = nI v ∧ val2 = lN v) ∧ (i < n → 48 ≤ vb i ∧ vb i ≤ 57 → i < e) ∧ (∀ k, k ≠ 6 → k ≠ 7 → tJ k = tI k) ∧ ∀ k, k ≠ 23 → yJ k = yI k := by
  have h1 := hs.1
  have p6 : ∀ k, k ≤ 6 → 10 ^ k ≤ 1000000 := fun k hk => Nat.le_trans (Nat.pow_le_pow_right (n := 10) (by decide) hk) (by decide)
  have vle : ∀ v k, v < 10 ^ (if k ≤ 6 then k else 6) → v ≤ 999999 := by
    intro v k hv
    have := p6 (if k ≤ 6 then k else 6) (by split <;> omega)
    omega
  intro d
  induction d with
  | zero =>
    intro F G i tI yI val e1 e2 e3 hp h22 h25 h5 h6 h23 hv
    obtain ⟨F, rfl⟩ : ∃ G, F = G + 1 := ⟨F - 1, by omega⟩
    obtain ⟨G, rfl⟩ : ∃ F, G = F + 1 := ⟨G - 1, by omega⟩
    have : i = n := by omega
    subst this
    obtain ⟨v, v1, v2, v3⟩ := hv
    rw [fX2_takeDigits_l5, hs.2.1, h6, if_pos (nI_le (Nat.le_refl _) (by omega)), fX11_takes_l189, h23, y_byte_end hs h22, bnS, if_pos (show bi (fX11_isDigit (-1 : Int32)) = 0 from by decide)]
    exact ⟨i, tI, yI, val, rfl, rfl, Nat.le_refl _, Nat.le_refl _, h6, h23, ⟨v, vle v _ v1, v2, v3⟩, fun z => absurd z (Nat.lt_irrefl _), fun _ _ _ => rfl, fun _ _ => rfl⟩
  | succ d ih =>
    intro F G i tI yI val e1 e2 e3 hp h22 h25 h5 h6 h23 hv
    obtain ⟨F, rfl⟩ : ∃ G, F = G + 1 := ⟨F - 1, by omega⟩
    obtain ⟨G, rfl⟩ : ∃ F, G = F + 1 := ⟨G - 1, by omega⟩
    obtain ⟨b1, b2, b3⟩ := hs.2.2 i (by omega)
    obtain ⟨v, v1, v2, v3⟩ := hv
    have vl := vle v _ v1
    have cl := ch_d _ b1
    rw [fX2_takeDigits_l5, hs.2.1, h6, if_neg (nI_ge (by omega) (by omega)), gdN (by omega) (by decide), nI_clamp (by omega), b2, cl.1, fX11_takes_l189, h23, h25, y_byte hs h22 (by omega), bnS, bnS, show nI i + (1 : Int32) = nI (i + 1) from nI_1 i, h5, pk_sub hp]
    by_cases c : 48 ≤ vb i ∧ vb i ≤ 57
    · rw [if_neg (bi_t (cl.2.mpr c)), if_neg (bi_t (cl.2.mpr c))]
      have go : ∀ u val', (u < 10 ^ (if i + 1 - p ≤ 6 then i + 1 - p else 6)) → val' = lN u → ∃ e tJ yJ val2, fX2_takeDigits_l5 sI sb F (upd (upd tI 6 (nI (i + 1))) 7 (nI u)) = some tJ ∧ fX11_takes_l189 yt G (upd yI 23 (nI (i + 1))) val' = some (yJ, val2) ∧ i ≤ e ∧ e ≤ n ∧ tJ 6 = nI e ∧ yJ 23 = nI e ∧ (∃ v, v ≤ 999999 ∧ tJ 7 = nI v ∧ val2 = lN v) ∧ (i < n → 48 ≤ vb i ∧ vb i ≤ 57 → i < e) ∧ (∀ k, k ≠ 6 → k ≠ 7 → tJ k = tI k) ∧ ∀ k, k ≠ 23 → yJ k = yI k := by
        intro u val' hu hv'
        obtain ⟨e, tJ, yJ, val2, w1, w2, w3, w4, w5, w6, w7, w8, w9, w10⟩ := ih F G (i + 1) (upd (upd tI 6 (nI (i + 1))) 7 (nI u)) (upd yI 23 (nI (i + 1))) val' (by omega) (by omega) (by omega) (by omega) (by rw [ux_ne (by decide)]; exact h22) (by rw [ux_ne (by decide)]; exact h25) (by rw [ux_ne (by decide), ux_ne (by decide)]; exact h5) (by rw [ux_ne (by decide), ux_at]) (ux_at _ _ _) ⟨u, hu, ux_at _ _ _, hv'⟩
        exact ⟨e, tJ, yJ, val2, w1, w2, by omega, w4, w5, w6, w7, fun _ _ => by omega, fun k hk hk2 => by rw [w9 k hk hk2, ux_ne hk2, ux_ne hk], fun k hk => by rw [w10 k hk, ux_ne hk]⟩
      by_cases c6 : 6 ≤ i - p
      · rw [if_pos (show (6 : Int32) ≤ nI (i - p) from nI_le (a := 6) c6 (by omega)), if_pos (show (6 : Int32) ≤ nI (i - p) from nI_le (a := 6) c6 (by omega)), v2]
        refine go v val ?_ v3
        rw [if_neg (by omega)]
        by_cases c66 : i - p ≤ 6
        · rw [if_pos c66, show i - p = 6 from by omega] at v1; exact v1
        · rw [if_neg c66] at v1; exact v1
      · rw [if_neg (show ¬ (6 : Int32) ≤ nI (i - p) from nI_ge (b := 6) (by omega) (by decide)), if_neg (show ¬ (6 : Int32) ≤ nI (i - p) from nI_ge (b := 6) (by omega) (by decide)), gdN (by omega) (by decide), v2]
        have eb : (nI (vb i)).toInt8.toInt32 = nI (vb i) := fa_byte_small (by omega)
        have e7 : ((nI v * (10 : Int32)) + nI (vb i)) - (48 : Int32) = nI (v * 10 + vb i - 48) := by
          show nI v * nI 10 + nI (vb i) - nI 48 = _
          rw [pk_mul, nI_add, pk_sub (by omega)]
        rw [eb, e7]
        refine go (v * 10 + vb i - 48) _ ?_ ?_
        · rw [if_pos (by omega)] at v1
          rw [if_pos (by omega), show i + 1 - p = (i - p) + 1 from by omega, Nat.pow_succ]
          omega
        · rw [v3, nI_l (by omega)]
          show (lN 10 * lN v + lN (vb i)) - lN 48 = _
          rw [lN_mul, lN_add, lN_sub (by omega), Nat.mul_comm]
    · rw [if_pos (bi_f (fun z => c (cl.2.mp z))), if_pos (bi_f (fun z => c (cl.2.mp z)))]
      exact ⟨i, tI, yI, val, rfl, rfl, Nat.le_refl _, by omega, h6, h23, ⟨v, vl, v2, v3⟩, fun _ z => absurd z c, fun _ _ _ => rfl, fun _ _ => rfl⟩
theorem t_next (hs : srcR n vb sI sb yt) {tI yI : Nat → Int32} {val : Int64} {e0 : Nat} (h22 : yI 22 = nI n) (h6 : tI 6 = nI e0) (h23 : yI 23 = nI e0) (he : e0 ≤ n) : ∃ tJ yJ val2 p e kd, fX2_next tI sI sb = some tJ ∧ fX11_takes yI val yt = some (yJ, val2) ∧ tokR n vb tJ yJ val2 p e kd ∧ e0 ≤ p ∧ (∀ i, i < 4 → tJ i = tI i) ∧ ∀ k, (k < 23 ∨ 26 ≤ k) → yJ k = yI k := by
  have h1 := hs.1
  unfold fX2_next fX11_takes
  obtain ⟨q, t1, y1, w1, w2, w3, w4, w5, w6, w7, w8⟩ := t_blank hs (n - e0) FU FU e0 (upd tI 5 (tI 6)) yI (by omega) (by show _ < 4294967296; omega) (by show _ < 4294967296; omega) h22 (by rw [ux_at]; exact h6) h23
  have y22 : y1 22 = nI n := (w8 22 (by decide)).trans h22
  have y22' : upd y1 25 (y1 23) 22 = nI n := by rw [ux_ne (by decide)]; exact y22
  rw [w1, bnS, w2, bnS, w5, w6, hs.2.1]
  by_cases c : q < n
  · obtain ⟨b1, b2, b3⟩ := hs.2.2 q c
    rw [w6] at y22'
    rw [if_pos (nI_lt c (by omega)), gdN (by omega) (by decide), gdN (by omega) (by decide), gdN (by omega) (by decide), nI_clamp (by omega), b2, y_byte hs y22' c, bnS, if_pos (nI_pos' (by omega)), (ch_l _ b1).1, (ch_d _ b1).1]
    by_cases cl : 97 ≤ vb q ∧ vb q ≤ 122
    · rw [if_neg (bi_t ((ch_l _ b1).2.mpr cl)), if_neg (bi_t ((ch_l _ b1).2.mpr cl))]
      unfold fX2_takeLetters
      obtain ⟨e, tJ, yJ, val2, r1, r2, r3, r4, r5, r6, r7, r8, r9, r10, r11⟩ := t_letters hs (p := q) (n - q) FU FU q (upd t1 6 (nI q)) (upd y1 25 (nI q)) (0 : Int64) (by omega) (by show _ < 4294967296; omega) (by show _ < 4294967296; omega) (Nat.le_refl _) y22' (ux_at _ _ _) (ux_at _ _ _) (by rw [ux_ne (by decide)]; exact w6) (fun j j1 j2 => by omega) (fun _ => by rw [Nat.sub_self]; rfl)
      have eq := r9 c cl
      have t5 : tJ 5 = nI q := by rw [r10 5 (by decide), ux_ne (by decide)]; exact w5
      have y25 : yJ 25 = nI q := by rw [r11 25 (by decide), ux_at]
      rw [r1, bnS, bnS, r2, bnS, r5, t5, show (yJ, val2).1 23 = nI e from r6, show (yJ, val2).1 25 = nI q from y25, pk_sub (by omega)]
      have ek : (if nI (e - q) ≤ (8 : Int32) then (1 : Int32) else (4 : Int32)) = nI (if e - q ≤ 8 then 1 else 4) := by
        by_cases z : e - q ≤ 8
        · rw [if_pos (show nI (e - q) ≤ (8 : Int32) from nI_le (b := 8) z (by decide)), if_pos z]; rfl
        · rw [if_neg (show ¬ nI (e - q) ≤ (8 : Int32) from nI_ge (a := 8) (by omega) (by omega)), if_neg z]; rfl
      rw [ek]
      refine ⟨_, _, _, q, e, (if e - q ≤ 8 then 1 else 4), rfl, rfl, ⟨ux_at _ _ _, ux_at _ _ _, ?_, ?_, ?_, ?_, by omega, r4, by split <;> omega, fun _ => eq, fun z => ?_, fun z => ?_⟩, w3, fun i hi => ?_, fun k hk => ?_⟩
      · rw [ux_ne (by decide)]; exact t5
      · rw [ux_ne (by decide)]; exact y25
      · rw [ux_ne (by decide)]; exact r5
      · rw [ux_ne (by decide)]; exact r6
      · exfalso; by_cases z8 : e - q ≤ 8
        · rw [if_pos z8] at z; omega
        · rw [if_neg z8] at z; omega
      · have z8 : e - q ≤ 8 := by
          by_cases z8 : e - q ≤ 8
          · exact z8
          · rw [if_neg z8] at z; omega
        exact ⟨z8, r7, r8 z8⟩
      · rw [ux_ne (by omega), r10 i (by omega), ux_ne (by omega), w7 i (by omega), ux_ne (by omega)]
      · rw [ux_ne (by omega)]
        show yJ k = _
        rw [r11 k (by omega), ux_ne (by omega), w8 k (by omega)]
    · rw [if_pos (bi_f (fun z => cl ((ch_l _ b1).2.mp z))), if_pos (bi_f (fun z => cl ((ch_l _ b1).2.mp z)))]
      by_cases cd : 48 ≤ vb q ∧ vb q ≤ 57
      · rw [if_neg (bi_t ((ch_d _ b1).2.mpr cd)), if_neg (bi_t ((ch_d _ b1).2.mpr cd))]
        unfold fX2_takeDigits
        obtain ⟨e, tJ, yJ, val2, r1, r2, r3, r4, r5, r6, ⟨v, v1, v2, v3⟩, r8, r9, r10⟩ := t_digits hs (p := q) (n - q) FU FU q (upd (upd t1 6 (nI q)) 7 (0 : Int32)) (upd y1 25 (nI q)) (0 : Int64) (by omega) (by show _ < 4294967296; omega) (by show _ < 4294967296; omega) (Nat.le_refl _) y22' (ux_at _ _ _) (by rw [ux_ne (by decide), ux_ne (by decide)]; exact w5) (by rw [ux_ne (by decide), ux_at]) (by rw [ux_ne (by decide)]; exact w6) ⟨0, by rw [Nat.sub_self]; decide, ux_at _ _ _, rfl⟩
        have eq := r8 c cd
        have t5 : tJ 5 = nI q := by rw [r9 5 (by decide) (by decide), ux_ne (by decide), ux_ne (by decide)]; exact w5
        have y25 : yJ 25 = nI q := by rw [r10 25 (by decide), ux_at]
        rw [r1, bnS, bnS, r2, bnS, r5, t5, show (yJ, val2).1 23 = nI e from r6, show (yJ, val2).1 25 = nI q from y25, pk_sub (by omega)]
        have ek : (if nI (e - q) ≤ (6 : Int32) then (2 : Int32) else (4 : Int32)) = nI (if e - q ≤ 6 then 2 else 4) := by
          by_cases z : e - q ≤ 6
          · rw [if_pos (show nI (e - q) ≤ (6 : Int32) from nI_le (b := 6) z (by decide)), if_pos z]; rfl
          · rw [if_neg (show ¬ nI (e - q) ≤ (6 : Int32) from nI_ge (a := 6) (by omega) (by omega)), if_neg z]; rfl
        rw [ek]
        refine ⟨_, _, _, q, e, (if e - q ≤ 6 then 2 else 4), rfl, rfl, ⟨ux_at _ _ _, ux_at _ _ _, ?_, ?_, ?_, ?_, by omega, r4, by split <;> omega, fun _ => eq, fun z => ?_, fun z => ?_⟩, w3, fun i hi => ?_, fun k hk => ?_⟩
        · rw [ux_ne (by decide)]; exact t5
        · rw [ux_ne (by decide)]; exact y25
        · rw [ux_ne (by decide)]; exact r5
        · rw [ux_ne (by decide)]; exact r6
        · exact ⟨v, v1, by rw [ux_ne (by decide)]; exact v2, v3⟩
        · exfalso; by_cases z8 : e - q ≤ 6
          · rw [if_pos z8] at z; omega
          · rw [if_neg z8] at z; omega
        · rw [ux_ne (by omega), r9 i (by omega) (by omega), ux_ne (by omega), ux_ne (by omega), w7 i (by omega), ux_ne (by omega)]
        · rw [ux_ne (by omega)]
          show yJ k = _
          rw [r10 k (by omega), ux_ne (by omega), w8 k (by omega)]
      · rw [if_pos (bi_f (fun z => cd ((ch_d _ b1).2.mp z))), if_pos (bi_f (fun z => cd ((ch_d _ b1).2.mp z))), show nI q + (1 : Int32) = nI (q + 1) from nI_1 q]
        have ek : (if (nI (vb q)).toInt8.toInt32 = (59 : Int32) then (3 : Int32) else (4 : Int32)) = nI (if vb q = 59 then 3 else 4) := by
          by_cases z : vb q = 59
          · rw [if_pos ((ch_s _ b1).mpr z), if_pos z]; rfl
          · rw [if_neg (fun y => z ((ch_s _ b1).mp y)), if_neg z]; rfl
        have ek2 : (if nI (vb q) = (59 : Int32) then (3 : Int32) else (4 : Int32)) = nI (if vb q = 59 then 3 else 4) := by
          by_cases z : vb q = 59
          · rw [if_pos (show nI (vb q) = (59 : Int32) by rw [z]; rfl), if_pos z]; rfl
          · rw [if_neg (show ¬ nI (vb q) = (59 : Int32) from fun y => z ((nI_eq (b := 59) (by omega) (by decide)).mp y)), if_neg z]; rfl
        rw [ek, ek2]
        refine ⟨_, _, _, q, q + 1, (if vb q = 59 then 3 else 4), rfl, rfl, ⟨?_, ?_, ?_, ux_at _ _ _, ux_at _ _ _, ?_, by omega, by omega, by split <;> omega, fun _ => by omega, fun z => ?_, fun z => ?_⟩, w3, fun i hi => ?_, fun k hk => ?_⟩
        · rw [ux_ne (by decide), ux_at]
        · rw [ux_ne (by decide), ux_at]
        · rw [ux_ne (by decide), ux_ne (by decide)]; exact w5
        · rw [ux_ne (by decide), ux_ne (by decide), ux_at]
        · exfalso; by_cases z8 : vb q = 59
          · rw [if_pos z8] at z; omega
          · rw [if_neg z8] at z; omega
        · exfalso; by_cases z8 : vb q = 59
          · rw [if_pos z8] at z; omega
          · rw [if_neg z8] at z; omega
        · rw [ux_ne (by omega), ux_ne (by omega), w7 i (by omega), ux_ne (by omega)]
        · rw [ux_ne (by omega), ux_ne (by omega), ux_ne (by omega), w8 k (by omega)]
  · have eq : q = n := by omega
    subst eq
    rw [w6] at y22'
    rw [if_neg (nI_nlt (Nat.le_refl _) (by omega)), y_byte_end hs y22', bnS, if_neg (show ¬ (0 : Int32) ≤ -1 from by decide)]
    refine ⟨_, _, _, q, q, 0, rfl, rfl, ⟨?_, ?_, ?_, ux_at _ _ _, ux_at _ _ _, ?_, Nat.le_refl _, Nat.le_refl _, by decide, fun z => absurd rfl z, fun z => by omega, fun z => by omega⟩, w3, fun i hi => ?_, fun k hk => ?_⟩
    · rw [ux_ne (by decide), ux_at]; rfl
    · rw [ux_ne (by decide), ux_at]; rfl
    · rw [ux_ne (by decide), ux_ne (by decide)]; exact w5
    · rw [ux_ne (by decide), ux_ne (by decide)]; exact w6
    · rw [ux_ne (by omega), ux_ne (by omega), w7 i (by omega), ux_ne (by omega)]
    · rw [ux_ne (by omega), ux_ne (by omega), w8 k (by omega)]
end TOK_
