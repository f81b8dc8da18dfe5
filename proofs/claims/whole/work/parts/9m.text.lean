/-! ===== views: both texts grow alike ===== -/
def xT (tI tb : Nat → Int32) (L : List Nat) : Prop := tI 1 = nI L.length ∧ ∀ i, i < L.length → tb i = nI (L.getD i 0)
def yT (tI v : Nat → Int32) (L : List Nat) : Prop := tI 21 = nI L.length ∧ ∀ i, i < L.length → v i = nI (L.getD i 0)
def jT (n : Nat) (tI tb yI v : Nat → Int32) : Prop := ∃ L : List Nat, L.length ≤ n ∧ (∀ i, i < L.length → L.getD i 0 < 128) ∧ xT tI tb L ∧ yT yI v L
theorem gd_app (L : List Nat) (c i : Nat) : (L ++ [c]).getD i 0 = if i < L.length then L.getD i 0 else if i = L.length then c else 0 := by
  by_cases h : i < L.length
  · rw [if_pos h, List.getD_eq_getElem?_getD, List.getElem?_append_left h, ← List.getD_eq_getElem?_getD]
  · rw [if_neg h, List.getD_eq_getElem?_getD, List.getElem?_append_right (by omega)]
    by_cases e : i = L.length
    · rw [if_pos e, e, Nat.sub_self]; rfl
    · rw [if_neg e]
      obtain ⟨k, hk⟩ : ∃ k, i - L.length = k + 1 := ⟨i - L.length - 1, by omega⟩
      rw [hk]; rfl
theorem x_sign {tI tb : Nat → Int32} {L : List Nat} {c : Nat} (h : xT tI tb L) (hl : L.length < 400) (hc : c < 128) : ∃ tJ tb2, fX8_putSign tI tb (nI c) = some (tJ, tb2) ∧ xT tJ tb2 (L ++ [c]) := by
  unfold fX8_putSign
  rw [h.1, if_neg (show ¬ (400 : Int32) ≤ nI L.length from nI_ge (b := 400) hl (by decide)), gdN hl (by decide), nI_clamp (by omega), pk_vb, fa_byte_small hc, show nI L.length + (1 : Int32) = nI (L.length + 1) from nI_1 _]
  refine ⟨_, _, rfl, ?_, fun i hi => ?_⟩
  · rw [ux_at, List.length_append]; rfl
  · rw [List.length_append] at hi
    have hi : i < L.length + 1 := hi
    rw [gd_app]
    by_cases e : i = L.length
    · rw [e, ux_at, if_neg (Nat.lt_irrefl _), if_pos rfl]
    · rw [ux_ne e, if_pos (by omega)]; exact h.2 i (by omega)
theorem y_sign {tI v : Nat → Int32} {L : List Nat} (c : Nat) (h : yT tI v L) (hl : L.length < 600) : ∃ tJ v2, fX11_adds tI v (nI c) = some (tJ, v2) ∧ yT tJ v2 (L ++ [c]) ∧ ∀ i, i ≠ 21 → tJ i = tI i := by
  unfold fX11_adds
  rw [h.1, gdN hl (by decide), nI_clamp (by omega), show nI L.length + (1 : Int32) = nI (L.length + 1) from nI_1 _]
  refine ⟨_, _, rfl, ⟨?_, fun i hi => ?_⟩, fun i hi => ux_ne hi⟩
  · rw [ux_at, List.length_append]; rfl
  · rw [List.length_append] at hi
    have hi : i < L.length + 1 := hi
    rw [gd_app]
    by_cases e : i = L.length
    · rw [e, ux_at, if_neg (Nat.lt_irrefl _), if_pos rfl]
    · rw [ux_ne e, if_pos (by omega)]; exact h.2 i (by omega)
theorem j_sign {n : Nat} {tI tb yI v : Nat → Int32} (c : Nat) (h : jT n tI tb yI v) (hn : n < 400) (hc : c < 128) : ∃ tJ tb2 yJ v2, fX8_putSign tI tb (nI c) = some (tJ, tb2) ∧ fX11_adds yI v (nI c) = some (yJ, v2) ∧ jT (n + 1) tJ tb2 yJ v2 ∧ ∀ i, i ≠ 21 → yJ i = yI i := by
  obtain ⟨L, h1, h2, h3, h4⟩ := h
  obtain ⟨tJ, tb2, q1, q2⟩ := x_sign h3 (by omega) hc
  obtain ⟨yJ, v2, r1, r2, r3⟩ := y_sign c h4 (by omega)
  refine ⟨tJ, tb2, yJ, v2, q1, r1, ⟨L ++ [c], ?_, fun i hi => ?_, q2, r2⟩, r3⟩
  · rw [List.length_append]; show L.length + 1 ≤ n + 1; omega
  · rw [gd_app]
    by_cases e : i < L.length
    · rw [if_pos e]; exact h2 i e
    · rw [if_neg e]; split <;> omega
theorem jT_le {n m : Nat} {tI tb yI v : Nat → Int32} (h : jT n tI tb yI v) (hm : n ≤ m) : jT m tI tb yI v := by
  obtain ⟨L, h1, h2⟩ := h
  exact ⟨L, by omega, h2⟩
/-! ===== numbers ===== -/
def tp (v : Nat) : Nat := if v < 10 then 0 else if v < 100 then 1 else if v < 1000 then 2 else if v < 10000 then 3 else if v < 100000 then 4 else if v < 1000000 then 5 else if v < 10000000 then 6 else if v < 100000000 then 7 else 8
theorem tp_le (v : Nat) : tp v ≤ 8 := by
  unfold tp
  repeat' split
  all_goals omega
theorem tp_hi {v : Nat} (h : v < 1000000000) : v < 10 ^ (tp v + 1) := by
  unfold tp
  by_cases c0 : v < 10
  · rw [if_pos c0]; exact c0
  rw [if_neg c0]
  by_cases c1 : v < 100
  · rw [if_pos c1]; exact c1
  rw [if_neg c1]
  by_cases c2 : v < 1000
  · rw [if_pos c2]; exact c2
  rw [if_neg c2]
  by_cases c3 : v < 10000
  · rw [if_pos c3]; exact c3
  rw [if_neg c3]
  by_cases c4 : v < 100000
  · rw [if_pos c4]; exact c4
  rw [if_neg c4]
  by_cases c5 : v < 1000000
  · rw [if_pos c5]; exact c5
  rw [if_neg c5]
  by_cases c6 : v < 10000000
  · rw [if_pos c6]; exact c6
  rw [if_neg c6]
  by_cases c7 : v < 100000000
  · rw [if_pos c7]; exact c7
  rw [if_neg c7]; exact h
theorem tp_lo {v : Nat} (h : 0 < tp v) : 10 ^ tp v ≤ v := by
  unfold tp at h ⊢
  by_cases c0 : v < 10
  · rw [if_pos c0] at h; omega
  rw [if_neg c0] at h ⊢
  by_cases c1 : v < 100
  · rw [if_pos c1]; show 10 ≤ v; omega
  rw [if_neg c1]
  by_cases c2 : v < 1000
  · rw [if_pos c2]; show 100 ≤ v; omega
  rw [if_neg c2]
  by_cases c3 : v < 10000
  · rw [if_pos c3]; show 1000 ≤ v; omega
  rw [if_neg c3]
  by_cases c4 : v < 100000
  · rw [if_pos c4]; show 10000 ≤ v; omega
  rw [if_neg c4]
  by_cases c5 : v < 1000000
  · rw [if_pos c5]; show 100000 ≤ v; omega
  rw [if_neg c5]
  by_cases c6 : v < 10000000
  · rw [if_pos c6]; show 1000000 ≤ v; omega
  rw [if_neg c6]
  by_cases c7 : v < 100000000
  · rw [if_pos c7]; show 10000000 ≤ v; omega
  rw [if_neg c7]; show 100000000 ≤ v; omega
theorem tp_d {v d : Nat} (h : v < 10 ^ (d + 1)) : tp v ≤ d := by
  rcases Nat.lt_or_ge d (tp v) with z | z
  · have h1 := tp_lo (v := v) (by omega)
    have h2 : 10 ^ (d + 1) ≤ 10 ^ tp v := Nat.pow_le_pow_right (by decide) z
    omega
  · exact z
theorem p10 {k : Nat} (hk : k ≤ 8) : 1 ≤ 10 ^ k ∧ 10 ^ k ≤ 100000000 := ⟨Nat.pow_pos (by decide), Nat.le_trans (Nat.pow_le_pow_right (n := 10) (by decide) hk) (by decide)⟩
theorem dig {v k : Nat} (hv : v < 1000000000) (hk : k ≤ 8) : (nI v / nI (10 ^ k)) - (nI v / nI (10 ^ k)) / (10 : Int32) * (10 : Int32) = nI (v / 10 ^ k % 10) := by
  have h1 := p10 hk
  have h2 : v / 10 ^ k ≤ v := Nat.div_le_self _ _
  rw [pk_div (by omega) (by omega) (by omega)]
  exact pk_rem (d := 10) (by omega) (by decide) (by decide)
theorem chr {q : Nat} (h : q < 65536) : ((nI q).toUInt32 % 65536).toInt32 = nI q := by
  rw [pk_char, pk_tn (by omega), Nat.mod_eq_of_lt h]
theorem d10 {k : Nat} (hk : k ≤ 8) : nI (10 ^ (k + 1)) / (10 : Int32) = nI (10 ^ k) := by
  have h1 := p10 hk
  have := pk_div (a := 10 ^ (k + 1)) (d := 10) (by rw [Nat.pow_succ]; omega) (by decide) (by decide)
  refine Eq.trans this ?_
  congr 1
  rw [Nat.pow_succ]; omega
/-- digits, from place k on -/
theorem j_digs {v : Nat} (hv : v < 1000000000) : ∀ (k F G n : Nat) (tI tb yI vw : Nat → Int32), k ≤ tp v → k + 1 < F → k + 1 < G → n + k + 1 ≤ 400 → jT n tI tb yI vw → ∃ tJ tb2 yJ v2, fX8_putNumber_l9 (nI v) F (nI (10 ^ k)) tI tb = some (tJ, tb2) ∧ fX11_number_l24 (nI v) G (nI (10 ^ k)) yI vw = some (yJ, v2) ∧ jT (n + k + 1) tJ tb2 yJ v2 ∧ ∀ i, i ≠ 21 → yJ i = yI i := by
  have ht := tp_le v
  intro k
  induction k with
  | zero =>
    intro F G n tI tb yI vw h1 h2 h3 h4 h
    obtain ⟨F, rfl⟩ : ∃ G, F = G + 2 := ⟨F - 2, by omega⟩
    obtain ⟨G, rfl⟩ : ∃ F, G = F + 2 := ⟨G - 2, by omega⟩
    have ed := dig (k := 0) hv (by decide)
    have ed : (nI v / nI (10 ^ 0)) - (nI v / nI (10 ^ 0)) / (10 : Int32) * (10 : Int32) = nI (v / 10 ^ 0 % 10) := ed
    obtain ⟨tJ, tb2, yJ, v2, q1, q2, q3, q4⟩ := j_sign (48 + v / 10 ^ 0 % 10) h (by omega) (by omega)
    rw [fX8_putNumber_l9, fX11_number_l24, if_neg (show ¬ nI (10 ^ 0) ≤ 0 from by decide), if_pos (show nI (10 ^ 0) = (1 : Int32) from rfl), if_neg (show ¬ nI (10 ^ 0) ≤ 0 from by decide), show nz (nI (10 ^ 0)) = true from by decide, gdT, gdT, ed, show (48 : Int32) + nI (v / 10 ^ 0 % 10) = nI (48 + v / 10 ^ 0 % 10) from nI_add 48 _, chr (by omega), q1, bnS, q2, bnS, fX8_putNumber_l9, fX11_number_l24, if_pos (show nI (10 ^ 0) / (10 : Int32) ≤ 0 from by decide), if_pos (show nI (10 ^ 0) / (10 : Int32) ≤ 0 from by decide)]
    exact ⟨_, _, _, _, rfl, rfl, q3, q4⟩
  | succ k ih =>
    intro F G n tI tb yI vw h1 h2 h3 h4 h
    obtain ⟨F, rfl⟩ : ∃ G, F = G + 1 := ⟨F - 1, by omega⟩
    obtain ⟨G, rfl⟩ : ∃ F, G = F + 1 := ⟨G - 1, by omega⟩
    have hp := p10 (show k + 1 ≤ 8 by omega)
    have hlo : 10 ^ (k + 1) ≤ v := Nat.le_trans (Nat.pow_le_pow_right (by decide) h1) (tp_lo (by omega))
    have hp1 : 10 ≤ 10 ^ (k + 1) := by have := p10 (show k ≤ 8 by omega); rw [Nat.pow_succ]; omega
    have ed := dig (k := k + 1) hv (by omega)
    obtain ⟨tJ, tb2, yJ, v2, q1, q2, q3, q4⟩ := j_sign (48 + v / 10 ^ (k + 1) % 10) h (by omega) (by omega)
    rw [fX8_putNumber_l9, fX11_number_l24, if_neg (show ¬ nI (10 ^ (k + 1)) ≤ 0 from nI_nle (by omega) (by omega)), if_neg (show ¬ nI (10 ^ (k + 1)) = (1 : Int32) from fun e => by have := (nI_eq (b := 1) (by omega) (by decide)).mp e; omega), if_neg (nI_nlt hlo (by omega)), if_neg (show ¬ nI (10 ^ (k + 1)) ≤ 0 from nI_nle (by omega) (by omega)), gzN (by omega) (by omega), gzN (by omega) (by omega), ed, show (48 : Int32) + nI (v / 10 ^ (k + 1) % 10) = nI (48 + v / 10 ^ (k + 1) % 10) from nI_add 48 _, chr (by omega), q1, bnS, q2, bnS, d10 (by omega)]
    obtain ⟨tK, tb3, yK, v3, r1, r2, r3, r4⟩ := ih F G (n + 1) tJ tb2 yJ v2 (by omega) (by omega) (by omega) (by omega) q3
    exact ⟨tK, tb3, yK, v3, r1, r2, jT_le r3 (by omega), fun i hi => (r4 i hi).trans (q4 i hi)⟩
theorem x_skip {v : Nat} (hv : v < 1000000000) (tI tb : Nat → Int32) : ∀ (d F : Nat), tp v + d ≤ 8 → fX8_putNumber_l9 (nI v) (F + d) (nI (10 ^ (tp v + d))) tI tb = fX8_putNumber_l9 (nI v) F (nI (10 ^ tp v)) tI tb := by
  have hh := tp_hi hv
  intro d
  induction d with
  | zero => intro F _; rfl
  | succ d ih =>
    intro F hd
    have hp := p10 hd
    have hp1 : 10 ^ (tp v + 1) ≤ 10 ^ (tp v + (d + 1)) := Nat.pow_le_pow_right (by decide) (by omega)
    have hp2 : 10 ≤ 10 ^ (tp v + (d + 1)) := by
      have := p10 (show tp v + d ≤ 8 by omega)
      rw [← Nat.add_assoc, Nat.pow_succ]; omega
    show fX8_putNumber_l9 (nI v) (F + d + 1) _ _ _ = _
    rw [fX8_putNumber_l9, if_neg (nI_nle (by omega) (by omega)), if_neg (show ¬ nI (10 ^ (tp v + (d + 1))) = (1 : Int32) from fun e => by have := (nI_eq (b := 1) (by omega) (by decide)).mp e; omega), if_pos (nI_lt (by omega) (by omega)), show nI (10 ^ (tp v + (d + 1))) / (10 : Int32) = nI (10 ^ (tp v + d)) from d10 (k := tp v + d) (by omega)]
    exact ih F (by omega)
theorem y_unit {v : Nat} (hv : v < 1000000000) : ∀ (d F k : Nat), k + d = tp v → d < F → fX11_number_l2 (nI v) F (nI (10 ^ k)) = some (nI (10 ^ tp v)) := by
  have ht := tp_le v
  have hh := tp_hi hv
  intro d
  induction d with
  | zero =>
    intro F k e1 e2
    obtain ⟨F, rfl⟩ : ∃ G, F = G + 1 := ⟨F - 1, by omega⟩
    have : k = tp v := by omega
    subst this
    have hp := p10 ht
    have : v / 10 ^ tp v ≤ 9 := by
      have : v / 10 ^ tp v < 10 := (Nat.div_lt_iff_lt_mul (by omega)).mpr (by rw [Nat.pow_succ] at hh; omega)
      omega
    rw [fX11_number_l2, gzN (by omega) (by omega), pk_div (by omega) (by omega) (by omega), if_pos (show nI (v / 10 ^ tp v) ≤ (9 : Int32) from nI_le (b := 9) this (by decide))]
  | succ d ih =>
    intro F k e1 e2
    obtain ⟨F, rfl⟩ : ∃ G, F = G + 1 := ⟨F - 1, by omega⟩
    have hp := p10 (show k ≤ 8 by omega)
    have hlo := tp_lo (v := v) (by omega)
    have hle : 10 ^ (k + 1) ≤ 10 ^ tp v := Nat.pow_le_pow_right (by decide) (by omega)
    have : 10 ≤ v / 10 ^ k := (Nat.le_div_iff_mul_le (by omega)).mpr (by rw [Nat.pow_succ] at hle; omega)
    have h2 : v / 10 ^ k ≤ v := Nat.div_le_self _ _
    rw [fX11_number_l2, gzN (by omega) (by omega), pk_div (by omega) (by omega) (by omega), if_neg (show ¬ nI (v / 10 ^ k) ≤ (9 : Int32) from nI_ge (a := 9) (by omega) (by omega)), show nI (10 ^ k) * (10 : Int32) = nI (10 ^ (k + 1)) from by rw [Nat.pow_succ]; exact pk_mul _ 10]
    exact ih F (k + 1) (by omega) (by omega)
theorem j_num {v d n : Nat} {tI tb yI vw : Nat → Int32} (hv : v < 1000000000) (hd : v < 10 ^ (d + 1)) (hn : n + d + 2 ≤ 400) (h : jT n tI tb yI vw) : ∃ tJ tb2 yJ v2, fX8_putNumber tI tb (nI v) = some (tJ, tb2) ∧ fX11_number yI vw (nI v) = some (yJ, v2) ∧ jT (n + d + 2) tJ tb2 yJ v2 ∧ ∀ i, i ≠ 21 → yJ i = yI i := by
  have ht := tp_le v
  have ht2 := tp_d hd
  unfold fX8_putNumber fX11_number
  obtain ⟨tJ, tb2, yJ, v2, q1, q2, q3, q4⟩ := j_sign 32 h (by omega) (by decide)
  have q1 : fX8_putSign tI tb (32 : Int32) = some (tJ, tb2) := q1
  have q2 : fX11_adds yI vw (32 : Int32) = some (yJ, v2) := q2
  have yu : fX11_number_l2 (nI v) FU (1 : Int32) = some (nI (10 ^ tp v)) := y_unit hv (tp v) FU 0 (by omega) (by show _ < 4294967296; omega)
  rw [q1, bnS, yu, bnS, q2, bnS]
  obtain ⟨tK, tb3, yK, v3, r1, r2, r3, r4⟩ := j_digs hv (tp v) (FU - (8 - tp v)) FU (n + 1) tJ tb2 yJ v2 (Nat.le_refl _) (by show _ < 4294967296 - _; omega) (by show _ < 4294967296; omega) (by omega) q3
  have sk := x_skip hv tJ tb2 (8 - tp v) (FU - (8 - tp v)) (by omega)
  rw [show FU - (8 - tp v) + (8 - tp v) = FU from by show 4294967296 - _ + _ = 4294967296; omega, show tp v + (8 - tp v) = 8 from by omega] at sk
  have sk : fX8_putNumber_l9 (nI v) FU (100000000 : Int32) tJ tb2 = _ := sk
  dsimp only
  rw [sk, r1, bnS, r2, bnS]
  exact ⟨_, _, _, _, rfl, rfl, jT_le r3 (by omega), fun i hi => (r4 i hi).trans (q4 i hi)⟩
/-! ===== words ===== -/
theorem tx_n : ∀ i, i < 15 → sTl.getD i 0 ≤ 7 ∧ ∀ k, k < 8 → ∃ c, c < 128 ∧ (sTx.getD i []).getD k 0 = nI c := by
  intro i hi
  have h1 : ∀ i, i < 15 → sTl.getD i 0 ≤ 7 := by decide +kernel
  have h2 : ∀ i, i < 15 → ∀ k, k < 8 → (sTx.getD i []).getD k 0 = nI ((sTx.getD i []).getD k 0).toNatClampNeg ∧ ((sTx.getD i []).getD k 0).toNatClampNeg < 128 := by decide +kernel
  exact ⟨h1 i hi, fun k hk => ⟨_, (h2 i hi k hk).2, (h2 i hi k hk).1⟩⟩
/-- the letter of a word at a place from the end -/
def ltr (W k : Nat) : Nat := W / 27 ^ k % 27 + 96
theorem p27 {k : Nat} (hk : k ≤ 8) : 1 ≤ 27 ^ k ∧ 27 ^ k ≤ 282429536481 := ⟨Nat.pow_pos (by decide), Nat.le_trans (Nat.pow_le_pow_right (n := 27) (by decide) hk) (by decide)⟩
theorem y_wunit {W K : Nat} (hW : W < 2 ^ 63) (hK : K ≤ 7) (h1 : W / 27 ^ K ≤ 26) (h2 : ∀ j, j < K → 26 < W / 27 ^ j) : ∀ (d F k : Nat), k + d = K → d < F → fX11_word_l2 (lN W) F (lN (27 ^ k)) = some (lN (27 ^ K)) := by
  intro d
  induction d with
  | zero =>
    intro F k e1 e2
    obtain ⟨F, rfl⟩ : ∃ G, F = G + 1 := ⟨F - 1, by omega⟩
    have : k = K := by omega
    subst this
    have hp := p27 (show k ≤ 8 by omega)
    have hnz : nzL (lN (27 ^ k)) = true := decide_eq_true (fun e => by have := (pk_lEQ (b := 0) (by omega) (by decide)).mp e; omega)
    have hd : W / 27 ^ k ≤ W := Nat.div_le_self _ _
    rw [fX11_word_l2, hnz, gdT, pk_lDiv (by omega) (by omega) (by omega), if_pos (show lg_cmp (lN (W / 27 ^ k)) (26 : Int64) ≤ 0 from (lg_cmp_le _ _).mpr ((pk_lLE (b := 26) (by omega) (by decide)).mpr h1))]
  | succ d ih =>
    intro F k e1 e2
    obtain ⟨F, rfl⟩ : ∃ G, F = G + 1 := ⟨F - 1, by omega⟩
    have hp := p27 (show k ≤ 8 by omega)
    have hnz : nzL (lN (27 ^ k)) = true := decide_eq_true (fun e => by have := (pk_lEQ (b := 0) (by omega) (by decide)).mp e; omega)
    have hd : W / 27 ^ k ≤ W := Nat.div_le_self _ _
    have := h2 k (by omega)
    rw [fX11_word_l2, hnz, gdT, pk_lDiv (by omega) (by omega) (by omega), if_neg (fun z => by have := (pk_lLE (b := 26) (by omega) (by decide)).mp ((lg_cmp_le _ _).mp z); omega), show lN (27 ^ k) * (27 : Int64) = lN (27 ^ (k + 1)) from by rw [Nat.pow_succ]; exact lN_mul _ 27]
    exact ih F (k + 1) (by omega) (by omega)
theorem j_letters {W x K : Nat} (hW : W < 2 ^ 63) (hK : K ≤ 7) (hx : x < 15) (hl : sTl.getD x 0 = K + 1) (he : ∀ i, i < K + 1 → (sTx.getD x []).getD i 0 = nI (ltr W (K - i))) : ∀ (d F G n i : Nat) (tI tb yI vw : Nat → Int32), i + d = K → d + 1 < F → d + 1 < G → n + d + 1 ≤ 400 → jT n tI tb yI vw → ∃ tJ tb2 yJ v2, fX8_putSigns_l2 x F (nI i) tI tb = some (tJ, tb2) ∧ fX11_word_l21 (lN W) G (lN (27 ^ d)) yI vw = some (yJ, v2) ∧ jT (n + d + 1) tJ tb2 yJ v2 ∧ ∀ i, i ≠ 21 → yJ i = yI i := by
  have dx : decide (x < 15) = true := decide_eq_true hx
  have len : fJ0_length_8abf5 x = some (nI (K + 1)) := by unfold fJ0_length_8abf5; rw [dx, gdT, hl]
  have cha : ∀ i, i < K + 1 → fJ0_charAt_5068e x (nI i) = some (nI (ltr W (K - i))) := by
    intro i hi
    unfold fJ0_charAt_5068e
    rw [dx, gdT, hl, gdN hi (by omega), nI_clamp (by omega), he i hi]
  have stepY : ∀ (G d : Nat) (yI vw : Nat → Int32), d ≤ 7 → fX11_word_l21 (lN W) (G + 1) (lN (27 ^ d)) yI vw = bn (fX11_adds yI vw (nI (ltr W d))) fun a6 => fX11_word_l21 (lN W) G (lN (27 ^ d) / (27 : Int64)) a6.1 a6.2 := by
    intro G d yI vw hd
    have hp := p27 (show d ≤ 8 by omega)
    have hnz : nzL (lN (27 ^ d)) = true := decide_eq_true (fun e => by have := (pk_lEQ (b := 0) (by omega) (by decide)).mp e; omega)
    have hdv : W / 27 ^ d ≤ W := Nat.div_le_self _ _
    rw [fX11_word_l21, if_neg (fun z => by have := (pk_lLE (b := 0) (by omega) (by decide)).mp ((lg_cmp_le _ _).mp z); omega), hnz, gdT, pk_lDiv (by omega) (by omega) (by omega)]
    have e : lN (W / 27 ^ d) - lN (W / 27 ^ d) / (27 : Int64) * (27 : Int64) = lN (W / 27 ^ d % 27) := pk_lRem (b := 27) (by omega) (by decide) (by decide)
    have e2 : (nI (W / 27 ^ d % 27) + (97 : Int32)) - (1 : Int32) = nI (ltr W d) := by
      show nI (W / 27 ^ d % 27) + nI 97 - nI 1 = _
      rw [nI_add, pk_sub (by omega)]
      rfl
    rw [e, lN_i, e2]
  intro d
  induction d with
  | zero =>
    intro F G n i tI tb yI vw e1 h2 h3 h4 h
    obtain ⟨F, rfl⟩ : ∃ G, F = G + 2 := ⟨F - 2, by omega⟩
    obtain ⟨G, rfl⟩ : ∃ F, G = F + 2 := ⟨G - 2, by omega⟩
    have hlt : ltr W 0 < 128 := by unfold ltr; omega
    obtain ⟨tJ, tb2, yJ, v2, q1, q2, q3, q4⟩ := j_sign (ltr W 0) h (by omega) hlt
    rw [fX8_putSigns_l2, dx, gdT, len, bnS, if_neg (nI_ge (by omega) (by omega)), gdT, cha i (by omega), bnS, show K - i = 0 from by omega, q1, bnS, stepY _ 0 _ _ (by decide), q2, bnS, show nI i + (1 : Int32) = nI (i + 1) from nI_1 i, fX8_putSigns_l2, dx, gdT, len, bnS, if_pos (nI_le (by omega) (by omega)), fX11_word_l21, if_pos (show lg_cmp (lN (27 ^ 0) / (27 : Int64)) (0 : Int64) ≤ 0 from by decide)]
    exact ⟨_, _, _, _, rfl, rfl, q3, q4⟩
  | succ d ih =>
    intro F G n i tI tb yI vw e1 h2 h3 h4 h
    obtain ⟨F, rfl⟩ : ∃ G, F = G + 1 := ⟨F - 1, by omega⟩
    obtain ⟨G, rfl⟩ : ∃ F, G = F + 1 := ⟨G - 1, by omega⟩
    have hlt : ltr W (d + 1) < 128 := by unfold ltr; omega
    obtain ⟨tJ, tb2, yJ, v2, q1, q2, q3, q4⟩ := j_sign (ltr W (d + 1)) h (by omega) hlt
    have hp := p27 (show d + 1 ≤ 8 by omega)
    have ed : lN (27 ^ (d + 1)) / (27 : Int64) = lN (27 ^ d) := by
      have := pk_lDiv (a := 27 ^ (d + 1)) (b := 27) (by omega) (by decide) (by decide)
      refine Eq.trans this ?_
      congr 1
      rw [Nat.pow_succ]; omega
    rw [fX8_putSigns_l2, dx, gdT, len, bnS, if_neg (nI_ge (by omega) (by omega)), gdT, cha i (by omega), bnS, show K - i = d + 1 from by omega, q1, bnS, stepY _ (d + 1) _ _ (by omega), q2, bnS, show nI i + (1 : Int32) = nI (i + 1) from nI_1 i, ed]
    obtain ⟨tK, tb3, yK, v3, r1, r2, r3, r4⟩ := ih F G (n + 1) (i + 1) tJ tb2 yJ v2 (by omega) (by omega) (by omega) (by omega) q3
    exact ⟨tK, tb3, yK, v3, r1, r2, jT_le r3 (by omega), fun i hi => (r4 i hi).trans (q4 i hi)⟩
/-- word x of the program is word W of the reference -/
def wdP (x W : Nat) : Prop := ∃ K, K ≤ 6 ∧ x < 15 ∧ sTl.getD x 0 = K + 1 ∧ (∀ i, i < K + 1 → (sTx.getD x []).getD i 0 = nI (ltr W (K - i))) ∧ W < 2 ^ 63 ∧ W / 27 ^ K ≤ 26 ∧ ∀ j, j < K → 26 < W / 27 ^ j
theorem j_word {x W n : Nat} {tI tb yI vw : Nat → Int32} (hw : wdP x W) (hn : n + 7 ≤ 400) (h : jT n tI tb yI vw) : ∃ tJ tb2 yJ v2, fX8_putSigns tI tb x = some (tJ, tb2) ∧ fX11_word yI vw (lN W) = some (yJ, v2) ∧ jT (n + 7) tJ tb2 yJ v2 ∧ ∀ i, i ≠ 21 → yJ i = yI i := by
  obtain ⟨K, k1, k2, k3, k4, k5, k6, k7⟩ := hw
  unfold fX8_putSigns fX11_word
  have u : fX11_word_l2 (lN W) FU (1 : Int64) = some (lN (27 ^ K)) := y_wunit k5 (by omega) k6 k7 K FU 0 (by omega) (by show _ < 4294967296; omega)
  obtain ⟨tJ, tb2, yJ, v2, q1, q2, q3, q4⟩ := j_letters k5 (by omega) k2 k3 k4 K FU FU n 0 tI tb yI vw (by omega) (by show _ < 4294967296; omega) (by show _ < 4294967296; omega) (by omega) h
  have q1 : fX8_putSigns_l2 x FU (0 : Int32) tI tb = some (tJ, tb2) := q1
  rw [q1, bnS, u, bnS, q2, bnS]
  exact ⟨_, _, _, _, rfl, rfl, jT_le q3 (by omega), q4⟩
theorem wd_0 : wdP 0 12531637 := ⟨4, by decide, by decide, by decide, by decide +kernel, by decide, by decide, by decide⟩
theorem wd_1 : wdP 1 46486 := ⟨3, by decide, by decide, by decide, by decide +kernel, by decide, by decide, by decide⟩
theorem wd_2 : wdP 2 10068 := ⟨2, by decide, by decide, by decide, by decide +kernel, by decide, by decide, by decide⟩
theorem wd_3 : wdP 3 10413527 := ⟨4, by decide, by decide, by decide, by decide +kernel, by decide, by decide, by decide⟩
theorem wd_4 : wdP 4 63030 := ⟨3, by decide, by decide, by decide, by decide +kernel, by decide, by decide, by decide⟩
theorem wd_5 : wdP 5 187426886 := ⟨5, by decide, by decide, by decide, by decide +kernel, by decide, by decide, by decide⟩
theorem wd_6 : wdP 6 459791 := ⟨3, by decide, by decide, by decide, by decide +kernel, by decide, by decide, by decide⟩
theorem wd_7 : wdP 7 1489 := ⟨2, by decide, by decide, by decide, by decide +kernel, by decide, by decide, by decide⟩
theorem wd_8 : wdP 8 32941 := ⟨3, by decide, by decide, by decide, by decide +kernel, by decide, by decide, by decide⟩
theorem wd_9 : wdP 9 400577 := ⟨3, by decide, by decide, by decide, by decide +kernel, by decide, by decide, by decide⟩
theorem wd_10 : wdP 10 282078293 := ⟨5, by decide, by decide, by decide, by decide +kernel, by decide, by decide, by decide⟩
theorem wd_11 : wdP 11 381245 := ⟨3, by decide, by decide, by decide, by decide +kernel, by decide, by decide, by decide⟩
theorem wd_12 : wdP 12 365869 := ⟨3, by decide, by decide, by decide, by decide +kernel, by decide, by decide, by decide⟩
theorem wd_13 : wdP 13 1384295581 := ⟨6, by decide, by decide, by decide, by decide +kernel, by decide, by decide, by decide⟩
theorem wd_14 : wdP 14 283282993 := ⟨5, by decide, by decide, by decide, by decide +kernel, by decide, by decide, by decide⟩
