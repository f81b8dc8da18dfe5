/-! ===== words that are told ===== -/
def wdE (x W : Nat) : Prop := ∃ K, K ≤ 6 ∧ x < 15 ∧ sTl.getD x 0 = K + 1 ∧ (∀ i, i < K + 1 → (sTx.getD x []).getD i 0 = nI (ltr W (K - i))) ∧ W = enc 27 (fun i => W / 27 ^ (K - i) % 27) (K + 1) ∧ (∀ i, i < K + 1 → 1 ≤ W / 27 ^ (K - i) % 27) ∧ W < 2 ^ 62
theorem we_0 : wdE 0 12531637 := ⟨4, by decide, by decide, by decide, by decide +kernel, by decide, by decide, by decide⟩
theorem we_1 : wdE 1 46486 := ⟨3, by decide, by decide, by decide, by decide +kernel, by decide, by decide, by decide⟩
theorem we_2 : wdE 2 10068 := ⟨2, by decide, by decide, by decide, by decide +kernel, by decide, by decide, by decide⟩
theorem we_3 : wdE 3 10413527 := ⟨4, by decide, by decide, by decide, by decide +kernel, by decide, by decide, by decide⟩
theorem we_4 : wdE 4 63030 := ⟨3, by decide, by decide, by decide, by decide +kernel, by decide, by decide, by decide⟩
theorem we_5 : wdE 5 187426886 := ⟨5, by decide, by decide, by decide, by decide +kernel, by decide, by decide, by decide⟩
theorem we_6 : wdE 6 459791 := ⟨3, by decide, by decide, by decide, by decide +kernel, by decide, by decide, by decide⟩
theorem we_7 : wdE 7 1489 := ⟨2, by decide, by decide, by decide, by decide +kernel, by decide, by decide, by decide⟩
theorem we_8 : wdE 8 32941 := ⟨3, by decide, by decide, by decide, by decide +kernel, by decide, by decide, by decide⟩
theorem we_9 : wdE 9 400577 := ⟨3, by decide, by decide, by decide, by decide +kernel, by decide, by decide, by decide⟩
theorem we_10 : wdE 10 282078293 := ⟨5, by decide, by decide, by decide, by decide +kernel, by decide, by decide, by decide⟩
section WORDS_
variable {n : Nat} {vb : Nat → Nat} {sI sb yt tI yI : Nat → Int32} {val : Int64} {p e : Nat}
theorem t_told (hs : srcR n vb sI sb yt) (ht : tokR n vb tI yI val p e 1) {x W : Nat} (hw : wdE x W) : ∃ r, fX2_isTold tI sI sb x = some r ∧ (r = true ↔ val = lN W) := by
  obtain ⟨K, k1, k2, k3, k4, k5, k6, k7⟩ := hw
  obtain ⟨-, -, t5, -, t6, -, pe, en, -, -, -, tw⟩ := ht
  obtain ⟨w1, w2, w3⟩ := tw rfl
  have h1 := hs.1
  have dx : decide (x < 15) = true := decide_eq_true k2
  have len : fJ0_length_8abf5 x = some (nI (K + 1)) := by unfold fJ0_length_8abf5; rw [dx, gdT, k3]
  have cha : ∀ i, i < K + 1 → fJ0_charAt_5068e x (nI i) = some (nI (ltr W (K - i))) := by
    intro i hi
    unfold fJ0_charAt_5068e
    rw [dx, gdT, k3, gdN hi (by omega), nI_clamp (by omega), k4 i hi]
  have lt_ : ∀ i, ltr W (K - i) < 128 := fun i => by unfold ltr; omega
  have same : (K + 1 = e - p ∧ ∀ i, i < K + 1 → ltr W (K - i) = vb (p + i)) ↔ val = lN W := by
    rw [w3]
    have hc : ∀ i, i < e - p → 1 ≤ (fun i => vb (p + i) - 96) i ∧ (fun i => vb (p + i) - 96) i ≤ 26 := fun i hi => by
      have := w2 (p + i) (by omega) (by omega)
      exact ⟨by show 1 ≤ vb (p + i) - 96; omega, by show vb (p + i) - 96 ≤ 26; omega⟩
    have hd : ∀ i, i < K + 1 → 1 ≤ (fun i => W / 27 ^ (K - i) % 27) i ∧ (fun i => W / 27 ^ (K - i) % 27) i ≤ 26 := fun i hi => ⟨k6 i hi, by show W / 27 ^ (K - i) % 27 ≤ 26; omega⟩
    have elt : enc 27 (fun i => vb (p + i) - 96) (e - p) < 27 ^ 8 := Nat.lt_of_lt_of_le (enc_lt (by decide) (fun i hi => Nat.lt_of_le_of_lt (hc i hi).2 (by decide))) (Nat.pow_le_pow_right (by decide) w1)
    have elt2 : enc 27 (fun i => vb (p + i) - 96) (e - p) < 2 ^ 63 := Nat.lt_trans elt (by decide)
    rw [pk_lEQ elt2 (by omega)]
    constructor
    · intro ⟨a, b⟩
      rw [k5, ← a]
      refine enc_cong (fun i hi => ?_)
      have := b i (by omega)
      unfold ltr at this
      omega
    · intro a
      rw [k5] at a
      obtain ⟨q1, q2⟩ := enc_inj hc hd a
      refine ⟨q1.symm, fun i hi => ?_⟩
      have z : vb (p + i) - 96 = W / 27 ^ (K - i) % 27 := q2 i (by omega)
      have := w2 (p + i) (by omega) (by omega)
      unfold ltr
      omega
  unfold fX2_isTold
  rw [dx, gdT, len, bnS, t5, t6, hs.2.1, pk_sub pe]
  by_cases c : K + 1 = e - p
  · rw [if_pos (by rw [c]), if_pos (nI_le en (by omega))]
    have loop : ∀ (d F i : Nat), i + d = K + 1 → d < F → (∀ j, j < i → ltr W (K - j) = vb (p + j)) → (fX2_isTold_l34 x tI sb F (nI i) = some (.inl ()) ∧ ∀ j, j < K + 1 → ltr W (K - j) = vb (p + j)) ∨ (fX2_isTold_l34 x tI sb F (nI i) = some (.inr false) ∧ ¬ ∀ j, j < K + 1 → ltr W (K - j) = vb (p + j)) := by
      intro d
      induction d with
      | zero =>
        intro F i e1 e2 hi
        obtain ⟨F, rfl⟩ : ∃ G, F = G + 1 := ⟨F - 1, by omega⟩
        rw [fX2_isTold_l34, dx, gdT, len, bnS, if_pos (nI_le (by omega) (by omega))]
        exact .inl ⟨rfl, fun j hj => hi j (by omega)⟩
      | succ d ih =>
        intro F i e1 e2 hi
        obtain ⟨F, rfl⟩ : ∃ G, F = G + 1 := ⟨F - 1, by omega⟩
        obtain ⟨b1, b2, b3⟩ := hs.2.2 (p + i) (by omega)
        have bl := w2 (p + i) (by omega) (by omega)
        rw [fX2_isTold_l34, dx, gdT, len, bnS, if_neg (nI_ge (by omega) (by omega)), gdT, cha i (by omega), bnS, t5, nI_add, gdN (by omega) (by decide), nI_clamp (by omega), b2, fa_byte_small (by omega), show nI i + (1 : Int32) = nI (i + 1) from nI_1 i]
        have lti := lt_ i
        by_cases q : ltr W (K - i) = vb (p + i)
        · rw [if_pos (by rw [q])]
          exact ih F (i + 1) (by omega) (by omega) (fun j hj => by
            by_cases ej : j = i
            · subst ej; exact q
            · exact hi j (by omega))
        · rw [if_neg (fun z => q ((nI_eq (by omega) (by omega)).mp z))]
          exact .inr ⟨rfl, fun z => q (z i (by omega))⟩
    rcases loop (K + 1) FU 0 (by omega) (by show _ < 4294967296; omega) (fun j hj => absurd hj (Nat.not_lt_zero j)) with ⟨q1, q2⟩ | ⟨q1, q2⟩
    · have q1 : fX2_isTold_l34 x tI sb FU (0 : Int32) = some (.inl ()) := q1
      rw [q1, bnS]
      exact ⟨true, rfl, fun _ => same.mp ⟨c, q2⟩, fun _ => rfl⟩
    · have q1 : fX2_isTold_l34 x tI sb FU (0 : Int32) = some (.inr false) := q1
      rw [q1, bnS]
      exact ⟨false, rfl, fun z => absurd z (by decide), fun z => absurd (same.mpr z).2 q2⟩
  · rw [if_neg (fun z => c ((nI_eq (by omega) (by omega)).mp z))]
    exact ⟨false, rfl, fun z => absurd z (by decide), fun z => absurd (same.mpr z).1 c⟩
def wL : Nat → Nat
  | 0 => 12531637
  | 1 => 46486
  | 2 => 10068
  | 3 => 10413527
  | 4 => 63030
  | 5 => 187426886
  | 6 => 459791
  | _ => 1489
def wW : Nat → Nat
  | 0 => 32941
  | 1 => 400577
  | _ => 282078293
theorem we_L : ∀ i, i < 8 → wdE i (wL i) := by
  intro i hi
  have e : i = 0 ∨ i = 1 ∨ i = 2 ∨ i = 3 ∨ i = 4 ∨ i = 5 ∨ i = 6 ∨ i = 7 := by omega
  rcases e with e | e | e | e | e | e | e | e <;> subst e
  · exact we_0
  · exact we_1
  · exact we_2
  · exact we_3
  · exact we_4
  · exact we_5
  · exact we_6
  · exact we_7
theorem we_W : ∀ i, i < 3 → wdE (8 + i) (wW i) := by
  intro i hi
  have e : i = 0 ∨ i = 1 ∨ i = 2 := by omega
  rcases e with e | e | e <;> subst e
  · exact we_8
  · exact we_9
  · exact we_10
theorem t_line (hs : srcR n vb sI sb yt) (ht : tokR n vb tI yI val p e 1) : (fX2_lineTold tI sI sb = some (-1 : Int32) ∧ ∀ i, i < 8 → val ≠ lN (wL i)) ∨ ∃ i, i < 8 ∧ fX2_lineTold tI sI sb = some (nI i) ∧ val = lN (wL i) := by
  unfold fX2_lineTold
  have lw : ∀ i, i < 8 → fX10_lineWord (nI i) = i := by decide +kernel
  have loop : ∀ (d F i : Nat), i + d = 8 → d < F → (∀ j, j < i → val ≠ lN (wL j)) → (fX2_lineTold_l2 tI sI sb F (nI i) = some (.inl ()) ∧ ∀ i, i < 8 → val ≠ lN (wL i)) ∨ ∃ t, t < 8 ∧ fX2_lineTold_l2 tI sI sb F (nI i) = some (.inr (nI t)) ∧ val = lN (wL t) := by
    intro d
    induction d with
    | zero =>
      intro F i e1 e2 hi
      obtain ⟨F, rfl⟩ : ∃ G, F = G + 1 := ⟨F - 1, by omega⟩
      have : i = 8 := by omega
      subst this
      rw [fX2_lineTold_l2, if_pos (show (8 : Int32) ≤ nI 8 from by decide)]
      exact .inl ⟨rfl, hi⟩
    | succ d ih =>
      intro F i e1 e2 hi
      obtain ⟨F, rfl⟩ : ∃ G, F = G + 1 := ⟨F - 1, by omega⟩
      obtain ⟨r, r1, r2⟩ := t_told hs ht (we_L i (by omega))
      rw [fX2_lineTold_l2, if_neg (show ¬ (8 : Int32) ≤ nI i from nI_ge (b := 8) (by omega) (by decide)), lw i (by omega), r1, bnS, show nI i + (1 : Int32) = nI (i + 1) from nI_1 i]
      by_cases c : val = lN (wL i)
      · rw [if_neg (bi_t (r2.mpr c))]
        exact .inr ⟨i, by omega, rfl, c⟩
      · rw [if_pos (bi_f (fun z => c (r2.mp z)))]
        exact ih F (i + 1) (by omega) (by omega) (fun j hj => by
          by_cases ej : j = i
          · subst ej; exact c
          · exact hi j (by omega))
  rcases loop 8 FU 0 (by decide) (by decide) (fun j hj => absurd hj (Nat.not_lt_zero j)) with ⟨q1, q2⟩ | ⟨t, q1, q2, q3⟩
  · have q1 : fX2_lineTold_l2 tI sI sb FU (0 : Int32) = some (.inl ()) := q1
    rw [q1, bnS]
    exact .inl ⟨rfl, q2⟩
  · have q2 : fX2_lineTold_l2 tI sI sb FU (0 : Int32) = some (.inr (nI t)) := q2
    rw [q2, bnS]
    exact .inr ⟨t, q1, rfl, q3⟩
theorem t_wish (hs : srcR n vb sI sb yt) (ht : tokR n vb tI yI val p e 1) : (fX2_wishTold tI sI sb = some (-1 : Int32) ∧ ∀ i, i < 3 → val ≠ lN (wW i)) ∨ ∃ i, i < 3 ∧ fX2_wishTold tI sI sb = some (nI i) ∧ val = lN (wW i) := by
  unfold fX2_wishTold
  have lw : ∀ i, i < 3 → fX10_wishWord (nI i) = 8 + i := by decide +kernel
  have loop : ∀ (d F i : Nat), i + d = 3 → d < F → (∀ j, j < i → val ≠ lN (wW j)) → (fX2_wishTold_l2 tI sI sb F (nI i) = some (.inl ()) ∧ ∀ i, i < 3 → val ≠ lN (wW i)) ∨ ∃ t, t < 3 ∧ fX2_wishTold_l2 tI sI sb F (nI i) = some (.inr (nI t)) ∧ val = lN (wW t) := by
    intro d
    induction d with
    | zero =>
      intro F i e1 e2 hi
      obtain ⟨F, rfl⟩ : ∃ G, F = G + 1 := ⟨F - 1, by omega⟩
      have : i = 3 := by omega
      subst this
      rw [fX2_wishTold_l2, if_pos (show (3 : Int32) ≤ nI 3 from by decide)]
      exact .inl ⟨rfl, hi⟩
    | succ d ih =>
      intro F i e1 e2 hi
      obtain ⟨F, rfl⟩ : ∃ G, F = G + 1 := ⟨F - 1, by omega⟩
      obtain ⟨r, r1, r2⟩ := t_told hs ht (we_W i (by omega))
      rw [fX2_wishTold_l2, if_neg (show ¬ (3 : Int32) ≤ nI i from nI_ge (b := 3) (by omega) (by decide)), lw i (by omega), r1, bnS, show nI i + (1 : Int32) = nI (i + 1) from nI_1 i]
      by_cases c : val = lN (wW i)
      · rw [if_neg (bi_t (r2.mpr c))]
        exact .inr ⟨i, by omega, rfl, c⟩
      · rw [if_pos (bi_f (fun z => c (r2.mp z)))]
        exact ih F (i + 1) (by omega) (by omega) (fun j hj => by
          by_cases ej : j = i
          · subst ej; exact c
          · exact hi j (by omega))
  rcases loop 3 FU 0 (by decide) (by decide) (fun j hj => absurd hj (Nat.not_lt_zero j)) with ⟨q1, q2⟩ | ⟨t, q1, q2, q3⟩
  · have q1 : fX2_wishTold_l2 tI sI sb FU (0 : Int32) = some (.inl ()) := q1
    rw [q1, bnS]
    exact .inl ⟨rfl, q2⟩
  · have q2 : fX2_wishTold_l2 tI sI sb FU (0 : Int32) = some (.inr (nI t)) := q2
    rw [q2, bnS]
    exact .inr ⟨t, q1, rfl, q3⟩
end WORDS_
