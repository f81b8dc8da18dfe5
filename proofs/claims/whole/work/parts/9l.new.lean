/-! ===== a new object ===== -/
def N0 : Nat → Nat
  | 0 => 64
  | 1 => 8
  | 3 => 1
  | 5 => 2
  | 6 => 3
  | 7 => 20
  | _ => 0
theorem okN_0 : okN N0 6 := ⟨rfl, by decide, by decide, by decide, by decide, .inl rfl, by decide, by decide, by decide, by decide, by decide, by decide, by decide, by decide⟩
theorem y_firsts {b : Nat} (hb : b + 46 ≤ 43047) (al : Nat → Int32) : ∃ al2, fX11_firsts al (nI b) = some al2 ∧ (∀ k, k < 46 → al2 (b + k) = nI (N0 k)) ∧ ∀ j, (j < b ∨ b + 46 ≤ j) → al2 j = al j := by
  unfold fX11_firsts
  have loop : ∀ (d F i : Nat) (t : Nat → Int32), i + d = 46 → d < F → (∀ k, k < i → t (b + k) = 0) → (∀ j, (j < b ∨ b + 46 ≤ j) → t j = al j) → ∃ t2, fX11_firsts_l2 (nI b) F (nI i) t = some t2 ∧ (∀ k, k < 46 → t2 (b + k) = 0) ∧ ∀ j, (j < b ∨ b + 46 ≤ j) → t2 j = al j := by
    intro d
    induction d with
    | zero =>
      intro F i t e1 e2 h1 h2
      obtain ⟨F, rfl⟩ : ∃ G, F = G + 1 := ⟨F - 1, by omega⟩
      have : i = 46 := by omega
      subst this
      rw [fX11_firsts_l2, if_pos (show (46 : Int32) ≤ nI 46 from by decide)]
      exact ⟨t, rfl, h1, h2⟩
    | succ d ih =>
      intro F i t e1 e2 h1 h2
      obtain ⟨F, rfl⟩ : ∃ G, F = G + 1 := ⟨F - 1, by omega⟩
      rw [fX11_firsts_l2, if_neg (show ¬ (46 : Int32) ≤ nI i from nI_ge (b := 46) (by omega) (by decide)), nI_add, gdN (by omega) (by decide), nI_clamp (by omega), show nI i + (1 : Int32) = nI (i + 1) from nI_1 i]
      refine ih F (i + 1) _ (by omega) (by omega) (fun k hk => ?_) (fun j hj => by rw [ux_ne (by omega)]; exact h2 j hj)
      by_cases ek : k = i
      · subst ek; rw [ux_at]
      · rw [ux_ne (by omega)]; exact h1 k (by omega)
  obtain ⟨t2, q1, q2, q3⟩ := loop 46 FU 0 al (by decide) (by decide) (fun k hk => absurd hk (Nat.not_lt_zero k)) (fun _ _ => rfl)
  have q1 : fX11_firsts_l2 (nI b) FU (0 : Int32) al = some t2 := q1
  rw [q1, bnS, show nI b + (0 : Int32) = nI (b + 0) from nI_add b 0, show nI b + (1 : Int32) = nI (b + 1) from nI_add b 1, show nI b + (3 : Int32) = nI (b + 3) from nI_add b 3, show nI b + (5 : Int32) = nI (b + 5) from nI_add b 5, show nI b + (6 : Int32) = nI (b + 6) from nI_add b 6, show nI b + (7 : Int32) = nI (b + 7) from nI_add b 7, gdN (show b + 0 < 43047 by omega) (by decide), gdN (show b + 1 < 43047 by omega) (by decide), gdN (show b + 3 < 43047 by omega) (by decide), gdN (show b + 5 < 43047 by omega) (by decide), gdN (show b + 6 < 43047 by omega) (by decide), gdN (show b + 7 < 43047 by omega) (by decide), nI_clamp (show b + 0 < 2 ^ 31 by omega), nI_clamp (show b + 1 < 2 ^ 31 by omega), nI_clamp (show b + 3 < 2 ^ 31 by omega), nI_clamp (show b + 5 < 2 ^ 31 by omega), nI_clamp (show b + 6 < 2 ^ 31 by omega), nI_clamp (show b + 7 < 2 ^ 31 by omega)]
  refine ⟨_, rfl, fun k hk => ?_, fun j hj => ?_⟩
  · by_cases e7 : k = 7
    · subst e7; rw [ux_at]; rfl
    rw [ux_ne (by omega)]
    by_cases e6 : k = 6
    · subst e6; rw [ux_at]; rfl
    rw [ux_ne (by omega)]
    by_cases e5 : k = 5
    · subst e5; rw [ux_at]; rfl
    rw [ux_ne (by omega)]
    by_cases e3 : k = 3
    · subst e3; rw [ux_at]; rfl
    rw [ux_ne (by omega)]
    by_cases e1 : k = 1
    · subst e1; rw [ux_at]; rfl
    rw [ux_ne (by omega)]
    by_cases e0 : k = 0
    · subst e0; rw [ux_at]; rfl
    rw [ux_ne (by omega), q2 k hk]
    have z : ∀ k, k < 46 → (k = 7 ∨ k = 6 ∨ k = 5 ∨ k = 3 ∨ k = 1 ∨ k = 0 ∨ (0 : Int32) = nI (N0 k)) := by decide +kernel
    rcases z k hk with q | q | q | q | q | q | q
    · exact absurd q e7
    · exact absurd q e6
    · exact absurd q e5
    · exact absurd q e3
    · exact absurd q e1
    · exact absurd q e0
    · exact q
  · rw [ux_ne (by omega), ux_ne (by omega), ux_ne (by omega), ux_ne (by omega), ux_ne (by omega), ux_ne (by omega)]
    exact q3 j hj
theorem memP_0 : ∃ f, memP N0 (fun _ => 0) (fun _ => 0) (fun _ => 0) 6 f 0 := by
  obtain ⟨f, h1, h2, h3, -⟩ := mx_in okN_0
  exact ⟨f, okN_0, h3 rfl, h2, ⟨by decide, fun k hk => absurd hk (Nat.not_lt_zero k)⟩, fun k hk => absurd hk (Nat.not_lt_zero k), fun i j _ hj => absurd hj (Nat.not_lt_zero j)⟩
theorem nu_0 : ∀ k, k < 9 → va_cpy (fun z => (sV 0).getD z 0) (fun _ => (0 : Int32)) 0 0 9 k = nI (N0 k) := by decide +kernel
theorem sim_new : Sim_new Rel := by
  obtain ⟨f, hP⟩ := memP_0
  have hP' := hP
  obtain ⟨ok, hM, hmx, hb, hfit, hds⟩ := hP'
  obtain ⟨a2, ha2, b1, b2, b3, b4, b5, b6, b7⟩ : ∃ a2, fX6_init = some a2 ∧ a2.2.1 4 = nI 0 ∧ (∀ k, k < 9 → a2.2.2.1 k = nI (N0 k)) ∧ (∀ k, a2.2.2.2.2.2.2.1 k = 0) ∧ (∀ k, a2.2.2.2.2.2.2.2.1 k = 0) ∧ (a2.1 2 = 0 ∧ a2.1 3 = -1 ∧ a2.1 4 = 0 ∧ a2.1 5 = 0 ∧ a2.1 6 = 0) ∧ a2.2.2.2.2.2.2.2.2.1 1 = nI 0 ∧ ∀ k, a2.2.2.2.2.2.2.2.2.2 k = 0 := ⟨_, rfl, rfl, nu_0, fun _ => rfl, fun _ => rfl, ⟨rfl, rfl, rfl, rfl, rfl⟩, rfl, fun _ => rfl⟩
  obtain ⟨a16, ha16, p1, p2⟩ : ∃ a16, fX1_init = some a16 ∧ a16 1 = nI 0 ∧ a16 2 = nI 0 := ⟨_, rfl, rfl, rfl⟩
  obtain ⟨a20, ha20⟩ : ∃ a, fX9_init = some a := ⟨_, rfl⟩
  obtain ⟨a28, ha28⟩ : ∃ a, fX4_init = some a := ⟨_, rfl⟩
  obtain ⟨a32, ha32⟩ : ∃ a, fX5_init = some a := ⟨_, rfl⟩
  obtain ⟨a39, ha39⟩ : ∃ a, fX2_init = some a := ⟨_, rfl⟩
  obtain ⟨a49, ha49⟩ : ∃ a, fX8_init = some a := ⟨_, rfl⟩
  have xb : xBd a2.2.1 a2.2.2.2.1 a2.2.2.2.2.1 a2.2.2.2.2.2.1 0 (fun _ => 0) (fun _ => 0) (fun _ => 0) := ⟨b1, fun k hk => absurd hk (Nat.not_lt_zero k)⟩
  obtain ⟨t2, r2, rr2, rc2, cd2, lf2, fI2, fz2, st1, st2⟩ := x_settle hP b2 xb a20.1 a20.2.1 a20.2.2.1 a20.2.2.2.1 a20.2.2.2.2.1 a20.2.2.2.2.2 a28.1 a28.2
  obtain ⟨al, y1, y2, y3⟩ := y_firsts (b := 0) (by decide) (fun _ => 0)
  have y1 : fX11_firsts (fun _ => 0) (0 : Int32) = some al := y1
  have hx : ∃ ox, fX10_init = some ox ∧ xs0 ox = xs0 (a2.1, a2.2.1, a2.2.2.1, a2.2.2.2.1, a2.2.2.2.2.1, a2.2.2.2.2.2.1, a2.2.2.2.2.2.2.1, a2.2.2.2.2.2.2.2.1, a2.2.2.2.2.2.2.2.2.1, a2.2.2.2.2.2.2.2.2.2, a16, t2, r2, rr2, rc2, cd2, lf2, fI2, fz2, a32.1, a32.2.1, a32.2.2.1, a32.2.2.2.1, a32.2.2.2.2, a39.1, a39.2.1, a39.2.2.1, a39.2.2.2.1, a39.2.2.2.2.1, a39.2.2.2.2.2.1, a39.2.2.2.2.2.2.1, a39.2.2.2.2.2.2.2, a49.1, a49.2) := by
    refine ⟨_, ?_, rfl⟩
    unfold fX10_init
    rw [ha2, bnS, ha16, bnS, ha20, bnS, ha28, bnS, ha32, bnS, ha39, bnS, ha49, bnS, st1, bnS]
  obtain ⟨ox, hx1, hx2⟩ := hx
  have hy : ∃ oy, fX11_init = some oy ∧ oy.1 3 = 0 ∧ oy.1 4 = 0 ∧ oy.1 5 = -1 ∧ oy.1 6 = 0 ∧ oy.2.2.1 = al ∧ ∀ k, oy.2.2.2.2.1 k = 0 := by
    unfold fX11_init
    rw [y1, bnS]
    exact ⟨_, rfl, rfl, rfl, rfl, rfl, rfl, fun _ => rfl⟩
  obtain ⟨oy, hy1, e3, e4, e5, e6, e7, e8⟩ := hy
  refine ⟨ox, oy, hx1, hy1, ?_⟩
  rw [hx2]
  have al0 : ∀ j, 46 ≤ j → al j = 0 := fun j hj => y3 j (.inr (by omega))
  show RelC a2.1 (a2.2.1, a2.2.2.1, a2.2.2.2.1, a2.2.2.2.2.1, a2.2.2.2.2.2.1, a2.2.2.2.2.2.2.1, a2.2.2.2.2.2.2.2.1) a2.2.2.2.2.2.2.2.2.1 a2.2.2.2.2.2.2.2.2.2 a16 t2 r2 rr2 rc2 (fun _ => none) (fun _ => none) oy.1 oy.2.2.1 oy.2.2.2.1 oy.2.2.2.2.1
  rw [e7]
  refine ⟨⟨N0, fun _ => 0, fun _ => 0, fun _ => 0, 6, f, 0, ⟨hP, ⟨b2, xb⟩, ⟨by decide, ⟨by decide, fun k hk => y2 k (by omega)⟩, y2 9 (by decide), fun k hk => absurd hk (Nat.not_lt_zero k)⟩, celR_0 ok hM (fun k _ => b3 k) (fun k _ => b4 k) (fun k k1 _ => al0 k k1)⟩, st2⟩, ?_, ?_, ?_, ?_, ?_⟩
  · exact ⟨b5.2.2.1.trans (al0 _ (by decide)).symm, b5.2.2.2.1.trans (al0 _ (by decide)).symm, b5.2.2.2.2.trans (al0 _ (by decide)).symm⟩
  · exact ⟨0, by decide, b6, e3, fun i hi => by rw [b7]; rfl, fun i hi => absurd hi (Nat.not_lt_zero i)⟩
  · exact ⟨b5.1.trans e4.symm, b5.2.1.trans e5.symm⟩
  · exact ⟨0, 0, by decide, by decide, p2, p1, e6, fun i hi => absurd hi (Nat.not_lt_zero i)⟩
  · exact fun k hk => .inl ⟨rfl, e8 k⟩
