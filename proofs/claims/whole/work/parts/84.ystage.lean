/-! ===== stages and sizes: the reference ===== -/
noncomputable def dI (l C n : Nat) : Int32 := nI n * nI (tS l C n) + (10 : Int32) * (((nI (aI l) + nI (bI l)) + nI n) - (2 : Int32))
noncomputable def s4 (l C : Nat) : Nat := if dI l C 2 ≤ dI l C 4 then 2 else 4
noncomputable def s6 (l C : Nat) : Nat := if dI l C (s4 l C) ≤ dI l C 6 then s4 l C else 6
noncomputable def stg (l C : Nat) : Nat := if dI l C (s6 l C) ≤ dI l C 8 then s6 l C else 8
theorem s4_ok (l C : Nat) : okS (s4 l C) := by unfold s4 okS; split <;> omega
theorem s6_ok (l C : Nat) : okS (s6 l C) := by
  have := s4_ok l C
  unfold s6; split
  · exact this
  · unfold okS; omega
theorem stg_ok (l C : Nat) : okS (stg l C) := by
  have := s6_ok l C
  unfold stg; split
  · exact this
  · unfold okS; omega
theorem stg_b (l C : Nat) : 2 ≤ stg l C ∧ stg l C ≤ 8 := by
  have := stg_ok l C
  unfold okS at this
  omega
theorem ux_at (g : Nat → Int32) (k : Nat) (x : Int32) : upd g k x k = x := if_pos rfl
theorem ux_ne {g : Nat → Int32} {k j : Nat} {x : Int32} (h : j ≠ k) : upd g k x j = g j := if_neg h
def upI (p q : Int32) : Int32 := ((p + q) - (1 : Int32)) / q
/-- sizes, from the last stage down -/
def szM (T top : Int32) : Nat → Int32
  | 0 => top
  | k + 1 => upI ((30 : Int32) * szM T top k) T
noncomputable def szT (l C : Nat) : Int32 := (3 : Int32) * nI (tS l C (stg l C))
noncomputable def szTop (l C : Nat) : Int32 := upI (((10 : Int32) * nI C) * (nI (bI l) + (2 : Int32))) (szT l C)
noncomputable def szI (l C k : Nat) : Int32 :=
  if k = 0 then upI (((10 : Int32) * upI (szM (szT l C) (szTop l C) (stg l C - 2) * nI (2 ^ l)) ((1 : Int32) <<< (nI (aI l) &&& 31))) * (nI (aI l) + (2 : Int32))) (szT l C)
  else szM (szT l C) (szTop l C) (stg l C - 1 - k)
theorem szT_ok {l C : Nat} (h : okLC l C) : nz (szT l C) = true ∧ (1 : Int32) ≤ szT l C := by
  have h1 := tS_10 h (stg_ok l C)
  have h2 : tS l C (stg l C) ≤ 4096 := Nat.le_trans (tS_ok h (stg_ok l C)).2 (by rcases stg_ok l C with e | e | e | e <;> rw [e] <;> decide)
  have e : szT l C = nI (3 * tS l C (stg l C)) := by
    unfold szT
    exact pk_mul 3 _
  rw [e]
  exact ⟨nzN (by omega) (by omega), nI_le (a := 1) (by omega) (by omega)⟩
section YT_
variable {al : Nat → Int32} {b w f : Nat} {N : Nat → Nat}
theorem y_delay {n : Nat} (hm : mdl al b N) (ok : okN N w) (hf : f ≤ 3) (hl : 3 ≤ w - f) (hl2 : w - f ≤ 9) (hn : okS n) : fX11_delay al (nI b) (nI (2 ^ f)) (nI n) = some (dI (w - f) (N 1 * 2 ^ f + N 4 + 1) n) := by
  unfold fX11_delay
  rw [y_tenths hm ok hf hl hl2 hn, bnS, y_first hm ok hf, bnS, y_last hm ok hf, bnS]
  rfl
theorem y_stages (hm : mdl al b N) (ok : okN N w) (hf : f ≤ 3) (hl : 3 ≤ w - f) (hl2 : w - f ≤ 9) : fX11_stages al (nI b) (nI (2 ^ f)) = some (nI (stg (w - f) (N 1 * 2 ^ f + N 4 + 1))) := by
  unfold fX11_stages
  have d := fun n (hn : okS n) => y_delay hm ok hf hl hl2 hn
  rw [show (2 : Int32) = nI 2 from rfl, d 2 (.inl rfl), bnS]
  have step : ∀ (F n s : Nat), okS n → okS s → fX11_stages_l14 (nI b) (nI (2 ^ f)) al (F + 1) (nI s) (dI (w - f) (N 1 * 2 ^ f + N 4 + 1) s) (nI n) = fX11_stages_l14 (nI b) (nI (2 ^ f)) al F (nI (if dI (w - f) (N 1 * 2 ^ f + N 4 + 1) s ≤ dI (w - f) (N 1 * 2 ^ f + N 4 + 1) n then s else n)) (dI (w - f) (N 1 * 2 ^ f + N 4 + 1) (if dI (w - f) (N 1 * 2 ^ f + N 4 + 1) s ≤ dI (w - f) (N 1 * 2 ^ f + N 4 + 1) n then s else n)) (nI (n + 2)) := by
    intro F n s hn hs
    rw [fX11_stages_l14, if_neg (show ¬ (8 : Int32) < nI n from nI_nlt (a := 8) (by unfold okS at hn; omega) (by omega)), d n hn, bnS]
    have e : nI n + (2 : Int32) = nI (n + 2) := nI_add n 2
    rw [e]
    by_cases c : dI (w - f) (N 1 * 2 ^ f + N 4 + 1) s ≤ dI (w - f) (N 1 * 2 ^ f + N 4 + 1) n
    · rw [if_pos c, if_pos c, if_pos c]
    · rw [if_neg c, if_neg c, if_neg c]
  have e : fX11_stages_l14 (nI b) (nI (2 ^ f)) al FU (nI 2) (dI (w - f) (N 1 * 2 ^ f + N 4 + 1) 2) (4 : Int32) = some (nI (stg (w - f) (N 1 * 2 ^ f + N 4 + 1))) := by
    show fX11_stages_l14 (nI b) (nI (2 ^ f)) al (4294967292 + 1 + 1 + 1 + 1) (nI 2) (dI (w - f) (N 1 * 2 ^ f + N 4 + 1) 2) (nI 4) = _
    rw [step _ 4 2 (.inr (.inl rfl)) (.inl rfl)]
    rw [show (if dI (w - f) (N 1 * 2 ^ f + N 4 + 1) 2 ≤ dI (w - f) (N 1 * 2 ^ f + N 4 + 1) 4 then 2 else 4) = s4 (w - f) (N 1 * 2 ^ f + N 4 + 1) from rfl]
    rw [step _ (4 + 2) _ (.inr (.inr (.inl rfl))) (s4_ok _ _)]
    rw [show (if dI (w - f) (N 1 * 2 ^ f + N 4 + 1) (s4 (w - f) (N 1 * 2 ^ f + N 4 + 1)) ≤ dI (w - f) (N 1 * 2 ^ f + N 4 + 1) (4 + 2) then s4 (w - f) (N 1 * 2 ^ f + N 4 + 1) else 4 + 2) = s6 (w - f) (N 1 * 2 ^ f + N 4 + 1) from rfl]
    rw [step _ (4 + 2 + 2) _ (.inr (.inr (.inr rfl))) (s6_ok _ _)]
    rw [fX11_stages_l14, if_pos (show (8 : Int32) < nI (4 + 2 + 2 + 2) from by decide)]
    rfl
  rw [e, bnS]
theorem y_sizes (hm : mdl al b N) (ok : okN N w) (hf : f ≤ 3) (hl : 3 ≤ w - f) (hl2 : w - f ≤ 9) (z0 : Nat → Int32) : ∃ z, fX11_laysSizes al z0 (nI b) (nI (2 ^ f)) = some z ∧ ∀ k, k < stg (w - f) (N 1 * 2 ^ f + N 4 + 1) → z k = szI (w - f) (N 1 * 2 ^ f + N 4 + 1) k := by
  have hLC := okLC_of ok hf hl hl2
  generalize hC : N 1 * 2 ^ f + N 4 + 1 = C at hLC
  have hs := stg_b (w - f) C
  have hT := szT_ok hLC
  unfold fX11_laysSizes
  have ht := y_tenths hm ok hf hl hl2 (stg_ok (w - f) C)
  have hst := y_stages hm ok hf hl hl2
  have hac := y_allColumns (f := f) hm ok
  rw [hC] at ht hst hac
  have hup : ∀ p, fX11_up p (szT (w - f) C) = some (upI p (szT (w - f) C)) := by
    intro p; unfold fX11_up; rw [hT.1]; rfl
  rw [hst, bnS, ht, bnS, hac, bnS, y_last hm ok hf, bnS]
  rw [show (3 : Int32) * nI (tS (w - f) C (stg (w - f) C)) = szT (w - f) C from rfl, hup, bnS]
  rw [show upI (((10 : Int32) * nI C) * (nI (bI (w - f)) + (2 : Int32))) (szT (w - f) C) = szTop (w - f) C from rfl]
  have e1 : nI (stg (w - f) C) - (1 : Int32) = nI (stg (w - f) C - 1) := pk_sub (b := 1) (by omega)
  have e2 : nI (stg (w - f) C) - (2 : Int32) = nI (stg (w - f) C - 2) := pk_sub (b := 2) (by omega)
  rw [e1, e2, gdN (by omega) (by decide), nI_clamp (by omega)]
  have loop : ∀ (j F : Nat) (z : Nat → Int32), j ≤ stg (w - f) C - 2 → j < F → (∀ k, j < k → k < stg (w - f) C → z k = szM (szT (w - f) C) (szTop (w - f) C) (stg (w - f) C - 1 - k)) → ∃ z2, fX11_laysSizes_l54 (szT (w - f) C) F (nI j) z = some z2 ∧ ∀ k, 0 < k → k < stg (w - f) C → z2 k = szM (szT (w - f) C) (szTop (w - f) C) (stg (w - f) C - 1 - k) := by
    intro j
    induction j with
    | zero =>
      intro F z _ hF hz
      obtain ⟨F, rfl⟩ : ∃ G, F = G + 1 := ⟨F - 1, by omega⟩
      rw [fX11_laysSizes_l54, if_pos (show nI 0 ≤ 0 from by decide)]
      exact ⟨z, rfl, hz⟩
    | succ j ih =>
      intro F z hj hF hz
      obtain ⟨F, rfl⟩ : ∃ G, F = G + 1 := ⟨F - 1, by omega⟩
      rw [fX11_laysSizes_l54, if_neg (show ¬ nI (j + 1) ≤ 0 from nI_nle (by omega) (by omega))]
      have e3 : nI (j + 1) + (1 : Int32) = nI (j + 2) := nI_1 (j + 1)
      have e4 : nI (j + 1) + (-1 : Int32) = nI j := by rw [← nI_1 j, Int32.add_assoc]; show nI j + 0 = nI j; rw [Int32.add_zero]
      rw [e3, e4, gdN (by omega) (by decide), hup, bnS, gdN (by omega) (by decide), nI_clamp (by omega), nI_clamp (by omega), hz (j + 2) (by omega) (by omega)]
      refine ih F _ (by omega) (by omega) ?_
      intro k hk1 hk2
      by_cases ek : k = j + 1
      · subst ek
        rw [ux_at]
        rw [show stg (w - f) C - 1 - (j + 1) = (stg (w - f) C - 1 - (j + 2)) + 1 from by omega]
        rfl
      · rw [ux_ne ek]
        exact hz k (by omega) hk2
  obtain ⟨z2, h1, h2⟩ := loop (stg (w - f) C - 2) FU (upd z0 (stg (w - f) C - 1) (szTop (w - f) C)) (Nat.le_refl _) (by show _ < 4294967296; omega) (by
    intro k hk1 hk2
    have : k = stg (w - f) C - 1 := by omega
    subst this
    rw [ux_at, Nat.sub_self]; rfl)
  rw [h1, bnS, y_rows hm ok hf, bnS, y_first hm ok hf, bnS]
  have h3 := h2 1 (by omega) (by omega)
  have hsh : nz ((1 : Int32) <<< (nI (aI (w - f)) &&& 31)) = true := by
    rcases aI_b (w - f) with ⟨q1, q2⟩
    have : aI (w - f) = 2 ∨ aI (w - f) = 3 := by omega
    rcases this with q | q <;> rw [q] <;> decide
  have hup2 : ∀ p, fX11_up p ((1 : Int32) <<< (nI (aI (w - f)) &&& 31)) = some (upI p ((1 : Int32) <<< (nI (aI (w - f)) &&& 31))) := by
    intro p; unfold fX11_up; rw [hsh]; rfl
  rw [hup2, bnS, bnS, hup, bnS]
  refine ⟨_, rfl, ?_⟩
  intro k hk
  unfold szI
  by_cases e0 : k = 0
  · subst e0
    rw [ux_at, if_pos rfl, h3]
    rfl
  · rw [ux_ne e0, if_neg e0]
    exact h2 k (by omega) hk
end YT_
