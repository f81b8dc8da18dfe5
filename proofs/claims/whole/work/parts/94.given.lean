/-! ===== what is given up: both sides take the same ===== -/
theorem ofC_0 : ofC (0, 0) = 0 := rfl
theorem ofC_1 (x : Nat) : ofC (x + 1, 0) = 1 := by unfold ofC; rw [if_neg (Nat.succ_ne_zero x), if_pos rfl]
theorem ofC_2 (x y : Nat) : ofC (x + 1, y + 1) = 2 := by unfold ofC; rw [if_neg (Nat.succ_ne_zero x), if_neg (Nat.succ_ne_zero y)]
theorem vOf_0 : vOf (0, 0) := ⟨fun _ => rfl, Nat.zero_le _, Nat.zero_le _⟩
theorem vOf_1 {x : Nat} (h : x < 256) : vOf (x + 1, 0) := ⟨fun _ => rfl, h, Nat.zero_le _⟩
theorem vOf_2 {x y : Nat} (h : x < 256) (h2 : y < 256) : vOf (x + 1, y + 1) := ⟨fun z => absurd z (Nat.succ_ne_zero x), h, h2⟩
theorem bst_cong {R C : Nat → Nat} {nb sp c4 : Nat} {S T : OF → Prop} {bs : Option OF} (h : ∀ o, S o ↔ T o) (hb : bst R C nb sp c4 S bs) : bst R C nb sp c4 T bs := bst_sub (fun o => (h o).mp) (fun o ho _ => (h o).mpr ho) hb
/-- the choices that the reference tries, up to BAD cell k -/
def syS (C : Nat → Nat) (nb k : Nat) (o : OF) : Prop := o = (0, 0) ∨ (∃ t, t < k ∧ o = (C t + 1, 0)) ∨ ∃ t u, t < k ∧ u < nb ∧ C t < C u ∧ o = (C t + 1, C u + 1)
def syI (C : Nat → Nat) (nb k u : Nat) (o : OF) : Prop := syS C nb k o ∨ o = (C k + 1, 0) ∨ ∃ t, t < u ∧ C k < C t ∧ o = (C k + 1, C t + 1)
theorem syS_v {C : Nat → Nat} {nb k : Nat} (hk : k ≤ nb) (hC : ∀ k, k < nb → C k < 256) {o : OF} (h : syS C nb k o) : vOf o := by
  rcases h with h | ⟨t, h1, h2⟩ | ⟨t, u, h1, h2, h3, h4⟩
  · rw [h]; exact vOf_0
  · rw [h2]; exact vOf_1 (hC t (by omega))
  · rw [h4]; exact vOf_2 (hC t (by omega)) (hC u h2)
theorem syI_end {C : Nat → Nat} {nb k : Nat} (o : OF) : syI C nb k nb o ↔ syS C nb (k + 1) o := by
  constructor
  · rintro (h | h | ⟨t, h1, h2, h3⟩)
    · rcases h with h | ⟨t, h1, h2⟩ | ⟨t, u, h1, h2, h3, h4⟩
      · exact .inl h
      · exact .inr (.inl ⟨t, by omega, h2⟩)
      · exact .inr (.inr ⟨t, u, by omega, h2, h3, h4⟩)
    · exact .inr (.inl ⟨k, Nat.lt_succ_self k, h⟩)
    · exact .inr (.inr ⟨k, t, Nat.lt_succ_self k, h1, h2, h3⟩)
  · rintro (h | ⟨t, h1, h2⟩ | ⟨t, u, h1, h2, h3, h4⟩)
    · exact .inl (.inl h)
    · by_cases e : t = k
      · subst e; exact .inr (.inl h2)
      · exact .inl (.inr (.inl ⟨t, by omega, h2⟩))
    · by_cases e : t = k
      · subst e; exact .inr (.inr ⟨u, h2, h3, h4⟩)
      · exact .inl (.inr (.inr ⟨t, u, by omega, h2, h3, h4⟩))
section YGIVE_
variable {R C B : Nat → Nat} {nb sp c4 : Nat} {al : Nat → Int32}
theorem y_g57 (hb : okBd nb R C B) (hy : yBd al 0 nb R C B) (h4 : al 4 = nI c4) (hc4 : c4 ≤ 2) (hsp : sp ≤ 4) {k : Nat} (hk : k < nb) : ∀ (j F u : Nat) (tI gr gc nr : Nat → Int32) (bs : Option OF), u + j = nb → j < F → yBs R C nb tI gr gc bs → bst R C nb sp c4 (syI C nb k u) bs → ∃ tJ gr2 gc2 nr2 bs2, fX11_laysGiven_l57 (nI sp) (nI (C k)) al F (nI u) tI gr gc nr = some (tJ, gr2, gc2, nr2) ∧ yBs R C nb tJ gr2 gc2 bs2 ∧ bst R C nb sp c4 (syS C nb (k + 1)) bs2 ∧ kep tI tJ := by
  have hb1 := hb.1
  have hy9 : al 9 = nI nb := hy.1
  have hck := (hb.2 k hk).2.1
  intro j
  induction j with
  | zero =>
    intro F u tI gr gc nr bs e1 e2 hs hbs
    obtain ⟨F, rfl⟩ : ∃ G, F = G + 1 := ⟨F - 1, by omega⟩
    have : u = nb := by omega
    subst this
    rw [fX11_laysGiven_l57, hy9, if_pos (nI_le (Nat.le_refl _) (by omega))]
    exact ⟨_, _, _, _, bs, rfl, hs, bst_cong syI_end hbs, kep_rf _⟩
  | succ j ih =>
    intro F u tI gr gc nr bs e1 e2 hs hbs
    obtain ⟨F, rfl⟩ : ∃ G, F = G + 1 := ⟨F - 1, by omega⟩
    have hcu := (hb.2 u (by omega)).2.1
    have hu2 := hy.2 u (by omega)
    rw [fX11_laysGiven_l57, hy9, if_neg (nI_ge (by omega) (by omega)), badAtN, show nI (0 + 10 + 3 * u) + (1 : Int32) = nI (0 + 10 + 3 * u + 1) from nI_1 _, gdN (by omega) (by decide), nI_clamp (by omega), hu2.2.1, show nI u + (1 : Int32) = nI (u + 1) from nI_1 u]
    by_cases c : C u ≤ C k
    · rw [if_pos (nI_le c (by omega))]
      refine ih F (u + 1) tI gr gc nr bs (by omega) (by omega) hs (bst_cong (fun o => ?_) hbs)
      constructor
      · rintro (h | h | ⟨t, h1, h2, h3⟩)
        · exact .inl h
        · exact .inr (.inl h)
        · exact .inr (.inr ⟨t, by omega, h2, h3⟩)
      · rintro (h | h | ⟨t, h1, h2, h3⟩)
        · exact .inl h
        · exact .inr (.inl h)
        · by_cases e : t = u
          · subst e; exact absurd h2 (by omega)
          · exact .inr (.inr ⟨t, by omega, h2, h3⟩)
    · rw [if_neg (nI_ge (by omega) (by omega)), gdN (by omega) (by decide), ← cI_s (C k), ← cI_s (C u)]
      obtain ⟨tJ, gr2, gc2, nr2, q1, q2, q3⟩ := y_tries (o := (C k + 1, C u + 1)) hb hy h4 hc4 hsp (vOf_2 hck hcu) hs nr
      have q1 : fX11_tries tI al gr gc nr (cI (C k + 1)) (cI (C u + 1)) (nI sp) = some (tJ, gr2, gc2, nr2) := q1
      rw [q1, bnS, cI_s (C k)]
      obtain ⟨tK, gr3, gc3, nr3, bs3, w1, w2, w3, w4⟩ := ih F (u + 1) tJ gr2 gc2 nr2 _ (by omega) (by omega) q2 (bst_cong (fun o => by
        constructor
        · rintro ((h | h | ⟨t, h1, h2, h3⟩) | h)
          · exact .inl h
          · exact .inr (.inl h)
          · exact .inr (.inr ⟨t, by omega, h2, h3⟩)
          · exact .inr (.inr ⟨u, Nat.lt_succ_self u, by omega, h⟩)
        · rintro (h | h | ⟨t, h1, h2, h3⟩)
          · exact .inl (.inl h)
          · exact .inl (.inr (.inl h))
          · by_cases e : t = u
            · subst e; exact .inr h3
            · exact .inl (.inr (.inr ⟨t, by omega, h2, h3⟩))) (bst_step (C k + 1, C u + 1) hbs))
      exact ⟨tK, gr3, gc3, nr3, bs3, w1, w2, w3, kep_tr q3 w4⟩
theorem y_g24 (hb : okBd nb R C B) (hy : yBd al 0 nb R C B) (h4 : al 4 = nI c4) (hc4 : c4 ≤ 2) (hsp : sp ≤ 4) : ∀ (j F k : Nat) (tI gr gc nr : Nat → Int32) (bs : Option OF), k + j = nb → j < F → yBs R C nb tI gr gc bs → bst R C nb sp c4 (syS C nb k) bs → ∃ tJ gr2 gc2 nr2 bs2, fX11_laysGiven_l24 (nI sp) al F (nI k) tI gr gc nr = some (tJ, gr2, gc2, nr2) ∧ yBs R C nb tJ gr2 gc2 bs2 ∧ bst R C nb sp c4 (syS C nb nb) bs2 ∧ kep tI tJ := by
  have hb1 := hb.1
  have hy9 : al 9 = nI nb := hy.1
  intro j
  induction j with
  | zero =>
    intro F k tI gr gc nr bs e1 e2 hs hbs
    obtain ⟨F, rfl⟩ : ∃ G, F = G + 1 := ⟨F - 1, by omega⟩
    have : k = nb := by omega
    subst this
    rw [fX11_laysGiven_l24, hy9, if_pos (nI_le (Nat.le_refl _) (by omega))]
    exact ⟨_, _, _, _, bs, rfl, hs, hbs, kep_rf _⟩
  | succ j ih =>
    intro F k tI gr gc nr bs e1 e2 hs hbs
    obtain ⟨F, rfl⟩ : ∃ G, F = G + 1 := ⟨F - 1, by omega⟩
    have hck := (hb.2 k (by omega)).2.1
    have hk2 := hy.2 k (by omega)
    rw [fX11_laysGiven_l24, hy9, if_neg (nI_ge (by omega) (by omega)), badAtN, show nI (0 + 10 + 3 * k) + (1 : Int32) = nI (0 + 10 + 3 * k + 1) from nI_1 _, gdN (by omega) (by decide), nI_clamp (by omega), hk2.2.1, show nI k + (1 : Int32) = nI (k + 1) from nI_1 k]
    obtain ⟨tJ, gr2, gc2, nr2, q1, q2, q3⟩ := y_tries (o := (C k + 1, 0)) hb hy h4 hc4 hsp (vOf_1 hck) hs nr
    have q1 : fX11_tries tI al gr gc nr (cI (C k + 1)) (-1 : Int32) (nI sp) = some (tJ, gr2, gc2, nr2) := q1
    rw [cI_s (C k)] at q1
    rw [q1, bnS]
    obtain ⟨tK, gr3, gc3, nr3, bs3, w1, w2, w3, w4⟩ := y_g57 hb hy h4 hc4 hsp (show k < nb by omega) nb FU 0 tJ gr2 gc2 nr2 _ (by omega) (by show _ < 4294967296; omega) q2 (bst_cong (fun o => by
      constructor
      · rintro (h | h)
        · exact .inl h
        · exact .inr (.inl h)
      · rintro (h | h | ⟨t, h1, h2⟩)
        · exact .inl h
        · exact .inr h
        · exact absurd h1 (Nat.not_lt_zero t)) (bst_step (C k + 1, 0) hbs))
    have w1 : fX11_laysGiven_l57 (nI sp) (nI (C k)) al FU (0 : Int32) tJ gr2 gc2 nr2 = some (tK, gr3, gc3, nr3) := w1
    dsimp only
    rw [w1, bnS]
    obtain ⟨tL, gr4, gc4, nr4, bs4, v1, v2, v3, v4⟩ := ih F (k + 1) tK gr3 gc3 nr3 bs3 (by omega) (by omega) w2 w3
    exact ⟨tL, gr4, gc4, nr4, bs4, v1, v2, v3, kep_tr q3 (kep_tr w4 v4)⟩
noncomputable def gvn (R C : Nat → Nat) (nb sp c4 : Nat) : Option OF := @dite _ (∃ bs, bst R C nb sp c4 (syS C nb nb) bs) (Classical.propDecidable _) (fun h => h.choose) (fun _ => none)
theorem gvn_eq {bs : Option OF} (hC : ∀ k, k < nb → C k < 256) (h : bst R C nb sp c4 (syS C nb nb) bs) : gvn R C nb sp c4 = bs := by
  unfold gvn
  have h1 : ∃ bs, bst R C nb sp c4 (syS C nb nb) bs := ⟨bs, h⟩
  rw [dif_pos h1]
  exact bst_one (fun b hb => syS_v (Nat.le_refl _) hC hb) h1.choose_spec h
theorem y_given (hb : okBd nb R C B) (hy : yBd al 0 nb R C B) (h4 : al 4 = nI c4) (hc4 : c4 ≤ 2) (hsp : sp ≤ 4) (tI gr gc nr : Nat → Int32) : ∃ tJ gr2 gc2 nr2, fX11_laysGiven tI al gr gc nr (nI sp) = some (tJ, gr2, gc2, nr2) ∧ yBs R C nb tJ gr2 gc2 (gvn R C nb sp c4) ∧ bst R C nb sp c4 (syS C nb nb) (gvn R C nb sp c4) ∧ kep tI tJ := by
  have hb1 := hb.1
  unfold fX11_laysGiven
  have k0 : kep tI (upd (upd (upd tI 11 (0 : Int32)) 12 (0 : Int32)) 14 (0 : Int32)) := kep_up (kep_up (kep_up (kep_rf tI) (by decide) (by decide) _) (by decide) (by decide) _) (by decide) (by decide) _
  have s0 : yBs R C nb (upd (upd (upd tI 11 (0 : Int32)) 12 (0 : Int32)) 14 (0 : Int32)) gr gc none := ⟨rfl, rfl, rfl⟩
  obtain ⟨tJ, gr2, gc2, nr2, q1, q2, q3⟩ := y_tries (o := (0, 0)) hb hy h4 hc4 hsp vOf_0 s0 nr
  have q1 : fX11_tries (upd (upd (upd tI 11 (0 : Int32)) 12 (0 : Int32)) 14 (0 : Int32)) al gr gc nr (-1 : Int32) (-1 : Int32) (nI sp) = some (tJ, gr2, gc2, nr2) := q1
  rw [q1, bnS]
  obtain ⟨tK, gr3, gc3, nr3, bs3, w1, w2, w3, w4⟩ := y_g24 hb hy h4 hc4 hsp nb FU 0 tJ gr2 gc2 nr2 _ (by omega) (by show _ < 4294967296; omega) q2 (bst_cong (S := fun q => False ∨ q = (0, 0)) (fun o => by
    constructor
    · rintro (h | h)
      · exact absurd h id
      · exact .inl h
    · rintro (h | ⟨t, h1, h2⟩ | ⟨t, u, h1, h2⟩)
      · exact .inr h
      · exact absurd h1 (Nat.not_lt_zero t)
      · exact absurd h1 (Nat.not_lt_zero t)) (bst_step (S := fun _ => False) (bs := none) (0, 0) (fun o ho => absurd ho id)))
  have w1 : fX11_laysGiven_l24 (nI sp) al FU (0 : Int32) tJ gr2 gc2 nr2 = some (tK, gr3, gc3, nr3) := w1
  dsimp only
  rw [w1, bnS, gvn_eq (fun k hk => (hb.2 k hk).2.1) w3]
  cases bs3 with
  | none =>
    rw [show (tK, gr3, gc3, nr3).1 14 = (0 : Int32) from w2.1, if_pos rfl]
    exact ⟨_, _, _, _, rfl, ⟨w2.1, rfl, rfl⟩, w3, kep_up (kep_up (kep_tr k0 (kep_tr q3 w4)) (by decide) (by decide) _) (by decide) (by decide) _⟩
  | some b =>
    rw [show (tK, gr3, gc3, nr3).1 14 = (1 : Int32) from w2.1, if_neg (show ¬ (1 : Int32) = 0 from by decide)]
    exact ⟨_, _, _, _, rfl, w2, w3, kep_tr k0 (kep_tr q3 w4)⟩
end YGIVE_
/-! ===== the program's search ===== -/
def sxS (a : Nat → Nat) (n c4 i : Nat) (o : OF) : Prop := o = (0, 0) ∨ (0 < c4 ∧ ∃ t, t < i ∧ o = (a t + 1, 0)) ∨ (1 < c4 ∧ ∃ t u, t < i ∧ t < u ∧ u < n ∧ o = (a t + 1, a u + 1))
def sxI (a : Nat → Nat) (n c4 i j : Nat) (o : OF) : Prop := sxS a n c4 i o ∨ o = (a i + 1, 0) ∨ (1 < c4 ∧ ∃ u, i < u ∧ u < j ∧ o = (a i + 1, a u + 1))
def xSt (R C : Nat → Nat) (nb sp c4 : Nat) (S : OF → Prop) (tI rw2 cl : Nat → Int32) : Prop := ∃ bs m, xBs R C nb tI rw2 cl bs ∧ bst R C nb sp c4 S bs ∧ tI 5 = nI m ∧ m ≤ 12 ∧ (∀ o, S o → m ≤ ofR R C nb o) ∧ (m = 12 ∨ ∃ o, S o ∧ ofR R C nb o = m)
theorem xSt_cong {R C : Nat → Nat} {nb sp c4 : Nat} {S T : OF → Prop} {tI rw2 cl : Nat → Int32} (h : ∀ o, S o ↔ T o) (hs : xSt R C nb sp c4 S tI rw2 cl) : xSt R C nb sp c4 T tI rw2 cl := by
  have : S = T := funext fun o => propext (h o)
  rw [← this]; exact hs
section XGIVE_
variable {R C B : Nat → Nat} {nb sp c4 : Nat} {sI br bc bb nu : Nat → Int32}
theorem x_stp {S : OF → Prop} {o : OF} {tI rw2 cl : Nat → Int32} (hb : okBd nb R C B) (hx : xBd sI br bc bb nb R C B) (h3 : nu 3 = nI sp) (hsp : sp ≤ 4) (vo : vOf o) (hv : ∀ b, S b → vOf b) (hc : ofC o ≤ c4) (hlt : ∀ b, S b → ofC b = ofC o → b.1 * 1024 + b.2 ≤ o.1 * 1024 + o.2) (h : xSt R C nb sp c4 S tI rw2 cl) (lf : Nat → Int32) : ∃ tJ rw3 cl3 lf3, fX3_offer tI rw2 cl lf sI nu br bc (cI o.1) (cI o.2) = some (tJ, rw3, cl3, lf3) ∧ xSt R C nb sp c4 (fun q => S q ∨ q = o) tJ rw3 cl3 := by
  obtain ⟨bs, m, h1, h2, h5, hm, h6, h7⟩ := h
  have hr : ofR R C nb o ≤ 12 := Nat.le_trans (rwNd_le R C o.1 o.2 nb) hb.1
  obtain ⟨tJ, rw3, cl3, lf3, q1, q2, q3⟩ := x_offer hb hx h3 hsp vo h1 h5 hm lf
  rw [stX_eq (fun k hk => (hb.2 k hk).1) hsp vo hv hc hlt h2] at q2
  refine ⟨tJ, rw3, cl3, lf3, q1, _, _, q2, bst_step o h2, q3, ?_, ?_, ?_⟩
  · unfold mnN; split <;> omega
  · intro q hq
    unfold mnN
    rcases hq with hq | hq
    · have := h6 q hq; split <;> omega
    · subst hq; split <;> omega
  · unfold mnN
    by_cases c : ofR R C nb o < m
    · rw [if_pos c]; exact .inr ⟨o, .inr rfl, rfl⟩
    · rw [if_neg c]
      rcases h7 with h7 | ⟨q, h7, h8⟩
      · exact .inl h7
      · exact .inr ⟨q, .inl h7, h8⟩
theorem x_cand (hb : okBd nb R C B) (hx : xBd sI br bc bb nb R C B) : ∀ (j F k : Nat) (cd : Nat → Int32), k + j = nb → j < F → hld cd (rwNd C C 0 0 k).1 (rwNd C C 0 0 k).2 → ∃ cd2, fX3_find_l33 sI bc F (nI (rwNd C C 0 0 k).2) (nI k) cd = some (nI (rwNd C C 0 0 nb).2, cd2) ∧ hld cd2 (rwNd C C 0 0 nb).1 (rwNd C C 0 0 nb).2 := by
  have hb1 := hb.1
  intro j
  induction j with
  | zero =>
    intro F k cd e1 e2 h
    obtain ⟨F, rfl⟩ : ∃ G, F = G + 1 := ⟨F - 1, by omega⟩
    have : k = nb := by omega
    subst this
    rw [fX3_find_l33, hx.1, if_pos (nI_le (Nat.le_refl _) (by omega))]
    exact ⟨cd, rfl, h⟩
  | succ j ih =>
    intro F k cd e1 e2 h
    obtain ⟨F, rfl⟩ : ∃ G, F = G + 1 := ⟨F - 1, by omega⟩
    have hk := hb.2 k (by omega)
    have hk2 := hx.2 k (by omega)
    have hn := rwNd_le C C 0 0 k
    rw [fX3_find_l33, hx.1, if_neg (nI_ge (by omega) (by omega)), gdN (by omega) (by decide), nI_clamp (by omega), hk2.2.1, show nI k + (1 : Int32) = nI (k + 1) from nI_1 k]
    obtain ⟨cd2, q1, q2⟩ := x_put (v := C k) h (by omega) (rwNd_up C C 0 0 k) (by omega)
    rw [q1, bnS]
    dsimp only
    have e : rwNd C C 0 0 (k + 1) = rwStp (rwNd C C 0 0 k) (C k) := by rw [rwNd, if_neg (by omega)]
    have := ih F (k + 1) cd2 (by omega) (by omega) (by rw [e]; exact q2)
    rw [e] at this
    exact this
theorem x_g103 {a : Nat → Nat} {n i : Nat} {cd : Nat → Int32} (hb : okBd nb R C B) (hx : xBd sI br bc bb nb R C B) (h3 : nu 3 = nI sp) (hsp : sp ≤ 4) (hc4 : c4 ≤ 2) (hcd : hld cd a n) (hn : n ≤ 12) (hu : rwUp a n) (ha : ∀ t, t < n → a t < 256) (hi : i < n) : ∀ (d F j : Nat) (tI rw2 cl lf : Nat → Int32), j + d = n → d < F → i < j → xSt R C nb sp c4 (sxI a n c4 i j) tI rw2 cl → ∃ tJ rw3 cl3 lf3, fX3_find_l103 (nI c4) (nI n) (nI i) cd sI nu br bc F (nI j) tI rw2 cl lf = some (tJ, rw3, cl3, lf3) ∧ xSt R C nb sp c4 (sxI a n c4 i n) tJ rw3 cl3 := by
  intro d
  induction d with
  | zero =>
    intro F j tI rw2 cl lf e1 e2 hij h
    obtain ⟨F, rfl⟩ : ∃ G, F = G + 1 := ⟨F - 1, by omega⟩
    have : j = n := by omega
    subst this
    rw [fX3_find_l103, if_pos (nI_le (Nat.le_refl _) (by omega))]
    exact ⟨_, _, _, _, rfl, h⟩
  | succ d ih =>
    intro F j tI rw2 cl lf e1 e2 hij h
    obtain ⟨F, rfl⟩ : ∃ G, F = G + 1 := ⟨F - 1, by omega⟩
    rw [fX3_find_l103, if_neg (nI_ge (by omega) (by omega))]
    by_cases c : c4 ≤ 1
    · rw [if_pos (show nI c4 ≤ (1 : Int32) from nI_le (b := 1) c (by decide))]
      refine ⟨_, _, _, _, rfl, xSt_cong (fun o => ?_) h⟩
      constructor
      · rintro (q | q | ⟨q, -⟩)
        · exact .inl q
        · exact .inr (.inl q)
        · omega
      · rintro (q | q | ⟨q, -⟩)
        · exact .inl q
        · exact .inr (.inl q)
        · omega
    · have wi := hcd i hi
      have wj := hcd j (by omega)
      have hai := ha i hi
      have haj := ha j (by omega)
      rw [if_neg (show ¬ nI c4 ≤ (1 : Int32) from nI_ge (a := 1) (by omega) (by omega)), gdN (by omega) (by decide), gdN (by omega) (by decide), nI_clamp (by omega), nI_clamp (by omega), wi.1, wj.1, show nI j + (1 : Int32) = nI (j + 1) from nI_1 j, ← cI_s (a i), ← cI_s (a j)]
      have vs : ∀ b, sxI a n c4 i j b → vOf b := by
        rintro b ((q | ⟨-, t, q1, q2⟩ | ⟨-, t, u, q1, q2, q3, q4⟩) | q | ⟨-, u, q1, q2, q3⟩)
        · rw [q]; exact vOf_0
        · rw [q2]; exact vOf_1 (ha t (by omega))
        · rw [q4]; exact vOf_2 (ha t (by omega)) (ha u (by omega))
        · rw [q]; exact vOf_1 hai
        · rw [q3]; exact vOf_2 hai (ha u (by omega))
      obtain ⟨tJ, rw3, cl3, lf3, w1, w2⟩ := x_stp (o := (a i + 1, a j + 1)) hb hx h3 hsp (vOf_2 hai haj) vs (by rw [ofC_2]; omega) (by
        rintro b ((q | ⟨-, t, q1, q2⟩ | ⟨-, t, u, q1, q2, q3, q4⟩) | q | ⟨-, u, q1, q2, q3⟩) hc
        · rw [q, ofC_0, ofC_2] at hc; omega
        · rw [q2, ofC_1, ofC_2] at hc; omega
        · have y1 := hu t i q1 hi
          have y2 := ha u q3
          rw [q4]; dsimp only; omega
        · rw [q, ofC_1, ofC_2] at hc; omega
        · have y1 := hu u j q2 (by omega)
          rw [q3]; dsimp only; omega) h lf
      have w1 : fX3_offer tI rw2 cl lf sI nu br bc (cI (a i + 1)) (cI (a j + 1)) = some (tJ, rw3, cl3, lf3) := w1
      rw [w1, bnS]
      refine ih F (j + 1) tJ rw3 cl3 lf3 (by omega) (by omega) (by omega) (xSt_cong (fun o => ?_) w2)
      constructor
      · rintro ((q | q | ⟨q, u, q1, q2, q3⟩) | q)
        · exact .inl q
        · exact .inr (.inl q)
        · exact .inr (.inr ⟨q, u, q1, by omega, q3⟩)
        · exact .inr (.inr ⟨by omega, j, hij, Nat.lt_succ_self j, q⟩)
      · rintro (q | q | ⟨q, u, q1, q2, q3⟩)
        · exact .inl (.inl q)
        · exact .inl (.inr (.inl q))
        · by_cases e : u = j
          · subst e; exact .inr q3
          · exact .inl (.inr (.inr ⟨q, u, q1, by omega, q3⟩))
theorem x_g74 {a : Nat → Nat} {n : Nat} {cd : Nat → Int32} (hb : okBd nb R C B) (hx : xBd sI br bc bb nb R C B) (h3 : nu 3 = nI sp) (hsp : sp ≤ 4) (hc4 : c4 ≤ 2) (hcd : hld cd a n) (hn : n ≤ 12) (hu : rwUp a n) (ha : ∀ t, t < n → a t < 256) : ∀ (d F i : Nat) (tI rw2 cl lf : Nat → Int32), i + d = n → d < F → xSt R C nb sp c4 (sxS a n c4 i) tI rw2 cl → ∃ tJ rw3 cl3 lf3, fX3_find_l74 (nI c4) (nI n) cd sI nu br bc F (nI i) tI rw2 cl lf = some (tJ, rw3, cl3, lf3) ∧ xSt R C nb sp c4 (sxS a n c4 n) tJ rw3 cl3 := by
  intro d
  induction d with
  | zero =>
    intro F i tI rw2 cl lf e1 e2 h
    obtain ⟨F, rfl⟩ : ∃ G, F = G + 1 := ⟨F - 1, by omega⟩
    have : i = n := by omega
    subst this
    rw [fX3_find_l74, if_pos (nI_le (Nat.le_refl _) (by omega))]
    exact ⟨_, _, _, _, rfl, h⟩
  | succ d ih =>
    intro F i tI rw2 cl lf e1 e2 h
    obtain ⟨F, rfl⟩ : ∃ G, F = G + 1 := ⟨F - 1, by omega⟩
    rw [fX3_find_l74, if_neg (nI_ge (by omega) (by omega))]
    by_cases c : c4 = 0
    · subst c
      rw [if_pos (show nI 0 ≤ 0 from by decide)]
      refine ⟨_, _, _, _, rfl, xSt_cong (fun o => ?_) h⟩
      constructor
      · rintro (q | ⟨q, -⟩ | ⟨q, -⟩)
        · exact .inl q
        · omega
        · omega
      · rintro (q | ⟨q, -⟩ | ⟨q, -⟩)
        · exact .inl q
        · omega
        · omega
    · have wi := hcd i (by omega)
      have hai := ha i (by omega)
      rw [if_neg (nI_nle (by omega) (by omega)), gdN (by omega) (by decide), nI_clamp (by omega), wi.1, show nI i + (1 : Int32) = nI (i + 1) from nI_1 i, ← cI_s (a i)]
      have vs : ∀ b, sxS a n c4 i b → vOf b := by
        rintro b (q | ⟨-, t, q1, q2⟩ | ⟨-, t, u, q1, q2, q3, q4⟩)
        · rw [q]; exact vOf_0
        · rw [q2]; exact vOf_1 (ha t (by omega))
        · rw [q4]; exact vOf_2 (ha t (by omega)) (ha u (by omega))
      obtain ⟨tJ, rw3, cl3, lf3, w1, w2⟩ := x_stp (o := (a i + 1, 0)) hb hx h3 hsp (vOf_1 hai) vs (by rw [ofC_1]; omega) (by
        rintro b (q | ⟨-, t, q1, q2⟩ | ⟨-, t, u, q1, q2, q3, q4⟩) hc
        · rw [q, ofC_0, ofC_1] at hc; omega
        · have y1 := hu t i q1 (by omega)
          rw [q2]; dsimp only; omega
        · rw [q4, ofC_2, ofC_1] at hc; omega) h lf
      have w1 : fX3_offer tI rw2 cl lf sI nu br bc (cI (a i + 1)) (-1 : Int32) = some (tJ, rw3, cl3, lf3) := w1
      rw [w1, bnS]
      dsimp only
      obtain ⟨tK, rw4, cl4, lf4, v1, v2⟩ := x_g103 hb hx h3 hsp hc4 hcd hn hu ha (show i < n by omega) d FU (i + 1) tJ rw3 cl3 lf3 (by omega) (by show _ < 4294967296; omega) (Nat.lt_succ_self i) (xSt_cong (fun o => by
        constructor
        · rintro (q | q)
          · exact .inl q
          · exact .inr (.inl q)
        · rintro (q | q | ⟨-, u, q1, q2, -⟩)
          · exact .inl q
          · exact .inr q
          · omega) w2)
      rw [v1, bnS]
      refine ih F (i + 1) tK rw4 cl4 lf4 (by omega) (by omega) (xSt_cong (fun o => ?_) v2)
      constructor
      · rintro ((q | ⟨q, t, q1, q2⟩ | ⟨q, t, u, q1, q2, q3, q4⟩) | q | ⟨q, u, q1, q2, q3⟩)
        · exact .inl q
        · exact .inr (.inl ⟨q, t, by omega, q2⟩)
        · exact .inr (.inr ⟨q, t, u, by omega, q2, q3, q4⟩)
        · exact .inr (.inl ⟨by omega, i, Nat.lt_succ_self i, q⟩)
        · exact .inr (.inr ⟨q, i, u, Nat.lt_succ_self i, q1, q2, q3⟩)
      · rintro (q | ⟨q, t, q1, q2⟩ | ⟨q, t, u, q1, q2, q3, q4⟩)
        · exact .inl (.inl q)
        · by_cases e : t = i
          · subst e; exact .inr (.inl q2)
          · exact .inl (.inr (.inl ⟨q, t, by omega, q2⟩))
        · by_cases e : t = i
          · subst e; exact .inr (.inr ⟨q, u, q2, q3, q4⟩)
          · exact .inl (.inr (.inr ⟨q, t, u, by omega, q2, q3, q4⟩))
/-- the fewest rows that some choice leaves -/
def isFw (R C : Nat → Nat) (nb c4 m : Nat) : Prop := m ≤ 12 ∧ (∀ o, syS C nb nb o → ofC o ≤ c4 → m ≤ ofR R C nb o) ∧ (m = 12 ∨ ∃ o, syS C nb nb o ∧ ofC o ≤ c4 ∧ ofR R C nb o = m)
theorem x_find (hb : okBd nb R C B) (hx : xBd sI br bc bb nb R C B) (h3 : nu 3 = nI sp) (h4 : nu 4 = nI c4) (hsp : sp ≤ 4) (hc4 : c4 ≤ 2) (tI rw2 cl cd lf : Nat → Int32) : ∃ tJ rw3 cl3 cd3 lf3 m, fX3_find tI rw2 cl cd lf sI nu br bc = some (tJ, rw3, cl3, cd3, lf3) ∧ xBs R C nb tJ rw3 cl3 (gvn R C nb sp c4) ∧ bst R C nb sp c4 (syS C nb nb) (gvn R C nb sp c4) ∧ tJ 5 = nI m ∧ isFw R C nb c4 m := by
  have hb1 := hb.1
  have hC : ∀ k, k < nb → C k < 256 := fun k hk => (hb.2 k hk).2.1
  unfold fX3_find
  obtain ⟨cd2, q1, q2⟩ := x_cand hb hx nb FU 0 cd (by omega) (by show _ < 4294967296; omega) (fun i hi => absurd hi (Nat.not_lt_zero i))
  have q1 : fX3_find_l33 sI bc FU (0 : Int32) (0 : Int32) cd = some (nI (rwNd C C 0 0 nb).2, cd2) := q1
  rw [q1, bnS]
  have hu := rwNd_up C C 0 0 nb
  have hn := rwNd_le C C 0 0 nb
  have hmem := fun u => rwNd_mem C C 0 0 u nb
  generalize hA : (rwNd C C 0 0 nb).1 = a at *
  generalize hN : (rwNd C C 0 0 nb).2 = n at *
  have ha : ∀ t, t < n → a t < 256 := by
    intro t ht
    obtain ⟨j, j1, j2, -⟩ := (hmem (a t)).mp ⟨t, ht, rfl⟩
    rw [← j2]; exact hC j j1
  have s0 : xSt R C nb sp c4 (fun _ => False) (upd (upd (upd (upd tI 2 (0 : Int32)) 3 (0 : Int32)) 4 (0 : Int32)) 5 (12 : Int32)) rw2 cl := ⟨none, 12, ⟨rfl, rfl, rfl⟩, fun o ho => absurd ho id, rfl, Nat.le_refl _, fun o ho => absurd ho id, .inl rfl⟩
  obtain ⟨tJ, rw3, cl3, lf3, w1, w2⟩ := x_stp (o := (0, 0)) hb hx h3 hsp vOf_0 (fun b hb => absurd hb id) (by rw [ofC_0]; omega) (fun b hb => absurd hb id) s0 lf
  have w1 : fX3_offer (upd (upd (upd (upd tI 2 (0 : Int32)) 3 (0 : Int32)) 4 (0 : Int32)) 5 (12 : Int32)) rw2 cl lf sI nu br bc (-1 : Int32) (-1 : Int32) = some (tJ, rw3, cl3, lf3) := w1
  dsimp only
  rw [w1, bnS, h4]
  dsimp only
  obtain ⟨tK, rw4, cl4, lf4, v1, v2⟩ := x_g74 hb hx h3 hsp hc4 q2 (by omega) hu ha n FU 0 tJ rw3 cl3 lf3 (by omega) (by show _ < 4294967296; omega) (xSt_cong (fun o => by
    constructor
    · rintro (q | q)
      · exact absurd q id
      · exact .inl q
    · rintro (q | ⟨-, t, q1, q2⟩ | ⟨-, t, u, q1, q2⟩)
      · exact .inr q
      · exact absurd q1 (Nat.not_lt_zero t)
      · exact absurd q1 (Nat.not_lt_zero t)) w2)
  have v1 : fX3_find_l74 (nI c4) (nI n) cd2 sI nu br bc FU (0 : Int32) tJ rw3 cl3 lf3 = some (tK, rw4, cl4, lf4) := v1
  rw [v1, bnS]
  obtain ⟨bs, m, u1, u2, u3, u4, u5, u6⟩ := v2
  have i1 : ∀ o, sxS a n c4 n o → syS C nb nb o := by
    rintro o (q | ⟨-, t, q1, q2⟩ | ⟨-, t, u, q1, q2, q3, q4⟩)
    · exact .inl q
    · obtain ⟨j, j1, j2, -⟩ := (hmem (a t)).mp ⟨t, q1, rfl⟩
      exact .inr (.inl ⟨j, j1, by rw [j2]; exact q2⟩)
    · obtain ⟨j, j1, j2, -⟩ := (hmem (a t)).mp ⟨t, q1, rfl⟩
      obtain ⟨k, k1, k2, -⟩ := (hmem (a u)).mp ⟨u, q3, rfl⟩
      have := hu t u q2 q3
      exact .inr (.inr ⟨j, k, j1, k1, by omega, by rw [j2, k2]; exact q4⟩)
  have i2 : ∀ o, syS C nb nb o → ofC o ≤ c4 → sxS a n c4 n o := by
    rintro o (q | ⟨j, q1, q2⟩ | ⟨j, k, q1, q2, q3, q4⟩) hc
    · exact .inl q
    · obtain ⟨t, t1, t2⟩ := (hmem (C j)).mpr ⟨j, q1, rfl, by omega⟩
      rw [q2, ofC_1] at hc
      exact .inr (.inl ⟨by omega, t, t1, by rw [t2]; exact q2⟩)
    · obtain ⟨t, t1, t2⟩ := (hmem (C j)).mpr ⟨j, q1, rfl, by omega⟩
      obtain ⟨u, u1, u2⟩ := (hmem (C k)).mpr ⟨k, q2, rfl, by omega⟩
      rw [q4, ofC_2] at hc
      refine .inr (.inr ⟨by omega, t, u, t1, ?_, u1, by rw [t2, u2]; exact q4⟩)
      rcases Nat.lt_trichotomy t u with z | z | z
      · exact z
      · subst z; omega
      · have := hu u t z t1; omega
  have i3 : ∀ o, sxS a n c4 n o → ofC o ≤ c4 := by
    rintro o (q | ⟨y, t, q1, q2⟩ | ⟨y, t, u, q1, q2, q3, q4⟩)
    · rw [q, ofC_0]; omega
    · rw [q2, ofC_1]; omega
    · rw [q4, ofC_2]; omega
  rw [gvn_eq hC (bst_sub i1 i2 u2)]
  refine ⟨_, _, _, _, _, m, rfl, u1, bst_sub i1 i2 u2, u3, u4, fun o ho hc => u5 o (i2 o ho hc), ?_⟩
  rcases u6 with u6 | ⟨o, u6, u7⟩
  · exact .inl u6
  · exact .inr ⟨o, i1 o u6, i3 o u6, u7⟩
end XGIVE_
