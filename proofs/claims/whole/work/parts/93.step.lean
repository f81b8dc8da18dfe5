/-! ===== one choice offered ===== -/
theorem cI_tk {o : OF} (h1 : o.1 ≤ 1000) (h2 : o.2 ≤ 1000) : ((if cI o.1 = (-1 : Int32) then (0 : Int32) else (1 : Int32)) + (if cI o.2 = (-1 : Int32) then (0 : Int32) else (1 : Int32))) = nI (ofC o) := by
  unfold ofC
  by_cases c1 : o.1 = 0
  · rw [if_pos ((cI_none h1).mpr c1), if_pos c1]
    by_cases c2 : o.2 = 0
    · rw [if_pos ((cI_none h2).mpr c2), if_pos c2]; rfl
    · rw [if_neg (fun z => c2 ((cI_none h2).mp z)), if_neg c2]; rfl
  · rw [if_neg (fun z => c1 ((cI_none h1).mp z)), if_neg c1]
    by_cases c2 : o.2 = 0
    · rw [if_pos ((cI_none h2).mpr c2), if_pos c2]; rfl
    · rw [if_neg (fun z => c2 ((cI_none h2).mp z)), if_neg c2]; rfl
theorem gcN {r n0 n1 : Nat} (h0 : r ≤ n0) (h1 : r ≤ n1) (hr : r < 2 ^ 31) : gc (0 : Int32) (0 : Int32) (nI r) n0 n1 = true := by
  unfold gc
  apply decide_eq_true
  refine ⟨by decide, by decide, nI_pos hr, ?_, ?_⟩
  · rw [nI_clamp hr]; show 0 + r ≤ n0; omega
  · rw [nI_clamp hr]; show 0 + r ≤ n1; omega
section STEP_
variable {R C B : Nat → Nat} {nb : Nat}
def xBs (R C : Nat → Nat) (nb : Nat) (tI rw2 cl : Nat → Int32) : Option OF → Prop
  | none => tI 4 = 0 ∧ tI 2 = 0 ∧ tI 3 = 0
  | some b => tI 4 = 1 ∧ tI 2 = nI (ofR R C nb b) ∧ tI 3 = nI (ofC b) ∧ hld rw2 (ofA R C nb b) (ofR R C nb b) ∧ cl 0 = cI b.1 ∧ cl 1 = cI b.2 ∧ ofR R C nb b ≤ 4 ∧ vOf b
def yBs (R C : Nat → Nat) (nb : Nat) (tI gr gc : Nat → Int32) : Option OF → Prop
  | none => tI 14 = 0 ∧ tI 11 = 0 ∧ tI 12 = 0
  | some b => tI 14 = 1 ∧ tI 11 = nI (ofR R C nb b) ∧ tI 12 = nI (ofC b) ∧ hld gr (ofA R C nb b) (ofR R C nb b) ∧ gc 0 = cI b.1 ∧ gc 1 = cI b.2 ∧ ofR R C nb b ≤ 4 ∧ vOf b
def stX (R C : Nat → Nat) (nb sp : Nat) (o : OF) : Option OF → Option OF
  | none => if ofR R C nb o ≤ sp then some o else none
  | some b => if ofR R C nb o ≤ sp ∧ kyX R C nb o < kyX R C nb b then some o else some b
def stY (R C : Nat → Nat) (nb sp c4 : Nat) (o : OF) : Option OF → Option OF
  | none => if ofR R C nb o ≤ sp ∧ ofC o ≤ c4 then some o else none
  | some b => if (ofR R C nb o ≤ sp ∧ ofC o ≤ c4) ∧ kyF R C nb o < kyF R C nb b then some o else some b
theorem xBs_same {tI tJ rw2 cl : Nat → Int32} {bs : Option OF} (h : xBs R C nb tI rw2 cl bs) (h2 : tJ 2 = tI 2) (h3 : tJ 3 = tI 3) (h4 : tJ 4 = tI 4) : xBs R C nb tJ rw2 cl bs := by
  cases bs with
  | none => exact ⟨h4.trans h.1, h2.trans h.2.1, h3.trans h.2.2⟩
  | some b => exact ⟨h4.trans h.1, h2.trans h.2.1, h3.trans h.2.2.1, h.2.2.2⟩
theorem yBs_same {tI tJ gr gc : Nat → Int32} {bs : Option OF} (h : yBs R C nb tI gr gc bs) (h11 : tJ 11 = tI 11) (h12 : tJ 12 = tI 12) (h14 : tJ 14 = tI 14) : yBs R C nb tJ gr gc bs := by
  cases bs with
  | none => exact ⟨h14.trans h.1, h11.trans h.2.1, h12.trans h.2.2⟩
  | some b => exact ⟨h14.trans h.1, h11.trans h.2.1, h12.trans h.2.2.1, h.2.2.2⟩
def mnN (m r : Nat) : Nat := if r < m then r else m
theorem x_offer {sI br bc bb nu : Nat → Int32} {sp m : Nat} {o : OF} {bs : Option OF} {tI rw2 cl : Nat → Int32} (hb : okBd nb R C B) (hx : xBd sI br bc bb nb R C B) (h3 : nu 3 = nI sp) (hsp : sp ≤ 4) (vo : vOf o) (h : xBs R C nb tI rw2 cl bs) (h5 : tI 5 = nI m) (hm : m ≤ 12) (lf : Nat → Int32) : ∃ tJ rw3 cl3 lf3, fX3_offer tI rw2 cl lf sI nu br bc (cI o.1) (cI o.2) = some (tJ, rw3, cl3, lf3) ∧ xBs R C nb tJ rw3 cl3 (stX R C nb sp o bs) ∧ tJ 5 = nI (mnN m (ofR R C nb o)) := by
  obtain ⟨vo1, vo2, vo3⟩ := vo
  have hb1 := hb.1
  have hR : ∀ k, k < nb → R k < 512 := fun k hk => (hb.2 k hk).1
  unfold fX3_offer
  obtain ⟨tJ, lf2, q1, q2, q3, q4⟩ := x_needs (o1 := o.1) (o2 := o.2) hb hx vo2 vo3 nb FU 0 (upd tI 8 (0 : Int32)) lf (by omega) (by show _ < 4294967296; omega) (ux_at _ _ _) (fun i h => absurd h (Nat.not_lt_zero i))
  have q1 : fX3_offer_l8 (cI o.1) (cI o.2) sI br bc FU (0 : Int32) (upd tI 8 (0 : Int32)) lf = some (tJ, lf2) := q1
  have q2 : tJ 8 = nI (ofR R C nb o) := q2
  have q4 : hld lf2 (ofA R C nb o) (ofR R C nb o) := q4
  have s2 : tJ 2 = tI 2 := by rw [q3 2 (by decide), ux_ne (by decide)]
  have s3 : tJ 3 = tI 3 := by rw [q3 3 (by decide), ux_ne (by decide)]
  have s4 : tJ 4 = tI 4 := by rw [q3 4 (by decide), ux_ne (by decide)]
  have s5 : tJ 5 = nI m := by rw [q3 5 (by decide), ux_ne (by decide), h5]
  have hr : ofR R C nb o ≤ 12 := Nat.le_trans (rwNd_le R C o.1 o.2 nb) hb1
  rw [q1, bnS, show (tJ, lf2).1 8 = nI (ofR R C nb o) from q2, show (tJ, lf2).1 5 = nI m from s5, h3, cI_tk (by omega) (by omega)]
  have e5 : (if nI (ofR R C nb o) < nI m then nI (ofR R C nb o) else nI m) = nI (mnN m (ofR R C nb o)) := by
    unfold mnN
    by_cases c : ofR R C nb o < m
    · rw [if_pos (nI_lt c (by omega)), if_pos c]
    · rw [if_neg (nI_nlt (by omega) (by omega)), if_neg c]
  have ec : (if nI sp < nI (ofR R C nb o) then (0 : Int32) else (if (4 : Int32) < nI (ofR R C nb o) then (0 : Int32) else (1 : Int32))) = if ofR R C nb o ≤ sp then (1 : Int32) else 0 := by
    by_cases c : ofR R C nb o ≤ sp
    · rw [if_neg (nI_nlt c (by omega)), if_neg (show ¬ (4 : Int32) < nI (ofR R C nb o) from nI_nlt (a := 4) (by omega) (by omega)), if_pos c]
    · rw [if_pos (nI_lt (by omega) (by omega)), if_neg c]
  rw [e5, ec]
  by_cases c : ofR R C nb o ≤ sp
  · rw [if_pos c, if_neg (show ¬ (1 : Int32) = 0 from by decide), gcN (n0 := 12) (n1 := 4) (by omega) (by omega) (by omega), nI_clamp (show ofR R C nb o < 2 ^ 31 by omega)]
    have taken : xBs R C nb (upd (upd (upd (upd tJ 2 (nI (ofR R C nb o))) 3 (nI (ofC o))) 4 (1 : Int32)) 5 (nI (mnN m (ofR R C nb o)))) (va_cpy lf2 rw2 0 0 (ofR R C nb o)) (upd (upd cl 0 (cI o.1)) 1 (cI o.2)) (some o) := by
      refine ⟨rfl, rfl, rfl, fun i hi => ?_, rfl, rfl, by omega, vo1, vo2, vo3⟩
      rw [pk_cpy_in (Nat.zero_le _) (by omega), show 0 + (i - 0) = i from by omega]
      exact q4 i hi
    cases bs with
    | none =>
      have es : stX R C nb sp o none = some o := if_pos c
      rw [show (tJ, lf2).1 4 = (0 : Int32) from s4.trans h.1, if_pos rfl, es]
      exact ⟨_, _, _, _, rfl, taken, rfl⟩
    | some b =>
      obtain ⟨b4, b2, b3, brw, bc0, bc1, b5, bv⟩ := h
      rw [show (tJ, lf2).1 4 = (1 : Int32) from s4.trans b4, if_neg (show ¬ (1 : Int32) = 0 from by decide)]
      obtain ⟨bt2, w1, w2⟩ := x_better (o := o) (b := b) (tI := upd tJ 5 (nI (mnN m (ofR R C nb o)))) (rw2 := rw2) (lf := lf2) hR q2 (by rw [ux_ne (by decide), s2, b2]) (by rw [ux_ne (by decide), s3, b3]) (by omega) b5 q4 brw
      rw [w1, bnS]
      by_cases c2 : kyX R C nb o < kyX R C nb b
      · have es : stX R C nb sp o (some b) = some o := if_pos ⟨c, c2⟩
        rw [w2.mpr c2, if_neg (show ¬ bi true = 0 from by decide), es]
        exact ⟨_, _, _, _, rfl, taken, rfl⟩
      · have es : stX R C nb sp o (some b) = some b := if_neg (fun z => c2 z.2)
        have hf : bt2 = false := by
          cases bt2 with
          | false => rfl
          | true => exact absurd (w2.mp rfl) c2
        rw [hf, if_pos (show bi false = 0 from by decide), es]
        refine ⟨_, _, _, _, rfl, ?_, rfl⟩
        exact xBs_same (tI := tI) ⟨b4, b2, b3, brw, bc0, bc1, b5, bv⟩ s2 s3 s4
  · rw [if_neg c, if_pos rfl]
    refine ⟨_, _, _, _, rfl, ?_, rfl⟩
    have es : stX R C nb sp o bs = bs := by
      cases bs with
      | none => exact if_neg c
      | some b => exact if_neg (fun z => c z.1)
    rw [es]
    exact xBs_same (tI := tI) h s2 s3 s4
theorem y_copy (tI nr : Nat → Int32) {a : Nat → Nat} {r : Nat} (h13 : tI 13 = nI r) (hr : r ≤ 4) (hn : hld nr a r) : ∀ (j F i : Nat) (gr : Nat → Int32), i + j = r → j < F → hld gr a i → ∃ gr2, fX11_tries_l82 tI nr F (nI i) gr = some gr2 ∧ hld gr2 a r := by
  intro j
  induction j with
  | zero =>
    intro F i gr e1 e2 h
    obtain ⟨F, rfl⟩ : ∃ G, F = G + 1 := ⟨F - 1, by omega⟩
    have : i = r := by omega
    subst this
    rw [fX11_tries_l82, h13, if_pos (nI_le (Nat.le_refl _) (by omega))]
    exact ⟨gr, rfl, h⟩
  | succ j ih =>
    intro F i gr e1 e2 h
    obtain ⟨F, rfl⟩ : ∃ G, F = G + 1 := ⟨F - 1, by omega⟩
    rw [fX11_tries_l82, h13, if_neg (nI_ge (by omega) (by omega)), gdN (by omega) (by decide), gdN (by omega) (by decide), nI_clamp (by omega), show nI i + (1 : Int32) = nI (i + 1) from nI_1 i]
    refine ih F (i + 1) _ (by omega) (by omega) (fun t ht => ?_)
    by_cases et : t = i
    · subst et; rw [ux_at]; exact hn t (by omega)
    · rw [ux_ne et]; exact h t (by omega)
/-- the slots of the reference's object that reckoning doesn't touch -/
def kep (tI tJ : Nat → Int32) : Prop := ∀ i, (i < 11 ∨ 19 ≤ i) → tJ i = tI i
theorem kep_rf (tI : Nat → Int32) : kep tI tI := fun _ _ => rfl
theorem kep_tr {a b c : Nat → Int32} (h1 : kep a b) (h2 : kep b c) : kep a c := fun i hi => (h2 i hi).trans (h1 i hi)
theorem kep_up {a b : Nat → Int32} (h : kep a b) {k : Nat} (hk : 11 ≤ k) (hk2 : k < 19) (x : Int32) : kep a (upd b k x) := fun i hi => by rw [ux_ne (by omega)]; exact h i hi
theorem y_tries {al : Nat → Int32} {sp c4 : Nat} {o : OF} {bs : Option OF} {tI gr gc : Nat → Int32} (hb : okBd nb R C B) (hy : yBd al 0 nb R C B) (h4 : al 4 = nI c4) (hc4 : c4 ≤ 2) (hsp : sp ≤ 4) (vo : vOf o) (h : yBs R C nb tI gr gc bs) (nr : Nat → Int32) : ∃ tJ gr2 gc2 nr2, fX11_tries tI al gr gc nr (cI o.1) (cI o.2) (nI sp) = some (tJ, gr2, gc2, nr2) ∧ yBs R C nb tJ gr2 gc2 (stY R C nb sp c4 o bs) ∧ kep tI tJ := by
  have vo' := vo
  obtain ⟨vo1, vo2, vo3⟩ := vo
  have hb1 := hb.1
  have hR : ∀ k, k < nb → R k < 512 := fun k hk => (hb.2 k hk).1
  have hc := ofC_le o
  unfold fX11_tries
  obtain ⟨tJ, nr2, q1, q2, q3, q4⟩ := y_needs (o1 := o.1) (o2 := o.2) hb hy vo2 vo3 tI nr
  have q2 : tJ 13 = nI (ofR R C nb o) := q2
  have q4 : hld nr2 (ofA R C nb o) (ofR R C nb o) := q4
  have hr : ofR R C nb o ≤ 12 := Nat.le_trans (rwNd_le R C o.1 o.2 nb) hb1
  have hk : kep tI tJ := fun i hi => q3 i (by omega)
  have hs : ∀ bs, yBs R C nb tI gr gc bs → yBs R C nb tJ gr gc bs := fun bs h => yBs_same h (q3 11 (by decide)) (q3 12 (by decide)) (q3 14 (by decide))
  rw [q1, bnS, show (tJ, nr2).1 13 = nI (ofR R C nb o) from q2, h4, cI_tk (by omega) (by omega)]
  by_cases c : ofR R C nb o ≤ sp ∧ ofC o ≤ c4
  · rw [if_neg (nI_nlt c.1 (by omega)), if_neg (nI_nlt c.2 (by omega))]
    have taken : ∃ tK gr2 gc2 nr3, (bn (fX11_tries_l82 (upd (upd (upd tJ 11 (nI (ofR R C nb o))) 12 (nI (ofC o))) 14 (1 : Int32)) nr2 FU (0 : Int32) gr) fun y11 => some ((upd (upd (upd tJ 11 (nI (ofR R C nb o))) 12 (nI (ofC o))) 14 (1 : Int32)), y11, (upd (upd gc 0 (cI o.1)) 1 (cI o.2)), nr2)) = some (tK, gr2, gc2, nr3) ∧ yBs R C nb tK gr2 gc2 (some o) ∧ kep tI tK := by
      obtain ⟨gr2, w1, w2⟩ := y_copy (upd (upd (upd tJ 11 (nI (ofR R C nb o))) 12 (nI (ofC o))) 14 (1 : Int32)) nr2 (by rw [ux_ne (by decide), ux_ne (by decide), ux_ne (by decide)]; exact q2) (by omega) q4 (ofR R C nb o) FU 0 gr (by omega) (by show _ < 4294967296; omega) (fun i hi => absurd hi (Nat.not_lt_zero i))
      have w1 : fX11_tries_l82 (upd (upd (upd tJ 11 (nI (ofR R C nb o))) 12 (nI (ofC o))) 14 (1 : Int32)) nr2 FU (0 : Int32) gr = some gr2 := w1
      rw [w1, bnS]
      refine ⟨_, _, _, _, rfl, ⟨rfl, rfl, rfl, w2, rfl, rfl, by omega, vo'⟩, ?_⟩
      exact kep_up (kep_up (kep_up hk (by decide) (by decide) _) (by decide) (by decide) _) (by decide) (by decide) _
    cases bs with
    | none =>
      have es : stY R C nb sp c4 o none = some o := if_pos c
      have hb2 : fX11_isBetter tJ gr gc nr2 (cI o.1) (cI o.2) (nI (ofC o)) = some true := by
        unfold fX11_isBetter
        rw [(hs none h).1, if_pos rfl]
      rw [hb2, bnS, if_neg (show ¬ bi true = 0 from by decide), es]
      exact taken
    | some b =>
      have h' := hs (some b) h
      obtain ⟨b14, b11, b12, bgr, bg0, bg1, b5, bv⟩ := h'
      obtain ⟨bt2, w1, w2⟩ := y_better (o := o) (b := b) hR vo' bv b14 q2 b11 b12 (by omega) b5 q4 bgr bg0 bg1
      rw [w1, bnS]
      by_cases c2 : kyF R C nb o < kyF R C nb b
      · have es : stY R C nb sp c4 o (some b) = some o := if_pos ⟨c, c2⟩
        rw [w2.mpr c2, if_neg (show ¬ bi true = 0 from by decide), es]
        exact taken
      · have es : stY R C nb sp c4 o (some b) = some b := if_neg (fun z => c2 z.2)
        have hf : bt2 = false := by
          cases bt2 with
          | false => rfl
          | true => exact absurd (w2.mp rfl) c2
        rw [hf, if_pos (show bi false = 0 from by decide), es]
        exact ⟨_, _, _, _, rfl, hs (some b) h, hk⟩
  · have es : stY R C nb sp c4 o bs = bs := by
      cases bs with
      | none => exact if_neg c
      | some b => exact if_neg (fun z => c z.1)
    rw [es]
    by_cases c1 : ofR R C nb o ≤ sp
    · rw [if_neg (nI_nlt c1 (by omega)), if_pos (nI_lt (show c4 < ofC o by omega) (by omega))]
      exact ⟨_, _, _, _, rfl, hs bs h, hk⟩
    · rw [if_pos (nI_lt (by omega) (by omega))]
      exact ⟨_, _, _, _, rfl, hs bs h, hk⟩
end STEP_
/-! ===== the best of a set of choices ===== -/
section SET_
variable {R C B : Nat → Nat} {nb sp c4 : Nat}
def bst (R C : Nat → Nat) (nb sp c4 : Nat) (S : OF → Prop) : Option OF → Prop
  | none => ∀ o, S o → ¬ (ofR R C nb o ≤ sp ∧ ofC o ≤ c4)
  | some b => S b ∧ (ofR R C nb b ≤ sp ∧ ofC b ≤ c4) ∧ ∀ o, S o → (ofR R C nb o ≤ sp ∧ ofC o ≤ c4) → kyF R C nb b ≤ kyF R C nb o
theorem bst_step {S : OF → Prop} {bs : Option OF} (o : OF) (h : bst R C nb sp c4 S bs) : bst R C nb sp c4 (fun q => S q ∨ q = o) (stY R C nb sp c4 o bs) := by
  cases bs with
  | none =>
    by_cases c : ofR R C nb o ≤ sp ∧ ofC o ≤ c4
    · have es : stY R C nb sp c4 o none = some o := if_pos c
      rw [es]
      refine ⟨.inr rfl, c, fun q hq hq2 => ?_⟩
      rcases hq with hq | hq
      · exact absurd hq2 (h q hq)
      · rw [hq]; exact Nat.le_refl _
    · have es : stY R C nb sp c4 o none = none := if_neg c
      rw [es]
      intro q hq
      rcases hq with hq | hq
      · exact h q hq
      · rw [hq]; exact c
  | some b =>
    obtain ⟨h1, h2, h3⟩ := h
    by_cases c : (ofR R C nb o ≤ sp ∧ ofC o ≤ c4) ∧ kyF R C nb o < kyF R C nb b
    · have es : stY R C nb sp c4 o (some b) = some o := if_pos c
      rw [es]
      refine ⟨.inr rfl, c.1, fun q hq hq2 => ?_⟩
      rcases hq with hq | hq
      · have := h3 q hq hq2; omega
      · rw [hq]; exact Nat.le_refl _
    · have es : stY R C nb sp c4 o (some b) = some b := if_neg c
      rw [es]
      refine ⟨.inl h1, h2, fun q hq hq2 => ?_⟩
      rcases hq with hq | hq
      · exact h3 q hq hq2
      · subst hq
        rcases Nat.lt_or_ge (kyF R C nb q) (kyF R C nb b) with z | z
        · exact absurd ⟨hq2, z⟩ c
        · exact z
theorem stX_eq {S : OF → Prop} {bs : Option OF} {o : OF} (hR : ∀ k, k < nb → R k < 512) (hsp : sp ≤ 4) (vo : vOf o) (hv : ∀ b, S b → vOf b) (hc : ofC o ≤ c4) (hlt : ∀ b, S b → ofC b = ofC o → b.1 * 1024 + b.2 ≤ o.1 * 1024 + o.2) (h : bst R C nb sp c4 S bs) : stX R C nb sp o bs = stY R C nb sp c4 o bs := by
  cases bs with
  | none =>
    show (if ofR R C nb o ≤ sp then some o else none) = (if ofR R C nb o ≤ sp ∧ ofC o ≤ c4 then some o else none)
    by_cases c : ofR R C nb o ≤ sp
    · rw [if_pos c, if_pos ⟨c, hc⟩]
    · rw [if_neg c, if_neg (fun z => c z.1)]
  | some b =>
    obtain ⟨h1, h2, h3⟩ := h
    show (if ofR R C nb o ≤ sp ∧ kyX R C nb o < kyX R C nb b then some o else some b) = (if (ofR R C nb o ≤ sp ∧ ofC o ≤ c4) ∧ kyF R C nb o < kyF R C nb b then some o else some b)
    by_cases c : ofR R C nb o ≤ sp
    · have e1 := kyE_lt (C := C) (o := o) hR (by omega)
      have e2 := kyE_lt (C := C) (o := b) hR (by omega)
      have v1 := hv b h1
      have l1 := hlt b h1
      have c1 := ofC_le o
      have c2 := ofC_le b
      obtain ⟨-, w2, w3⟩ := vo
      obtain ⟨-, u2, u3⟩ := v1
      have key : kyX R C nb o < kyX R C nb b ↔ kyF R C nb o < kyF R C nb b := by
        unfold kyF
        constructor
        · intro z; omega
        · intro z
          rcases Nat.lt_or_ge (kyX R C nb o) (kyX R C nb b) with y | y
          · exact y
          · exfalso
            have y2 : kyX R C nb o = kyX R C nb b := by omega
            have y3 : ofC b = ofC o := by
              unfold kyX kyT at y2
              omega
            have := l1 y3
            omega
      by_cases d : kyX R C nb o < kyX R C nb b
      · rw [if_pos ⟨c, d⟩, if_pos ⟨⟨c, hc⟩, key.mp d⟩]
      · rw [if_neg (fun z => d z.2), if_neg (fun z => d (key.mpr z.2))]
    · rw [if_neg (fun z => c z.1), if_neg (fun z => c z.1.1)]
theorem bst_one {S : OF → Prop} {bs bs2 : Option OF} (hv : ∀ b, S b → vOf b) (h : bst R C nb sp c4 S bs) (h2 : bst R C nb sp c4 S bs2) : bs = bs2 := by
  cases bs with
  | none =>
    cases bs2 with
    | none => rfl
    | some b => exact absurd h2.2.1 (h b h2.1)
  | some b =>
    cases bs2 with
    | none => exact absurd h.2.1 (h2 b h.1)
    | some d =>
      have q1 := h.2.2 d h2.1 h2.2.1
      have q2 := h2.2.2 b h.1 h.2.1
      obtain ⟨-, u2, u3⟩ := hv b h.1
      obtain ⟨-, w2, w3⟩ := hv d h2.1
      unfold kyF at q1 q2
      have e1 : b.1 = d.1 := by omega
      have e2 : b.2 = d.2 := by omega
      congr 1
      exact Prod.ext e1 e2
theorem bst_sub {S T : OF → Prop} {bs : Option OF} (h1 : ∀ o, S o → T o) (h2 : ∀ o, T o → ofC o ≤ c4 → S o) (h : bst R C nb sp c4 S bs) : bst R C nb sp c4 T bs := by
  cases bs with
  | none => exact fun o ho hf => h o (h2 o ho hf.2) hf
  | some b => exact ⟨h1 b h.1, h.2.1, fun o ho hf => h.2.2 o (h2 o ho hf.2) hf⟩
end SET_
