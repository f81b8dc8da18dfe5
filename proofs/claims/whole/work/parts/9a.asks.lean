/-! ===== questions: both answer alike ===== -/
theorem inN (p : Int32) {n : Nat} (hn : n < 2 ^ 31) : (bi (fX11_isIn p (0 : Int32) (nI n)) = 0 ∧ (p < 0 ∨ (¬ p < 0 ∧ nI n < p))) ∨ ∃ j, j ≤ n ∧ p = nI j ∧ ¬ bi (fX11_isIn p (0 : Int32) (nI n)) = 0 := by
  unfold fX11_isIn
  by_cases c : p < 0
  · rw [if_pos c]; exact .inl ⟨rfl, .inl c⟩
  · rw [if_neg c]
    by_cases c2 : nI n < p
    · rw [if_pos c2]; exact .inl ⟨rfl, .inr ⟨c, c2⟩⟩
    · rw [if_neg c2]
      obtain ⟨j, h1, rfl⟩ := nI_of c
      refine .inr ⟨j, ?_, rfl, by decide⟩
      rcases Nat.lt_or_ge n j with z | z
      · exact absurd (nI_lt z h1) c2
      · exact z
theorem inM (p : Int32) {n : Nat} (hn : n < 2 ^ 31) : (bi (fX11_isIn p (0 : Int32) (nI n - (1 : Int32))) = 0 ∧ (p < 0 ∨ (¬ p < 0 ∧ nI n ≤ p))) ∨ ∃ j, j < n ∧ p = nI j ∧ ¬ bi (fX11_isIn p (0 : Int32) (nI n - (1 : Int32))) = 0 := by
  by_cases h0 : n = 0
  · subst h0
    left
    unfold fX11_isIn
    by_cases c : p < 0
    · rw [if_pos c]; exact ⟨rfl, .inl c⟩
    · rw [if_neg c]
      obtain ⟨j, h1, rfl⟩ := nI_of c
      have : (nI 0 - (1 : Int32)) < nI j := by
        rw [fa_lt, nI_toInt h1]
        have : (nI 0 - (1 : Int32)).toInt = -1 := by decide
        omega
      rw [if_pos this]
      exact ⟨rfl, .inr ⟨c, nI_le (Nat.zero_le _) h1⟩⟩
  · obtain ⟨m, rfl⟩ : ∃ m, n = m + 1 := ⟨n - 1, by omega⟩
    rw [show nI (m + 1) - (1 : Int32) = nI m from nI_pred m]
    rcases inN p (n := m) (by omega) with ⟨h1, h2⟩ | ⟨j, h1, h2, h3⟩
    · refine .inl ⟨h1, ?_⟩
      rcases h2 with h2 | ⟨h2, h3⟩
      · exact .inl h2
      · refine .inr ⟨h2, ?_⟩
        obtain ⟨j, j1, rfl⟩ := nI_of h2
        have := (nI_ltI (by omega) j1).mp h3
        exact nI_le (by omega) j1
    · exact .inr ⟨j, by omega, h2, h3⟩
theorem sim_fault : Sim_fault Rel := by
  intro x y p0 h
  refine ⟨_, _, rfl, rfl, ?_, h⟩
  obtain ⟨-, -, -, ⟨h1, h2⟩, -⟩ := h
  unfold fX10_fault fX11_fault
  rw [h1, h2]
theorem sim_why : Sim_why Rel := by
  intro x y p0 h
  have h' := h
  obtain ⟨-, ⟨h1, h2, h3⟩, -⟩ := h'
  have h1 : x.1 0 4 = y.1 1 4208 := h1
  have h2 : x.1 0 5 = y.1 1 4209 := h2
  have h3 : x.1 0 6 = y.1 1 4210 := h3
  unfold fX11_why
  rcases inN p0 (n := 2) (by decide) with ⟨q1, q2⟩ | ⟨j, q1, q2, q3⟩
  · have q1 : bi (fX11_isIn p0 (0 : Int32) (2 : Int32)) = 0 := q1
    rw [if_pos q1]
    refine ⟨_, _, rfl, rfl, ?_, h⟩
    unfold fX10_why
    have n0 : ¬ p0 = (0 : Int32) := by rintro rfl; rcases q2 with q | ⟨-, q⟩ <;> exact absurd q (by decide)
    have n1 : ¬ p0 = (1 : Int32) := by rintro rfl; rcases q2 with q | ⟨-, q⟩ <;> exact absurd q (by decide)
    have n2 : ¬ p0 = (2 : Int32) := by rintro rfl; rcases q2 with q | ⟨-, q⟩ <;> exact absurd q (by decide)
    rw [if_neg n0, if_neg n1, if_neg n2]
  · have q3 : ¬ bi (fX11_isIn p0 (0 : Int32) (2 : Int32)) = 0 := q3
    rw [if_neg q3, q2, show (4208 : Int32) + nI j = nI (4208 + j) from nI_add 4208 j, gdN (by omega) (by decide), nI_clamp (by omega)]
    refine ⟨_, _, rfl, rfl, ?_, h⟩
    unfold fX10_why
    have e : j = 0 ∨ j = 1 ∨ j = 2 := by omega
    rcases e with e | e | e <;> subst e
    · exact h1
    · exact h2
    · exact h3
theorem sim_end : Sim_end Rel := by
  intro x y p0 h
  have h' := h
  obtain ⟨a1, a2, ⟨n, t1, t2, t3, t4, t5⟩, a4, a5, a6⟩ := h'
  unfold fX10_end fX11_end
  have t2' : x.1 8 1 = nI n := t2
  have t3' : y.1 0 3 = nI n := t3
  rw [t2', t3']
  rcases inN p0 (n := n) (by omega) with ⟨q1, q2⟩ | ⟨j, q1, q2, q3⟩
  · rw [if_pos q1]
    rcases q2 with q2 | ⟨q2, q3⟩
    · rw [if_pos q2]; exact ⟨_, _, rfl, rfl, rfl, h⟩
    · rw [if_neg q2, if_neg (fa_of_lt q3).2.1]; exact ⟨_, _, rfl, rfl, rfl, h⟩
  · rw [if_neg q3, q2, if_neg (nI_pos (by omega)), if_pos (nI_le q1 (by omega))]
    exact ⟨_, _, rfl, rfl, rfl, a1, a2, ⟨j, by omega, rfl, rfl, t4, fun i hi => t5 i (by omega)⟩, a4, a5, a6⟩
/-! ===== feed ===== -/
theorem app_step {tI : Nat → Int32} {n : Nat} (p : Int32) (tb : Nat → Int32) (F s : Nat) (h : tI 1 = nI n) (hn : n < 300) (hs : s < 2 ^ 31) : fX7_append_l3 p (F + 1) (nI s) tI tb = fX7_append_l3 p F (nI s + (-8 : Int32)) (upd tI 1 (nI (n + 1))) (upd tb n ((p >>> (nI s &&& 31)).toInt8.toInt32)) := by
  rw [fX7_append_l3, if_neg (nI_pos hs)]
  have e : fX7_hasRoom tI (1 : Int32) = true := by
    unfold fX7_hasRoom
    rw [h, show nI n + (1 : Int32) = nI (n + 1) from nI_1 n, if_neg (show ¬ (300 : Int32) < nI (n + 1) from nI_nlt (a := 300) (by omega) (by omega))]
  rw [e, if_neg (show ¬ bi true = 0 from by decide), h, gdN hn (by decide), nI_clamp (by omega), show nI n + (1 : Int32) = nI (n + 1) from nI_1 n, pk_vb]
def appF (p : Int32) (tb : Nat → Int32) (n : Nat) : Nat → Int32 := fun j => if n ≤ j ∧ j < n + 4 then (p >>> (nI (24 - 8 * (j - n)) &&& 31)).toInt8.toInt32 else tb j
theorem app_ok {tI : Nat → Int32} {n : Nat} (p : Int32) (tb : Nat → Int32) (h : tI 1 = nI n) (hn : n + 4 ≤ 300) : ∃ tJ, fX7_append tI tb p = some (tJ, appF p tb n) ∧ tJ 1 = nI (n + 4) := by
  unfold fX7_append
  have e0 : fX7_append_l3 p FU (24 : Int32) tI tb = fX7_append_l3 p 4294967292 (-8 : Int32) (upd (upd (upd (upd tI 1 (nI (n + 1))) 1 (nI (n + 1 + 1))) 1 (nI (n + 1 + 1 + 1))) 1 (nI (n + 1 + 1 + 1 + 1))) (upd (upd (upd (upd tb n ((p >>> (nI 24 &&& 31)).toInt8.toInt32)) (n + 1) ((p >>> (nI 16 &&& 31)).toInt8.toInt32)) (n + 1 + 1) ((p >>> (nI 8 &&& 31)).toInt8.toInt32)) (n + 1 + 1 + 1) ((p >>> (nI 0 &&& 31)).toInt8.toInt32)) := by
    have s1 := app_step p tb 4294967295 24 h (by omega) (by decide)
    have s2 := app_step (tI := upd tI 1 (nI (n + 1))) p (upd tb n ((p >>> (nI 24 &&& 31)).toInt8.toInt32)) 4294967294 16 (ux_at _ _ _) (by omega) (by decide)
    have s3 := app_step (tI := upd (upd tI 1 (nI (n + 1))) 1 (nI (n + 1 + 1))) p (upd (upd tb n ((p >>> (nI 24 &&& 31)).toInt8.toInt32)) (n + 1) ((p >>> (nI 16 &&& 31)).toInt8.toInt32)) 4294967293 8 (ux_at _ _ _) (by omega) (by decide)
    have s4 := app_step (tI := upd (upd (upd tI 1 (nI (n + 1))) 1 (nI (n + 1 + 1))) 1 (nI (n + 1 + 1 + 1))) p (upd (upd (upd tb n ((p >>> (nI 24 &&& 31)).toInt8.toInt32)) (n + 1) ((p >>> (nI 16 &&& 31)).toInt8.toInt32)) (n + 1 + 1) ((p >>> (nI 8 &&& 31)).toInt8.toInt32)) 4294967292 0 (ux_at _ _ _) (by omega) (by decide)
    exact Eq.trans s1 (Eq.trans s2 (Eq.trans s3 s4))
  rw [e0]
  show ∃ tJ, bn (fX7_append_l3 p (4294967291 + 1) (-8 : Int32) _ _) _ = _ ∧ _
  rw [fX7_append_l3, if_pos (show (-8 : Int32) < 0 from by decide), bnS]
  refine ⟨upd (upd (upd (upd tI 1 (nI (n + 1))) 1 (nI (n + 1 + 1))) 1 (nI (n + 1 + 1 + 1))) 1 (nI (n + 1 + 1 + 1 + 1)), congrArg some (Prod.ext rfl (funext fun j => ?_)), ux_at _ _ _⟩
  show upd (upd (upd (upd tb n ((p >>> (nI 24 &&& 31)).toInt8.toInt32)) (n + 1) ((p >>> (nI 16 &&& 31)).toInt8.toInt32)) (n + 1 + 1) ((p >>> (nI 8 &&& 31)).toInt8.toInt32)) (n + 1 + 1 + 1) ((p >>> (nI 0 &&& 31)).toInt8.toInt32) j = appF p tb n j
  unfold appF
  by_cases c : n ≤ j ∧ j < n + 4
  · rw [if_pos c]
    have e : j = n ∨ j = n + 1 ∨ j = n + 1 + 1 ∨ j = n + 1 + 1 + 1 := by omega
    rcases e with e | e | e | e
    · subst e
      rw [ux_ne (by omega), ux_ne (by omega), ux_ne (by omega), ux_at, Nat.sub_self]
    · subst e
      rw [ux_ne (by omega), ux_ne (by omega), ux_at, show 24 - 8 * (n + 1 - n) = 16 from by omega]
    · subst e
      rw [ux_ne (by omega), ux_at, show 24 - 8 * (n + 1 + 1 - n) = 8 from by omega]
    · subst e
      rw [ux_at, show 24 - 8 * (n + 1 + 1 + 1 - n) = 0 from by omega]
  · rw [if_neg c, ux_ne (by omega), ux_ne (by omega), ux_ne (by omega), ux_ne (by omega)]
def pick5 (a b c d e : Int32) (i : Nat) : Int32 := if i < 4 then a else if i < 8 then b else if i < 12 then c else if i < 16 then d else e
theorem y_feed_l {tI : Nat → Int32} {n : Nat} (a b c d e : Int32) (h : tI 3 = nI n) (hn : n + 20 ≤ 300) (yt : Nat → Int32) : ∀ (j F i : Nat) (t : Nat → Int32), i + j = 20 → j < F → (∀ k, t k = if n ≤ k ∧ k < n + i then (pick5 a b c d e (k - n) >>> (nI (24 - 8 * ((k - n) % 4)) &&& 31)) &&& (255 : Int32) else yt k) → ∃ t2, fX11_feed_l18 a b c d e tI F (nI i) t = some t2 ∧ ∀ k, t2 k = if n ≤ k ∧ k < n + 20 then (pick5 a b c d e (k - n) >>> (nI (24 - 8 * ((k - n) % 4)) &&& 31)) &&& (255 : Int32) else yt k := by
  intro j
  induction j with
  | zero =>
    intro F i t e1 e2 ht
    obtain ⟨F, rfl⟩ : ∃ G, F = G + 1 := ⟨F - 1, by omega⟩
    have : i = 20 := by omega
    subst this
    rw [fX11_feed_l18, if_pos (show (20 : Int32) ≤ nI 20 from by decide)]
    exact ⟨t, rfl, ht⟩
  | succ j ih =>
    intro F i t e1 e2 ht
    obtain ⟨F, rfl⟩ : ∃ G, F = G + 1 := ⟨F - 1, by omega⟩
    have e3 : nI i &&& (3 : Int32) = nI (i % 4) := fa_mask i 2
    have e4 : (24 : Int32) - (8 : Int32) * nI (i % 4) = nI (24 - 8 * (i % 4)) := by
      show nI 24 - nI 8 * nI (i % 4) = _
      rw [pk_mul, pk_sub (by omega)]
    have e5 : (if (4 : Int32) ≤ nI i then (if (8 : Int32) ≤ nI i then (if (12 : Int32) ≤ nI i then (if (16 : Int32) ≤ nI i then e else d) else c) else b) else a) = pick5 a b c d e i := by
      unfold pick5
      show (if nI 4 ≤ nI i then (if nI 8 ≤ nI i then (if nI 12 ≤ nI i then (if nI 16 ≤ nI i then e else d) else c) else b) else a) = _
      have le : ∀ q : Nat, q < 30 → ((nI q ≤ nI i) ↔ q ≤ i) := fun q hq => nI_leI (by omega) (by omega)
      by_cases c1 : i < 4
      · rw [if_pos c1, if_neg (fun z => by have := (le 4 (by decide)).mp z; omega)]
      · rw [if_neg c1, if_pos ((le 4 (by decide)).mpr (by omega))]
        by_cases c2 : i < 8
        · rw [if_pos c2, if_neg (fun z => by have := (le 8 (by decide)).mp z; omega)]
        · rw [if_neg c2, if_pos ((le 8 (by decide)).mpr (by omega))]
          by_cases c3 : i < 12
          · rw [if_pos c3, if_neg (fun z => by have := (le 12 (by decide)).mp z; omega)]
          · rw [if_neg c3, if_pos ((le 12 (by decide)).mpr (by omega))]
            by_cases c4 : i < 16
            · rw [if_pos c4, if_neg (fun z => by have := (le 16 (by decide)).mp z; omega)]
            · rw [if_neg c4, if_pos ((le 16 (by decide)).mpr (by omega))]
    rw [fX11_feed_l18, if_neg (show ¬ (20 : Int32) ≤ nI i from nI_ge (b := 20) (by omega) (by decide)), h, nI_add, gdN (by omega) (by decide), nI_clamp (by omega), e3, e4, e5, show nI i + (1 : Int32) = nI (i + 1) from nI_1 i]
    refine ih F (i + 1) _ (by omega) (by omega) (fun k => ?_)
    by_cases ek : k = n + i
    · subst ek
      rw [ux_at, if_pos (by omega), show n + i - n = i from by omega]
    · rw [ux_ne ek, ht k]
      by_cases w : n ≤ k ∧ k < n + i
      · rw [if_pos w, if_pos (by omega)]
      · rw [if_neg w, if_neg (by omega)]
theorem and255 (x : Int32) : ∃ v, v < 256 ∧ x &&& (255 : Int32) = nI v := pk_andE x 8 (by decide)
theorem sim_feed : Sim_feed Rel := by
  intro x y p0 p1 p2 p3 p4 h
  have h' := h
  obtain ⟨a1, a2, ⟨n, t1, t2, t3, t4, t5⟩, a4, a5, a6⟩ := h'
  have t2' : x.1 8 1 = nI n := t2
  have t3' : y.1 0 3 = nI n := t3
  unfold fX10_feed fX11_feed fX7_hasRoom
  rw [t2', t3', show nI n + (20 : Int32) = nI (n + 20) from nI_add n 20]
  by_cases c : n + 20 ≤ 300
  · rw [if_neg (show ¬ (300 : Int32) < nI (n + 20) from nI_nlt (a := 300) c (by decide)), if_neg (show ¬ bi true = 0 from by decide), if_pos (show nI (n + 20) ≤ (300 : Int32) from nI_le (b := 300) c (by decide))]
    obtain ⟨b1, q1, r1⟩ := app_ok p0 (x.1 9) t2' (by omega)
    obtain ⟨b2, q2, r2⟩ := app_ok p1 (appF p0 (x.1 9) n) r1 (by omega)
    obtain ⟨b3, q3, r3⟩ := app_ok p2 (appF p1 (appF p0 (x.1 9) n) (n + 4)) r2 (by omega)
    obtain ⟨b4, q4, r4⟩ := app_ok p3 (appF p2 (appF p1 (appF p0 (x.1 9) n) (n + 4)) (n + 4 + 4)) r3 (by omega)
    obtain ⟨b5, q5, r5⟩ := app_ok p4 (appF p3 (appF p2 (appF p1 (appF p0 (x.1 9) n) (n + 4)) (n + 4 + 4)) (n + 4 + 4 + 4)) r4 (by omega)
    obtain ⟨t, s1, s2⟩ := y_feed_l p0 p1 p2 p3 p4 t3' c (y.1 2) 20 FU 0 (y.1 2) (by omega) (by decide) (fun k => by rw [if_neg (by omega)])
    have s1 : fX11_feed_l18 p0 p1 p2 p3 p4 (y.1 0) FU (0 : Int32) (y.1 2) = some t := s1
    rw [q1, bnS, q2, bnS, q3, bnS, q4, bnS, q5, bnS, s1, bnS]
    refine ⟨_, _, rfl, rfl, r5, ?_⟩
    refine ⟨a1, a2, ⟨n + 20, c, r5, rfl, fun i hi => ?_, fun i hi => ?_⟩, a4, a5, a6⟩
    · show appF p4 (appF p3 (appF p2 (appF p1 (appF p0 (x.1 9) n) (n + 4)) (n + 4 + 4)) (n + 4 + 4 + 4)) (n + 4 + 4 + 4 + 4) i = _
      have cl : ∀ (p : Int32) (tb : Nat → Int32) (m : Nat), (tb i = (tb i).toInt8.toInt32) → appF p tb m i = (appF p tb m i).toInt8.toInt32 := by
        intro p tb m hh
        unfold appF
        by_cases w : m ≤ i ∧ i < m + 4
        · rw [if_pos w]; exact (fb_byte_twice _).symm
        · rw [if_neg w]; exact hh
      exact cl _ _ _ (cl _ _ _ (cl _ _ _ (cl _ _ _ (cl _ _ _ (t4 i hi)))))
    · show ∃ v, v < 256 ∧ t i = nI v ∧ appF p4 (appF p3 (appF p2 (appF p1 (appF p0 (x.1 9) n) (n + 4)) (n + 4 + 4)) (n + 4 + 4 + 4)) (n + 4 + 4 + 4 + 4) i = _
      by_cases w : i < n
      · obtain ⟨v, v1, v2, v3⟩ := t5 i w
        refine ⟨v, v1, ?_, ?_⟩
        · rw [s2, if_neg (by omega)]; exact v2
        · unfold appF
          rw [if_neg (by omega), if_neg (by omega), if_neg (by omega), if_neg (by omega), if_neg (by omega)]
          exact v3
      · obtain ⟨v, v1, v2⟩ := and255 (pick5 p0 p1 p2 p3 p4 (i - n) >>> (nI (24 - 8 * ((i - n) % 4)) &&& 31))
        refine ⟨v, v1, ?_, ?_⟩
        · rw [s2, if_pos (by omega)]; exact v2
        · rw [← v2, fa_byte_low]
          unfold appF pick5
          by_cases c1 : i - n < 4
          · rw [if_pos c1, if_neg (by omega), if_neg (by omega), if_neg (by omega), if_neg (by omega), if_pos (by omega), Nat.mod_eq_of_lt c1]
          · rw [if_neg c1]
            by_cases c2 : i - n < 8
            · rw [if_pos c2, if_neg (by omega), if_neg (by omega), if_neg (by omega), if_pos (by omega), show i - (n + 4) = (i - n) % 4 from by omega]
            · rw [if_neg c2]
              by_cases c3 : i - n < 12
              · rw [if_pos c3, if_neg (by omega), if_neg (by omega), if_pos (by omega), show i - (n + 4 + 4) = (i - n) % 4 from by omega]
              · rw [if_neg c3]
                by_cases c4 : i - n < 16
                · rw [if_pos c4, if_neg (by omega), if_pos (by omega), show i - (n + 4 + 4 + 4) = (i - n) % 4 from by omega]
                · rw [if_neg c4, if_pos (by omega), show i - (n + 4 + 4 + 4 + 4) = (i - n) % 4 from by omega]
  · rw [if_pos (show (300 : Int32) < nI (n + 20) from nI_lt (a := 300) (by omega) (by omega)), if_pos (show bi false = 0 from rfl), if_neg (show ¬ nI (n + 20) ≤ (300 : Int32) from nI_ge (a := 300) (by omega) (by omega))]
    exact ⟨_, _, rfl, rfl, rfl, h⟩
