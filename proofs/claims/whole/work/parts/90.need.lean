/-! ===== rows that rise, and one put among them ===== -/
/-- v put at place p -/
def rwIns (a : Nat → Nat) (p v : Nat) : Nat → Nat := fun j => if j < p then a j else if j = p then v else a (j - 1)
/-- how many of the first n are below v -/
def rwLow (a : Nat → Nat) (v : Nat) : Nat → Nat
  | 0 => 0
  | n + 1 => rwLow a v n + (if a n < v then 1 else 0)
def rwUp (a : Nat → Nat) (n : Nat) : Prop := ∀ i j, i < j → j < n → a i < a j
theorem rwLow_spec {a : Nat → Nat} {v : Nat} : ∀ {n : Nat}, rwUp a n → rwLow a v n ≤ n ∧ (∀ i, i < rwLow a v n → a i < v) ∧ (∀ i, rwLow a v n ≤ i → i < n → v ≤ a i) := by
  intro n
  induction n with
  | zero => intro _; exact ⟨Nat.le_refl _, fun i h => absurd h (Nat.not_lt_zero i), fun i _ h => absurd h (Nat.not_lt_zero i)⟩
  | succ n ih =>
    intro hu
    obtain ⟨h0, h1, h2⟩ := ih (fun i j hij hj => hu i j hij (by omega))
    rw [rwLow]
    by_cases c : a n < v
    · rw [if_pos c]
      have e : rwLow a v n = n := by
        rcases Nat.lt_or_ge (rwLow a v n) n with z | z
        · have q1 := h2 _ (Nat.le_refl _) z
          have q2 := hu _ _ z (Nat.lt_succ_self n)
          omega
        · omega
      rw [e]
      refine ⟨Nat.le_refl _, fun i hi => ?_, fun i q1 q2 => by omega⟩
      by_cases ei : i = n
      · rw [ei]; exact c
      · exact h1 i (by omega)
    · rw [if_neg c, Nat.add_zero]
      refine ⟨by omega, h1, fun i q1 q2 => ?_⟩
      by_cases ei : i = n
      · rw [ei]; omega
      · exact h2 i q1 (by omega)
theorem rwLow_pos {a : Nat → Nat} {v n p : Nat} (hu : rwUp a n) (hp : p ≤ n) (h1 : ∀ i, i < p → a i < v) (h2 : p < n → v ≤ a p) : rwLow a v n = p := by
  obtain ⟨q0, q1, q2⟩ := rwLow_spec (v := v) hu
  rcases Nat.lt_trichotomy (rwLow a v n) p with z | z | z
  · have := h1 _ z
    have := q2 _ (Nat.le_refl _) (by omega)
    omega
  · exact z
  · have := q1 _ z
    have := h2 (by omega)
    omega
def rwStp (q : (Nat → Nat) × Nat) (v : Nat) : (Nat → Nat) × Nat := if rwLow q.1 v q.2 < q.2 ∧ q.1 (rwLow q.1 v q.2) = v then q else (rwIns q.1 (rwLow q.1 v q.2) v, q.2 + 1)
theorem rwStp_in {q : (Nat → Nat) × Nat} {v : Nat} (h : rwLow q.1 v q.2 < q.2 ∧ q.1 (rwLow q.1 v q.2) = v) : rwStp q v = q := if_pos h
theorem rwStp_out {q : (Nat → Nat) × Nat} {v : Nat} (h : ¬ (rwLow q.1 v q.2 < q.2 ∧ q.1 (rwLow q.1 v q.2) = v)) : rwStp q v = (rwIns q.1 (rwLow q.1 v q.2) v, q.2 + 1) := if_neg h
theorem rwMem {a : Nat → Nat} {n v : Nat} (hu : rwUp a n) : (rwLow a v n < n ∧ a (rwLow a v n) = v) ↔ ∃ i, i < n ∧ a i = v := by
  obtain ⟨q0, q1, q2⟩ := rwLow_spec (v := v) hu
  constructor
  · intro h; exact ⟨_, h.1, h.2⟩
  · intro ⟨i, h1, h2⟩
    have z : rwLow a v n ≤ i := by
      rcases Nat.lt_or_ge i (rwLow a v n) with z | z
      · have := q1 i z; omega
      · exact z
    refine ⟨by omega, ?_⟩
    have w1 := q2 _ (Nat.le_refl _) (show rwLow a v n < n by omega)
    rcases Nat.lt_or_ge (rwLow a v n) i with y | y
    · have := hu _ _ y h1; omega
    · have : rwLow a v n = i := by omega
      rw [this, h2]
theorem rwIns_lo {a : Nat → Nat} {p v j : Nat} (h : j < p) : rwIns a p v j = a j := if_pos h
theorem rwIns_at {a : Nat → Nat} {p v : Nat} : rwIns a p v p = v := by unfold rwIns; rw [if_neg (Nat.lt_irrefl _), if_pos rfl]
theorem rwIns_hi {a : Nat → Nat} {p v j : Nat} (h : p < j) : rwIns a p v j = a (j - 1) := by unfold rwIns; rw [if_neg (by omega), if_neg (by omega)]
theorem rwStp_up {q : (Nat → Nat) × Nat} {v : Nat} (hu : rwUp q.1 q.2) : rwUp (rwStp q v).1 (rwStp q v).2 := by
  by_cases c : rwLow q.1 v q.2 < q.2 ∧ q.1 (rwLow q.1 v q.2) = v
  · rw [rwStp_in c]; exact hu
  · rw [rwStp_out c]
    obtain ⟨q0, q1, q2⟩ := rwLow_spec (v := v) hu
    generalize hp : rwLow q.1 v q.2 = p at *
    have hv : ∀ i, p ≤ i → i < q.2 → v < q.1 i := by
      intro i h1 h2
      have w := q2 i h1 h2
      have w2 := q2 p (Nat.le_refl _) (by omega)
      have w3 : q.1 p ≠ v := fun e => c ⟨by omega, e⟩
      rcases Nat.lt_or_ge p i with y | y
      · have := hu p i y h2; omega
      · have : p = i := by omega
        rw [← this]; omega
    intro i j hij hj
    show rwIns q.1 p v i < rwIns q.1 p v j
    have hj : j < q.2 + 1 := hj
    rcases Nat.lt_trichotomy j p with z | z | z
    · rw [rwIns_lo z, rwIns_lo (by omega)]; exact hu i j hij (by omega)
    · subst z; rw [rwIns_at, rwIns_lo hij]; exact q1 i hij
    · rw [rwIns_hi z]
      rcases Nat.lt_trichotomy i p with y | y | y
      · rw [rwIns_lo y]; exact hu i (j - 1) (by omega) (by omega)
      · subst y; rw [rwIns_at]; exact hv (j - 1) (by omega) (by omega)
      · rw [rwIns_hi y]; exact hu (i - 1) (j - 1) (by omega) (by omega)
theorem rwStp_mem {q : (Nat → Nat) × Nat} {v : Nat} (hu : rwUp q.1 q.2) (u : Nat) : (∃ i, i < (rwStp q v).2 ∧ (rwStp q v).1 i = u) ↔ ((∃ i, i < q.2 ∧ q.1 i = u) ∨ u = v) := by
  by_cases c : rwLow q.1 v q.2 < q.2 ∧ q.1 (rwLow q.1 v q.2) = v
  · rw [rwStp_in c]
    constructor
    · exact fun h => .inl h
    · rintro (h | h)
      · exact h
      · exact ⟨_, c.1, by rw [h]; exact c.2⟩
  · rw [rwStp_out c]
    obtain ⟨q0, q1, q2⟩ := rwLow_spec (v := v) hu
    generalize hp : rwLow q.1 v q.2 = p at *
    constructor
    · intro ⟨i, h1, h2⟩
      have h1 : i < q.2 + 1 := h1
      have h2 : rwIns q.1 p v i = u := h2
      rcases Nat.lt_trichotomy i p with y | y | y
      · rw [rwIns_lo y] at h2; exact .inl ⟨i, by omega, h2⟩
      · subst y; rw [rwIns_at] at h2; exact .inr h2.symm
      · rw [rwIns_hi y] at h2; exact .inl ⟨i - 1, by omega, h2⟩
    · rintro (⟨i, h1, h2⟩ | h)
      · rcases Nat.lt_or_ge i p with y | y
        · exact ⟨i, by show i < q.2 + 1; omega, by show rwIns q.1 p v i = u; rw [rwIns_lo y]; exact h2⟩
        · exact ⟨i + 1, by show i + 1 < q.2 + 1; omega, by show rwIns q.1 p v (i + 1) = u; rw [rwIns_hi (by omega)]; exact h2⟩
      · exact ⟨p, by show p < q.2 + 1; omega, by show rwIns q.1 p v p = u; rw [rwIns_at, h]⟩
theorem rwStp_le (q : (Nat → Nat) × Nat) (v : Nat) : (rwStp q v).2 ≤ q.2 + 1 ∧ q.2 ≤ (rwStp q v).2 := by
  by_cases c : rwLow q.1 v q.2 < q.2 ∧ q.1 (rwLow q.1 v q.2) = v
  · rw [rwStp_in c]; exact ⟨by omega, Nat.le_refl _⟩
  · rw [rwStp_out c]; exact ⟨Nat.le_refl _, Nat.le_succ _⟩
/-- the first n places of a row hold these numbers -/
def hld (arr : Nat → Int32) (a : Nat → Nat) (n : Nat) : Prop := ∀ i, i < n → arr i = nI (a i) ∧ a i < 512
/-- a row of which the places behind p, up to n, moved up by one, and v at p -/
theorem hld_ins {arr arr2 : Nat → Int32} {a : Nat → Nat} {n p v : Nat} (h : hld arr a n) (hp : p ≤ n) (hv : v < 512) (h2 : ∀ j, arr2 j = if p < j ∧ j ≤ n then arr (j - 1) else arr j) : hld (upd arr2 p (nI v)) (rwIns a p v) (n + 1) := by
  intro i hi
  rcases Nat.lt_trichotomy i p with y | y | y
  · rw [ux_ne (by omega), h2, if_neg (by omega), rwIns_lo y]; exact h i (by omega)
  · subst y; rw [ux_at, rwIns_at]; exact ⟨rfl, hv⟩
  · rw [ux_ne (by omega), h2, if_pos ⟨y, by omega⟩, rwIns_hi y]; exact h (i - 1) (by omega)
section PUT_
variable {arr : Nat → Int32} {a : Nat → Nat} {n v : Nat}
theorem x_put_l2 (h : hld arr a n) (hn : n ≤ 12) (hu : rwUp a n) (hv : v < 512) : ∀ (j F t : Nat), t + j = n → j < F → (∀ i, i < t → a i < v) → fX10_putRising_l2 (nI n) (nI v) arr F (nI t) = some (nI (rwLow a v n)) := by
  intro j
  induction j with
  | zero =>
    intro F t h1 h2 h3
    obtain ⟨F, rfl⟩ : ∃ G, F = G + 1 := ⟨F - 1, by omega⟩
    have : t = n := by omega
    subst this
    rw [fX10_putRising_l2, if_pos (nI_le (Nat.le_refl _) (by omega)), rwLow_pos hu (Nat.le_refl _) h3 (fun z => absurd z (Nat.lt_irrefl _))]
  | succ j ih =>
    intro F t h1 h2 h3
    obtain ⟨F, rfl⟩ : ∃ G, F = G + 1 := ⟨F - 1, by omega⟩
    have ht := h t (by omega)
    rw [fX10_putRising_l2, if_neg (nI_ge (by omega) (by omega)), gdN (by omega) (by decide), nI_clamp (by omega), ht.1]
    by_cases c : v ≤ a t
    · rw [if_pos (nI_le c (by omega)), rwLow_pos hu (by omega) h3 (fun _ => c)]
    · rw [if_neg (nI_ge (by omega) (by omega))]
      show fX10_putRising_l2 (nI n) (nI v) arr F (nI t + 1) = _
      rw [nI_1]
      refine ih F (t + 1) (by omega) (by omega) (fun i hi => ?_)
      by_cases ei : i = t
      · rw [ei]; omega
      · exact h3 i (by omega)
theorem x_put_l43 (p : Nat) : ∀ (d F : Nat) (arr : Nat → Int32), p + d < 12 → d < F → ∃ arr2, fX10_putRising_l43 (nI p) F (nI (p + d)) arr = some arr2 ∧ ∀ j, arr2 j = if p < j ∧ j ≤ p + d then arr (j - 1) else arr j := by
  intro d
  induction d with
  | zero =>
    intro F arr h1 h2
    obtain ⟨F, rfl⟩ : ∃ G, F = G + 1 := ⟨F - 1, by omega⟩
    rw [fX10_putRising_l43, if_pos (nI_le (by omega) (by omega))]
    exact ⟨arr, rfl, fun j => by rw [if_neg (by omega)]⟩
  | succ d ih =>
    intro F arr h1 h2
    obtain ⟨F, rfl⟩ : ∃ G, F = G + 1 := ⟨F - 1, by omega⟩
    have e1 : nI (p + (d + 1)) - (1 : Int32) = nI (p + d) := pk_sub (a := p + (d + 1)) (b := 1) (by omega)
    have e2 : nI (p + (d + 1)) + (-1 : Int32) = nI (p + d) := pk_m1 (p + d)
    rw [fX10_putRising_l43, if_neg (nI_ge (by omega) (by omega)), e1, e2, gdN (by omega) (by decide), gdN (by omega) (by decide), nI_clamp (by omega), nI_clamp (by omega)]
    obtain ⟨arr2, q1, q2⟩ := ih F (upd arr (p + (d + 1)) (arr (p + d))) (by omega) (by omega)
    refine ⟨arr2, q1, fun j => ?_⟩
    rw [q2]
    by_cases c : p < j ∧ j ≤ p + d
    · rw [if_pos c, if_pos (by omega), ux_ne (by omega)]
    · rw [if_neg c]
      by_cases c2 : j = p + (d + 1)
      · subst c2; rw [ux_at, if_pos (by omega)]; congr 1
      · rw [ux_ne c2, if_neg (by omega)]
theorem x_put (h : hld arr a n) (hn : n < 12) (hu : rwUp a n) (hv : v < 512) : ∃ arr2, fX10_putRising arr (nI n) (nI v) = some (nI (rwStp (a, n) v).2, arr2) ∧ hld arr2 (rwStp (a, n) v).1 (rwStp (a, n) v).2 := by
  have hl := (rwLow_spec (v := v) hu).1
  unfold fX10_putRising
  have h1 := x_put_l2 h (by omega) hu hv n FU 0 (by omega) (by show n < 4294967296; omega) (fun i hi => absurd hi (Nat.not_lt_zero i))
  have h1 : fX10_putRising_l2 (nI n) (nI v) arr FU (0 : Int32) = some (nI (rwLow a v n)) := h1
  rw [h1, bnS, if_neg (show ¬ (12 : Int32) ≤ nI n from nI_ge (b := 12) (by omega) (by decide))]
  have ins : ¬ (rwLow a v n < n ∧ a (rwLow a v n) = v) → ∃ arr2, fX10_putRising_j40 (nI n) (nI v) (nI (rwLow a v n)) arr = some (nI (rwStp (a, n) v).2, arr2) ∧ hld arr2 (rwStp (a, n) v).1 (rwStp (a, n) v).2 := by
    intro c
    have es : rwStp (a, n) v = (rwIns a (rwLow a v n) v, n + 1) := rwStp_out (q := (a, n)) c
    rw [es]
    unfold fX10_putRising_j40
    obtain ⟨arr2, q1, q2⟩ := x_put_l43 (rwLow a v n) (n - rwLow a v n) FU arr (by omega) (by show _ < 4294967296; omega)
    have e3 : rwLow a v n + (n - rwLow a v n) = n := by omega
    rw [e3] at q1 q2
    rw [q1, bnS, gdN (by omega) (by decide), nI_clamp (by omega)]
    refine ⟨upd arr2 (rwLow a v n) (nI v), ?_, hld_ins h hl hv q2⟩
    show some (nI n + (1 : Int32), _) = _
    rw [show nI n + (1 : Int32) = nI (n + 1) from nI_1 n]
  by_cases c1 : n ≤ rwLow a v n
  · rw [if_pos (nI_le c1 (by omega))]
    exact ins (fun z => by omega)
  · rw [if_neg (nI_ge (by omega) (by omega)), gdN (by omega) (by decide), nI_clamp (by omega)]
    have hp := h (rwLow a v n) (by omega)
    rw [hp.1]
    by_cases c2 : a (rwLow a v n) = v
    · rw [if_pos (by rw [c2])]
      have es : rwStp (a, n) v = (a, n) := rwStp_in (q := (a, n)) ⟨show rwLow a v n < n by omega, c2⟩
      rw [es]
      exact ⟨arr, rfl, h⟩
    · rw [if_neg (fun z => c2 ((nI_eq (by omega) (by omega)).mp z))]
      exact ins (fun z => c2 z.2)
/-- the reference's look whether v is there -/
theorem y_is (tI : Nat → Int32) (h : hld arr a n) (hn : n ≤ 12) (h13 : tI 13 = nI n) (hv : v < 512) : ∀ (j F t : Nat) (x : Int32), t + j = n → j < F → (x = 0 ∨ x = 1) → ∃ r, fX11_needs_l64 (nI v) tI arr F x (nI t) = some r ∧ (r = 0 ↔ (x = 0 ∧ ∀ i, t ≤ i → i < n → a i ≠ v)) := by
  intro j
  induction j with
  | zero =>
    intro F t x h1 h2 hx
    obtain ⟨F, rfl⟩ : ∃ G, F = G + 1 := ⟨F - 1, by omega⟩
    rw [fX11_needs_l64, h13, if_pos (nI_le (by omega) (by omega))]
    exact ⟨x, rfl, fun e => ⟨e, fun i q1 q2 => by omega⟩, fun e => e.1⟩
  | succ j ih =>
    intro F t x h1 h2 hx
    obtain ⟨F, rfl⟩ : ∃ G, F = G + 1 := ⟨F - 1, by omega⟩
    have ht := h t (by omega)
    rw [fX11_needs_l64, h13, if_neg (nI_ge (by omega) (by omega)), show nI t + (1 : Int32) = nI (t + 1) from nI_1 t]
    rcases hx with hx | hx
    · subst hx
      rw [if_pos rfl, gdN (by omega) (by decide), nI_clamp (by omega), ht.1]
      by_cases c : a t = v
      · rw [if_pos (by rw [c])]
        obtain ⟨r, q1, q2⟩ := ih F (t + 1) 1 (by omega) (by omega) (.inr rfl)
        refine ⟨r, q1, fun e => absurd (q2.mp e).1 (by decide), fun e => absurd c (e.2 t (Nat.le_refl _) (by omega))⟩
      · rw [if_neg (fun z => c ((nI_eq (by omega) (by omega)).mp z))]
        obtain ⟨r, q1, q2⟩ := ih F (t + 1) 0 (by omega) (by omega) (.inl rfl)
        refine ⟨r, q1, fun e => ⟨rfl, fun i w1 w2 => ?_⟩, fun e => q2.mpr ⟨rfl, fun i w1 w2 => e.2 i (by omega) w2⟩⟩
        by_cases ei : i = t
        · rw [ei]; exact c
        · exact (q2.mp e).2 i (by omega) w2
    · subst hx
      rw [if_neg (by decide)]
      obtain ⟨r, q1, q2⟩ := ih F (t + 1) 1 (by omega) (by omega) (.inr rfl)
      exact ⟨r, q1, fun e => absurd (q2.mp e).1 (by decide), fun e => absurd e.1 (by decide)⟩
/-- the reference's shift -/
theorem y_shift (h : hld arr a n) (hn : n ≤ 12) (hu : rwUp a n) (hv : v < 512) (hno : ∀ i, i < n → a i ≠ v) : ∀ (t F : Nat) (c : Nat → Int32), t ≤ n → t < F → (∀ i, t ≤ i → i < n → v < a i) → (∀ j, c j = if t < j ∧ j ≤ n then arr (j - 1) else arr j) → ∃ arr2, fX11_needs_l117 (nI v) F (nI t) c = some (nI (rwLow a v n), arr2) ∧ ∀ j, arr2 j = if rwLow a v n < j ∧ j ≤ n then arr (j - 1) else arr j := by
  intro t
  induction t with
  | zero =>
    intro F c h1 h2 h3 h4
    obtain ⟨F, rfl⟩ : ∃ G, F = G + 1 := ⟨F - 1, by omega⟩
    have e : rwLow a v n = 0 := rwLow_pos hu (Nat.zero_le _) (fun i hi => absurd hi (Nat.not_lt_zero i)) (fun z => Nat.le_of_lt (h3 0 (Nat.le_refl _) z))
    rw [fX11_needs_l117, if_pos (show nI 0 ≤ 0 from by decide), e]
    exact ⟨c, rfl, h4⟩
  | succ t ih =>
    intro F c h1 h2 h3 h4
    obtain ⟨F, rfl⟩ : ∃ G, F = G + 1 := ⟨F - 1, by omega⟩
    have e1 : nI (t + 1) - (1 : Int32) = nI t := pk_sub (a := t + 1) (b := 1) (by omega)
    have e2 : nI (t + 1) + (-1 : Int32) = nI t := pk_m1 t
    have ht := h t (by omega)
    have ec : c t = nI (a t) := by rw [h4, if_neg (by omega)]; exact ht.1
    rw [fX11_needs_l117, if_neg (nI_nle (by omega) (by omega)), e1, e2, gdN (by omega) (by decide), nI_clamp (by omega), ec]
    by_cases q : a t ≤ v
    · have hlt : a t < v := Nat.lt_of_le_of_ne q (hno t (by omega))
      have e : rwLow a v n = t + 1 := rwLow_pos hu h1 (fun i hi => by
        by_cases ei : i = t
        · rw [ei]; exact hlt
        · have := hu i t (by omega) (by omega); omega) (fun z => Nat.le_of_lt (h3 _ (Nat.le_refl _) z))
      rw [if_pos (nI_le q (by omega)), e]
      exact ⟨c, rfl, h4⟩
    · rw [if_neg (nI_ge (by omega) (by omega)), gdN (by omega) (by decide), gdN (by omega) (by decide), nI_clamp (by omega)]
      refine ih F _ (by omega) (by omega) (fun i w1 w2 => ?_) (fun j => ?_)
      · by_cases ei : i = t
        · rw [ei]; omega
        · exact h3 i (by omega) w2
      · by_cases ej : j = t + 1
        · subst ej; rw [ux_at, if_pos ⟨by omega, h1⟩, show t + 1 - 1 = t from by omega, ← ht.1]
        · rw [ux_ne ej, h4]
          by_cases w : t + 1 < j ∧ j ≤ n
          · rw [if_pos w, if_pos (by omega)]
          · rw [if_neg w, if_neg (by omega)]
end PUT_
