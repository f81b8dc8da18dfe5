/-! ===== how many bits are 1 ===== -/
def pk4 (a b c d : Nat) : Nat := a + 256 * (b + 256 * (c + 256 * d))
theorem and2 (a b c d : Nat) (ha : a < 256) (hc : c < 256) : (a + 256 * b) &&& (c + 256 * d) = (a &&& c) + 256 * (b &&& d) := by
  have hac : a &&& c < 2 ^ 8 := Nat.and_lt_two_pow a hc
  apply Nat.eq_of_testBit_eq
  intro i
  rw [Nat.testBit_and]
  have e : ∀ x y : Nat, x < 2 ^ 8 → (x + 256 * y).testBit i = if i < 8 then x.testBit i else y.testBit (i - 8) := by
    intro x y hx
    rw [Nat.add_comm]
    exact Nat.testBit_two_pow_mul_add y hx i
  rw [e a b ha, e c d hc, e _ _ hac]
  by_cases h : i < 8
  · rw [if_pos h, if_pos h, if_pos h, Nat.testBit_and]
  · rw [if_neg h, if_neg h, if_neg h, Nat.testBit_and]
theorem and4 {a b c d m n o p : Nat} (ha : a < 256) (hb : b < 256) (hc : c < 256) (hm : m < 256) (hn : n < 256) (ho : o < 256) : pk4 a b c d &&& pk4 m n o p = pk4 (a &&& m) (b &&& n) (c &&& o) (d &&& p) := by
  unfold pk4
  rw [and2 _ _ _ _ ha hm, and2 _ _ _ _ hb hn, and2 _ _ _ _ hc ho]
def g1 (b : Nat) : Nat := b - (b / 2 &&& 85)
def g2 (b : Nat) : Nat := (b &&& 51) + (b / 4 &&& 51)
def g3 (b : Nat) : Nat := (b + b / 16) % 16
theorem g1_c : ∀ b, b < 256 → ∀ c, c < 2 → (b / 2 + c * 128) &&& 85 = b / 2 &&& 85 := by decide +kernel
theorem g1_b : ∀ b, b < 256 → (b / 2 &&& 85) ≤ b ∧ g1 b < 256 := by decide +kernel
theorem g2_c : ∀ b, b < 256 → ∀ c, c < 4 → (b / 4 + c * 64) &&& 51 = b / 4 &&& 51 := by decide +kernel
theorem g12_b : ∀ b, b < 256 → g2 (g1 b) ≤ 68 ∧ g2 (g1 b) % 16 ≤ 4 ∧ (g1 b &&& 51) < 256 ∧ (g1 b / 4 &&& 51) < 256 := by decide +kernel
def bits8 (b : Nat) : Nat := fb_sm (fun i => if b.testBit i then 1 else 0) 8
theorem g123 : ∀ b, b < 256 → g3 (g2 (g1 b)) = bits8 b ∧ bits8 b ≤ 8 := by decide +kernel
theorem ushN {n k : Nat} (hn : n < 2 ^ 32) (hk : k < 32) : ush (nI n) (nI k) = nI (n / 2 ^ k) := pk_ushrN hn _ k (s_u k hk)
theorem bitC (a b c d : Nat) (ha : a < 256) (hb : b < 256) (hc : c < 256) (hd : d < 256) : fJ6_bitCount_0f7a4 (nI (pk4 a b c d)) = nI (bits8 a + bits8 b + bits8 c + bits8 d) := by
  have lt4 : ∀ {a b c d : Nat}, a < 256 → b < 256 → c < 256 → d < 256 → pk4 a b c d < 2 ^ 32 := by
    intro a b c d h1 h2 h3 h4
    unfold pk4; omega
  unfold fJ6_bitCount_0f7a4
  have e1 : ush (nI (pk4 a b c d)) (1 : Int32) = nI (pk4 (a / 2 + (b % 2) * 128) (b / 2 + (c % 2) * 128) (c / 2 + (d % 2) * 128) (d / 2)) := by
    have := ushN (k := 1) (lt4 ha hb hc hd) (by decide)
    refine Eq.trans this ?_
    congr 1
    unfold pk4
    omega
  have e2 : nI (pk4 (a / 2 + (b % 2) * 128) (b / 2 + (c % 2) * 128) (c / 2 + (d % 2) * 128) (d / 2)) &&& (1431655765 : Int32) = nI (pk4 (a / 2 &&& 85) (b / 2 &&& 85) (c / 2 &&& 85) (d / 2 &&& 85)) := by
    show _ &&& nI (pk4 85 85 85 85) = _
    rw [nx_and, and4 (by omega) (by omega) (by omega) (by decide) (by decide) (by decide), g1_c a ha _ (Nat.mod_lt _ (by decide)), g1_c b hb _ (Nat.mod_lt _ (by decide)), g1_c c hc _ (Nat.mod_lt _ (by decide))]
  have e3 : nI (pk4 a b c d) - nI (pk4 (a / 2 &&& 85) (b / 2 &&& 85) (c / 2 &&& 85) (d / 2 &&& 85)) = nI (pk4 (g1 a) (g1 b) (g1 c) (g1 d)) := by
    have h1 := (g1_b a ha).1
    have h2 := (g1_b b hb).1
    have h3 := (g1_b c hc).1
    have h4 := (g1_b d hd).1
    rw [pk_sub (by unfold pk4; omega)]
    congr 1
    unfold pk4 g1
    omega
  rw [e1, e2, e3]
  have k1 := (g1_b a ha).2
  have k2 := (g1_b b hb).2
  have k3 := (g1_b c hc).2
  have k4 := (g1_b d hd).2
  have m1 := g12_b a ha
  have m2 := g12_b b hb
  have m3 := g12_b c hc
  have m4 := g12_b d hd
  have e4 : ush (nI (pk4 (g1 a) (g1 b) (g1 c) (g1 d))) (2 : Int32) = nI (pk4 (g1 a / 4 + (g1 b % 4) * 64) (g1 b / 4 + (g1 c % 4) * 64) (g1 c / 4 + (g1 d % 4) * 64) (g1 d / 4)) := by
    have := ushN (k := 2) (lt4 k1 k2 k3 k4) (by decide)
    refine Eq.trans this ?_
    congr 1
    unfold pk4
    omega
  have e5 : nI (pk4 (g1 a / 4 + (g1 b % 4) * 64) (g1 b / 4 + (g1 c % 4) * 64) (g1 c / 4 + (g1 d % 4) * 64) (g1 d / 4)) &&& (858993459 : Int32) = nI (pk4 (g1 a / 4 &&& 51) (g1 b / 4 &&& 51) (g1 c / 4 &&& 51) (g1 d / 4 &&& 51)) := by
    show _ &&& nI (pk4 51 51 51 51) = _
    rw [nx_and, and4 (by omega) (by omega) (by omega) (by decide) (by decide) (by decide), g2_c _ k1 _ (Nat.mod_lt _ (by decide)), g2_c _ k2 _ (Nat.mod_lt _ (by decide)), g2_c _ k3 _ (Nat.mod_lt _ (by decide))]
  have e6 : nI (pk4 (g1 a) (g1 b) (g1 c) (g1 d)) &&& (858993459 : Int32) = nI (pk4 (g1 a &&& 51) (g1 b &&& 51) (g1 c &&& 51) (g1 d &&& 51)) := by
    show _ &&& nI (pk4 51 51 51 51) = _
    rw [nx_and, and4 k1 k2 k3 (by decide) (by decide) (by decide)]
  have e7 : nI (pk4 (g1 a &&& 51) (g1 b &&& 51) (g1 c &&& 51) (g1 d &&& 51)) + nI (pk4 (g1 a / 4 &&& 51) (g1 b / 4 &&& 51) (g1 c / 4 &&& 51) (g1 d / 4 &&& 51)) = nI (pk4 (g2 (g1 a)) (g2 (g1 b)) (g2 (g1 c)) (g2 (g1 d))) := by
    rw [nI_add]
    congr 1
    unfold pk4 g2
    omega
  rw [e4, e5, e6, e7]
  have z1 := g123 a ha
  have z2 := g123 b hb
  have z3 := g123 c hc
  have z4 := g123 d hd
  unfold g3 at z1 z2 z3 z4
  generalize g2 (g1 a) = A at *
  generalize g2 (g1 b) = Bb at *
  generalize g2 (g1 c) = Cc at *
  generalize g2 (g1 d) = Dd at *
  have e8 : ush (nI (pk4 A Bb Cc Dd)) (4 : Int32) = nI (pk4 (A / 16 + (Bb % 16) * 16) (Bb / 16 + (Cc % 16) * 16) (Cc / 16 + (Dd % 16) * 16) (Dd / 16)) := by
    have := ushN (k := 4) (lt4 (a := A) (b := Bb) (c := Cc) (d := Dd) (by omega) (by omega) (by omega) (by omega)) (by decide)
    refine Eq.trans this ?_
    congr 1
    unfold pk4
    omega
  have e9 : nI (pk4 A Bb Cc Dd) + nI (pk4 (A / 16 + (Bb % 16) * 16) (Bb / 16 + (Cc % 16) * 16) (Cc / 16 + (Dd % 16) * 16) (Dd / 16)) = nI (pk4 (A + A / 16 + (Bb % 16) * 16) (Bb + Bb / 16 + (Cc % 16) * 16) (Cc + Cc / 16 + (Dd % 16) * 16) (Dd + Dd / 16)) := by
    rw [nI_add]
    congr 1
    unfold pk4
    omega
  have and15 : ∀ x : Nat, x &&& 15 = x % 16 := fun x => Nat.and_two_pow_sub_one_eq_mod x 4
  have e10 : nI (pk4 (A + A / 16 + (Bb % 16) * 16) (Bb + Bb / 16 + (Cc % 16) * 16) (Cc + Cc / 16 + (Dd % 16) * 16) (Dd + Dd / 16)) &&& (252645135 : Int32) = nI (pk4 (bits8 a) (bits8 b) (bits8 c) (bits8 d)) := by
    show _ &&& nI (pk4 15 15 15 15) = _
    rw [nx_and, and4 (by omega) (by omega) (by omega) (by decide) (by decide) (by decide), and15, and15, and15, and15]
    congr 2 <;> omega
  rw [e8, e9, e10]
  have y1 := z1.2
  have y2 := z2.2
  have y3 := z3.2
  have y4 := z4.2
  generalize bits8 a = p at *
  generalize bits8 b = q at *
  generalize bits8 c = r at *
  generalize bits8 d = s at *
  have e11 : ush (nI (pk4 p q r s)) (8 : Int32) = nI (pk4 q r s 0) := by
    have := ushN (k := 8) (lt4 (a := p) (b := q) (c := r) (d := s) (by omega) (by omega) (by omega) (by omega)) (by decide)
    refine Eq.trans this ?_
    congr 1
    unfold pk4
    omega
  have e12 : nI (pk4 p q r s) + nI (pk4 q r s 0) = nI (pk4 (p + q) (q + r) (r + s) s) := by
    rw [nI_add]
    congr 1
    unfold pk4
    omega
  rw [e11, e12]
  have e13 : ush (nI (pk4 (p + q) (q + r) (r + s) s)) (16 : Int32) = nI (pk4 (r + s) s 0 0) := by
    have := ushN (k := 16) (lt4 (a := p + q) (b := q + r) (c := r + s) (d := s) (by omega) (by omega) (by omega) (by omega)) (by decide)
    refine Eq.trans this ?_
    congr 1
    unfold pk4
    omega
  rw [e13, nI_add]
  have e14 := fa_mask (pk4 (p + q) (q + r) (r + s) s + pk4 (r + s) s 0 0) 6
  refine Eq.trans e14 ?_
  congr 1
  unfold pk4
  omega
def nbts (x : Int32) : Nat := fb_sm (fun j => if bt x j then 1 else 0) 32
theorem bitCount_ok (x : Int32) : fJ6_bitCount_0f7a4 x = nI (nbts x) := by
  obtain ⟨n, hn, rfl⟩ := wb_of32 x
  have e : n = pk4 (n % 256) (n / 256 % 256) (n / 65536 % 256) (n / 16777216) := by
    unfold pk4; omega
  have hb : ∀ i, bt (nI n) i = (decide (i < 32) && n.testBit i) := by
    intro i
    unfold bt
    show (BitVec.ofNat 32 n).getLsbD i = _
    rw [BitVec.getLsbD_ofNat]
  have hd : n / 16777216 < 256 := by omega
  have h1 := bitC (n % 256) (n / 256 % 256) (n / 65536 % 256) (n / 16777216) (Nat.mod_lt _ (by decide)) (Nat.mod_lt _ (by decide)) (Nat.mod_lt _ (by decide)) hd
  rw [← e] at h1
  rw [h1]
  congr 1
  unfold nbts
  have tb : ∀ k i, i < 8 → (n / 2 ^ (8 * k) % 256).testBit i = n.testBit (8 * k + i) := by
    intro k i hi
    rw [show (256 : Nat) = 2 ^ 8 from rfl, Nat.testBit_mod_two_pow, decide_eq_true hi, Bool.true_and, Nat.testBit_div_two_pow, Nat.add_comm]
  have s1 := fb_sm_split (fun j => if bt (nI n) j then 1 else 0) 8 24
  have s2 := fb_sm_split (fun j => if bt (nI n) (8 + j) then 1 else 0) 8 16
  have s3 := fb_sm_split (fun j => if bt (nI n) (8 + (8 + j)) then 1 else 0) 8 8
  rw [show (32 : Nat) = 8 + 24 from rfl, s1, show (24 : Nat) = 8 + 16 from rfl, s2, show (16 : Nat) = 8 + 8 from rfl, s3]
  have c0 : fb_sm (fun j => if bt (nI n) j then 1 else 0) 8 = bits8 (n % 256) := fb_sm_cong (fun i hi => by
    have := tb 0 i hi
    rw [Nat.mul_zero, Nat.zero_add, Nat.pow_zero, Nat.div_one] at this
    rw [this, hb, decide_eq_true (by omega), Bool.true_and])
  have c1 : fb_sm (fun j => if bt (nI n) (8 + j) then 1 else 0) 8 = bits8 (n / 256 % 256) := fb_sm_cong (fun i hi => by
    have := tb 1 i hi
    rw [show n / 2 ^ (8 * 1) % 256 = n / 256 % 256 from rfl] at this
    rw [this, hb, decide_eq_true (by omega), Bool.true_and])
  have c2 : fb_sm (fun j => if bt (nI n) (8 + (8 + j)) then 1 else 0) 8 = bits8 (n / 65536 % 256) := fb_sm_cong (fun i hi => by
    have := tb 2 i hi
    rw [show n / 2 ^ (8 * 2) % 256 = n / 65536 % 256 from rfl] at this
    rw [this, hb, decide_eq_true (by omega), Bool.true_and, show 8 * 2 + i = 8 + (8 + i) from by omega])
  have c3 : fb_sm (fun j => if bt (nI n) (8 + (8 + (8 + j))) then 1 else 0) 8 = bits8 (n / 16777216) := fb_sm_cong (fun i hi => by
    have := tb 3 i hi
    rw [show n / 2 ^ (8 * 3) % 256 = n / 16777216 % 256 from rfl, Nat.mod_eq_of_lt hd] at this
    rw [this, hb, decide_eq_true (by omega), Bool.true_and, show 8 * 3 + i = 8 + (8 + (8 + i)) from by omega])
  rw [c0, c1, c2, c3]
  omega
/-! ===== sums of the program ===== -/
def gNo : Option OF → Nat → Nat
  | none, n => n
  | some _, _ => 0
section XSUM_
variable {R C B N : Nat → Nat} {nb w f : Nat} {bs : Option OF} {tI rI rr rc sI br bc bb wd sp al : Nat → Int32}
theorem nbts_cut {v : Int32} {n : Nat} (hn : n ≤ 32) {t : Nat → Bool} (h : ∀ j, j < 32 → bt v j = (decide (j < n) && t j)) : nbts v = fb_sm (fun j => if t j then 1 else 0) n := by
  unfold nbts
  have e : (32 : Nat) = n + (32 - n) := by omega
  rw [e, fb_sm_split]
  have z : fb_sm (fun k => if bt v (n + k) then 1 else 0) (32 - n) = 0 := by
    have : fb_sm (fun k => if bt v (n + k) then 1 else 0) (32 - n) = fb_sm (fun _ => 0) (32 - n) := fb_sm_cong (fun k hk => by
      rw [h (n + k) (by omega), decide_eq_false (by omega), Bool.false_and]; rfl)
    rw [this, fb_sm_const, Nat.mul_zero]
  rw [z, Nat.add_zero]
  exact fb_sm_cong (fun k hk => by rw [h k (by omega), decide_eq_true hk, Bool.true_and])
theorem x_ones (hW : wirW tI N w f) (ok : okN N w) (hf : okM w f) (hb : okBd nb R C B) (hx : xBd sI br bc bb nb R C B) (hfit : ∀ k, k < nb → R k < 2 ^ (w - f) ∧ C k < N 1 * 2 ^ f) (hbs : bst R C nb (N 3) (N 4) (syS C nb nb) bs) (hG : xG R C nb bs rI rr rc) (hc : celR wd sp al 0 N w f) {nu : Nat → Int32} (hnu : nu 0 = nI (2 ^ w)) : fX9_ones tI rI rr rc sI nu br bc bb wd sp = some (nI (fb_sm (fun a => fb_sm (ctC 0 al R C B N nb w f bs a) (N 1)) (2 ^ w))) := by
  unfold fX9_ones
  have hw := pw10 ok.2.2.1
  have loop : ∀ (d F a : Nat), a + d = 2 ^ w → d < F → fX9_ones_l15 (nI (2 ^ w)) tI rI rr rc sI br bc bb wd sp F (nI (fb_sm (fun a => fb_sm (ctC 0 al R C B N nb w f bs a) (N 1)) a)) (nI a) = some (nI (fb_sm (fun a => fb_sm (ctC 0 al R C B N nb w f bs a) (N 1)) (2 ^ w))) := by
    intro d
    induction d with
    | zero =>
      intro F a e1 e2
      obtain ⟨F, rfl⟩ : ∃ G, F = G + 1 := ⟨F - 1, by omega⟩
      have : a = 2 ^ w := by omega
      rw [fX9_ones_l15, if_pos (nI_le (by omega) (by omega)), this]
    | succ d ih =>
      intro F a e1 e2
      obtain ⟨F, rfl⟩ : ∃ G, F = G + 1 := ⟨F - 1, by omega⟩
      rw [fX9_ones_l15, if_neg (nI_ge (by omega) (by omega))]
      obtain ⟨v, q1, q2⟩ := x_word hW ok hf hb hx hfit hbs hG hc (show a < 2 ^ w by omega)
      rw [q1, bnS, bitCount_ok, nI_add, show nI a + (1 : Int32) = nI (a + 1) from nI_1 a, nbts_cut ok.2.2.2.2.1 q2]
      have := ih F (a + 1) (by omega) (by omega)
      rw [fb_sm_succ] at this
      exact this
  have := loop (2 ^ w) FU 0 (by omega) (by show _ < 4294967296; omega)
  have this : fX9_ones_l15 (nI (2 ^ w)) tI rI rr rc sI br bc bb wd sp FU (0 : Int32) (0 : Int32) = _ := this
  rw [hnu, this, bnS]
theorem x_wrong (hb : okBd nb R C B) (hx : xBd sI br bc bb nb R C B) (h4 : rI 4 = gM bs) {v : Nat} (hv : v ≤ 1) : fX9_wrong rI sI bb (nI v) = some (nI (gNo bs (fb_sm (fun k => if B k = v then 0 else 1) nb))) := by
  have hb1 := hb.1
  unfold fX9_wrong
  cases bs with
  | none =>
    have loop : ∀ (d F k : Nat), k + d = nb → d < F → fX9_wrong_l5 (nI v) rI sI bb F (nI (fb_sm (fun k => if B k = v then 0 else 1) k)) (nI k) = some (nI (fb_sm (fun k => if B k = v then 0 else 1) nb)) := by
      intro d
      induction d with
      | zero =>
        intro F k e1 e2
        obtain ⟨F, rfl⟩ : ∃ G, F = G + 1 := ⟨F - 1, by omega⟩
        have : k = nb := by omega
        rw [fX9_wrong_l5, hx.1, if_pos (nI_le (by omega) (by omega)), this]
      | succ d ih =>
        intro F k e1 e2
        obtain ⟨F, rfl⟩ : ∃ G, F = G + 1 := ⟨F - 1, by omega⟩
        have hk := hb.2 k (by omega)
        have := ih F (k + 1) (by omega) (by omega)
        rw [fb_sm_succ] at this
        rw [fX9_wrong_l5, hx.1, if_neg (nI_ge (by omega) (by omega)), h4, show gM none = (0 : Int32) from rfl, if_pos rfl, gdN (by omega) (by decide), nI_clamp (by omega), (hx.2 k (by omega)).2.2, show nI k + (1 : Int32) = nI (k + 1) from nI_1 k]
        by_cases c : B k = v
        · rw [if_pos (by rw [c])]
          rw [if_pos c, Nat.add_zero] at this
          exact this
        · rw [if_neg (fun z => c ((nI_eq (by omega) (by omega)).mp z)), show ∀ x, nI x + (1 : Int32) = nI (x + 1) from fun x => nI_1 x]
          rw [if_neg c] at this
          exact this
    have := loop nb FU 0 (by omega) (by show _ < 4294967296; omega)
    have this : fX9_wrong_l5 (nI v) rI sI bb FU (0 : Int32) (0 : Int32) = _ := this
    rw [this, bnS]
    rfl
  | some b =>
    have : fX9_wrong_l5 (nI v) rI sI bb (4294967295 + 1) (0 : Int32) (0 : Int32) = some (0 : Int32) := by
      rw [fX9_wrong_l5, hx.1]
      by_cases c : nI nb ≤ 0
      · rw [if_pos c]
      · rw [if_neg c, h4, show gM (some b) = (1 : Int32) from rfl, if_neg (show ¬ (1 : Int32) = 0 from by decide)]
    have this : fX9_wrong_l5 (nI v) rI sI bb FU (0 : Int32) (0 : Int32) = some (0 : Int32) := this
    rw [this, bnS]
    rfl
end XSUM_
/-! ===== each BAD cell is one cell ===== -/
theorem sm_one {c i : Nat} : ∀ {n : Nat}, i < n → fb_sm (fun k => if k = i then c else 0) n = c := by
  intro n h
  have := fb_sm_upd (fun _ => 0) c h
  rw [fb_sm_const, Nat.mul_zero] at this
  omega
theorem sm_zero {g : Nat → Nat} {n : Nat} (h : ∀ k, k < n → g k = 0) : fb_sm g n = 0 := by
  have : fb_sm g n = fb_sm (fun _ => 0) n := fb_sm_cong h
  rw [this, fb_sm_const, Nat.mul_zero]
def gOp (P : Nat → Nat) : Option Nat → Nat
  | none => 0
  | some v => P v
theorem bad_sum {R C B N : Nat → Nat} {nb w f : Nat} (hf : okM w f) (hfit : ∀ k, k < nb → R k < 2 ^ (w - f) ∧ C k < N 1 * 2 ^ f) (hd : ∀ i j, i < j → j < nb → ¬ (R i = R j ∧ C i = C j)) (P : Nat → Nat) : ∀ n, n ≤ nb → fb_sm (fun a => fb_sm (fun j => gOp P (stk R C B (a / 2 ^ f) (j * 2 ^ f + a % 2 ^ f) n)) (N 1)) (2 ^ w) = fb_sm (fun k => P (B k)) n := by
  have h8 := p2f hf.1
  have ew : 2 ^ w = 2 ^ (w - f) * 2 ^ f := by rw [← Nat.pow_add]; congr 1; have := hf.2.1; omega
  intro n
  induction n with
  | zero =>
    intro _
    exact sm_zero (fun a _ => sm_zero (fun j _ => rfl))
  | succ n ih =>
    intro hn
    rw [fb_sm_succ, ← ih (by omega)]
    have hfn := hfit n (by omega)
    have hmod : C n % 2 ^ f < 2 ^ f := Nat.mod_lt _ (Nat.two_pow_pos f)
    have step : ∀ a j, gOp P (stk R C B (a / 2 ^ f) (j * 2 ^ f + a % 2 ^ f) (n + 1)) = gOp P (stk R C B (a / 2 ^ f) (j * 2 ^ f + a % 2 ^ f) n) + (if a = R n * 2 ^ f + C n % 2 ^ f then (if j = C n / 2 ^ f then P (B n) else 0) else 0) := by
      intro a j
      have ham : a % 2 ^ f < 2 ^ f := Nat.mod_lt _ (Nat.two_pow_pos f)
      rw [stk]
      by_cases c : R n = a / 2 ^ f ∧ C n = j * 2 ^ f + a % 2 ^ f
      · rw [if_pos c]
        have d1 := (dm_eq (c := C n) (j := j) h8.1 ham).mp c.2
        have d2 : a = R n * 2 ^ f + C n % 2 ^ f := (dm_eq h8.1 hmod).mpr ⟨d1.1.symm, c.1.symm⟩
        rw [if_pos d2, if_pos d1.2.symm]
        have : stk R C B (a / 2 ^ f) (j * 2 ^ f + a % 2 ^ f) n = none := stk_none (fun k hk z => hd k n hk (by omega) ⟨by rw [z.1, c.1], by rw [z.2, c.2]⟩)
        rw [this]
        show P (B n) = 0 + P (B n)
        omega
      · rw [if_neg c]
        have : (if a = R n * 2 ^ f + C n % 2 ^ f then (if j = C n / 2 ^ f then P (B n) else 0) else 0) = 0 := by
          by_cases d : a = R n * 2 ^ f + C n % 2 ^ f
          · rw [if_pos d]
            by_cases e : j = C n / 2 ^ f
            · exfalso
              have d3 := (dm_eq h8.1 hmod).mp d
              exact c ⟨d3.2.symm, (dm_eq h8.1 ham).mpr ⟨d3.1.symm, e.symm⟩⟩
            · rw [if_neg e]
          · rw [if_neg d]
        rw [this, Nat.add_zero]
    have e1 : fb_sm (fun a => fb_sm (fun j => gOp P (stk R C B (a / 2 ^ f) (j * 2 ^ f + a % 2 ^ f) (n + 1))) (N 1)) (2 ^ w) = fb_sm (fun a => fb_sm (fun j => gOp P (stk R C B (a / 2 ^ f) (j * 2 ^ f + a % 2 ^ f) n)) (N 1) + (if a = R n * 2 ^ f + C n % 2 ^ f then P (B n) else 0)) (2 ^ w) := fb_sm_cong (fun a _ => by
      have : fb_sm (fun j => gOp P (stk R C B (a / 2 ^ f) (j * 2 ^ f + a % 2 ^ f) (n + 1))) (N 1) = fb_sm (fun j => gOp P (stk R C B (a / 2 ^ f) (j * 2 ^ f + a % 2 ^ f) n) + (if a = R n * 2 ^ f + C n % 2 ^ f then (if j = C n / 2 ^ f then P (B n) else 0) else 0)) (N 1) := fb_sm_cong (fun j _ => step a j)
      rw [this, fb_sm_add]
      congr 1
      by_cases d : a = R n * 2 ^ f + C n % 2 ^ f
      · rw [if_pos d]
        have : fb_sm (fun j => if a = R n * 2 ^ f + C n % 2 ^ f then (if j = C n / 2 ^ f then P (B n) else 0) else 0) (N 1) = fb_sm (fun j => if j = C n / 2 ^ f then P (B n) else 0) (N 1) := fb_sm_cong (fun j _ => if_pos d)
        rw [this]
        exact sm_one ((Nat.div_lt_iff_lt_mul h8.1).mpr hfn.2)
      · rw [if_neg d]
        exact sm_zero (fun j _ => if_neg d))
    rw [e1, fb_sm_add]
    congr 1
    apply sm_one
    have h1 : (R n + 1) * 2 ^ f ≤ 2 ^ (w - f) * 2 ^ f := Nat.mul_le_mul_right _ hfn.1
    rw [Nat.add_mul, Nat.one_mul] at h1
    omega
