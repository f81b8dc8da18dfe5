/-! ===== a line ===== -/
section LINE_
variable {n : Nat} {vb : Nat → Nat} {sI sb yt : Nat → Int32}
theorem n_semi (hs : srcR n vb sI sb yt) {tI yI toldI nums br bc bb al : Nat → Int32} {val : Int64} {p : Nat} {r : Bool} (h22 : yI 22 = nI n) (h : goOn n vb p r tI yI toldI nums br bc bb al val) : ∃ r2 tJ yJ val2, fX2_takeLine_j58 (bi r) tI toldI nums br bc bb sI sb = some (r2, tJ, toldI, nums, br, bc, bb) ∧ fX11_readsLine_j265 yI val al yt = some (yJ, val2, al) ∧ goOn n vb p r2 tJ yJ toldI nums br bc bb al val2 ∧ kpY yI yJ := by
  have h1 := hs.1
  unfold fX2_takeLine_j58 fX11_readsLine_j265
  rcases h with ⟨q1, p2, e2, kd, q2, q3, q4⟩ | ⟨q1, q2⟩
  · have q4' := q4
    obtain ⟨N, w, o, nb, R, C, B, nb2, R2, C2, B2, g1, g2, g3, g4, g5, g6, g7⟩ := q4'
    have hg := fy_good g5
    have q3' := q3
    obtain ⟨t4, y24, t5, y25, t6, y23, pe, en, k4, pl, -⟩ := q3'
    rw [q1, if_neg (show ¬ bi true = 0 from by decide), gd_y hg, if_neg (show ¬ bi true = 0 from by decide), t4, y24]
    by_cases c : kd = 3
    · obtain ⟨tJ, yJ, val2, p3, e3, kd3, w1, w2, w3, w4, w5, w6⟩ := t_next (val := val) hs h22 t6 y23 en
      have pl := pl (by omega)
      rw [if_pos (show nI kd = (3 : Int32) by rw [c]; rfl), if_pos (show nI kd = (3 : Int32) by rw [c]; rfl), w1, bnS]
      unfold fX11_readsLine_j289
      rw [gd_y hg, if_neg (show ¬ bi true = 0 from by decide), w2, bnS]
      exact ⟨true, tJ, yJ, val2, rfl, rfl, .inl ⟨rfl, p3, e3, kd3, by omega, w3, stP_same q4 (by omega) (w5 1 (by decide)) (w5 2 (by decide)) (w6 4 (by decide)) (w6 5 (by decide))⟩, kpY_t w6⟩
    · have ne : ¬ nI kd = (3 : Int32) := fun z => c ((nI_eq (b := 3) (by omega) (by decide)).mp z)
      rw [if_neg ne, if_neg ne, y_stop g5, bnS]
      unfold fX11_readsLine_j289
      rw [gd_n (show upd (upd yI 4 (1 : Int32)) 5 (yI 25) 4 = 1 from rfl), if_pos (show bi false = 0 from rfl)]
      exact ⟨false, tI, _, _, rfl, rfl, .inr ⟨rfl, stpd_of h1 q3⟩, kpY_st _ _⟩
  · have q2' := q2
    obtain ⟨p3, -, -, z, -⟩ := q2'
    rw [q1, if_pos (show bi false = 0 from rfl), gd_n z, if_pos (show bi false = 0 from rfl)]
    unfold fX11_readsLine_j289
    rw [gd_n z, if_pos (show bi false = 0 from rfl)]
    exact ⟨false, tI, yI, val, rfl, rfl, .inr ⟨rfl, q2⟩, kpY_rf _⟩
section SKIP_
variable {x1 : Int32} {x2 : Int64} {t a : Nat → Int32} {v : Int64}
theorem s149 (h : ¬ lg_cmp x2 (46486 : Int64) = 0) : fX11_readsLine_j149 x1 x2 t v a yt = fX11_readsLine_j162 x1 x2 t v a yt := if_neg h
theorem s162 (h : ¬ lg_cmp x2 (10068 : Int64) = 0) : fX11_readsLine_j162 x1 x2 t v a yt = fX11_readsLine_j175 x1 x2 t v a yt := if_neg h
theorem s175 (h : ¬ lg_cmp x2 (10413527 : Int64) = 0) (h2 : ¬ lg_cmp x2 (63030 : Int64) = 0) : fX11_readsLine_j175 x1 x2 t v a yt = fX11_readsLine_j226 x1 x2 t v a yt := (if_neg h).trans (if_neg h2)
theorem s226 (h : ¬ lg_cmp x2 (187426886 : Int64) = 0) : fX11_readsLine_j226 x1 x2 t v a yt = fX11_readsLine_j240 x1 x2 t v a yt := if_neg h
theorem s240 (h : ¬ lg_cmp x2 (459791 : Int64) = 0) : fX11_readsLine_j240 x1 x2 t v a yt = fX11_readsLine_j252 x1 x2 t v a yt := if_neg h
theorem s252 (h : ¬ lg_cmp x2 (1489 : Int64) = 0) : fX11_readsLine_j252 x1 x2 t v a yt = fX11_readsLine_j265 t v a yt := if_neg h
end SKIP_
theorem lq : ∀ i, i < 8 → ∀ j, j < 8 → i ≠ j → ¬ lg_cmp (lN (wL i)) (lN (wL j)) = 0 := by decide +kernel
theorem ly : ∀ i, i < 8 → lg_cmp (lN (wL i)) (lN (wL i)) = 0 := by decide +kernel
/-- from the word to what follows it -/
def rlB (i : Nat) (x1 : Int32) (yT : Nat → Int32) (vT : Int64) (al yt : Nat → Int32) : Option ((Nat → Int32) × (Int64) × (Nat → Int32)) :=
  if i = 6 then fX11_readsWish yT vT al yt else if i = 7 then fX11_readsBad yT vT al yt x1 else if i = 3 then bn (fX11_one yT vT al yt (nI 3)) fun a => fX11_one a.1 a.2.1 a.2.2 yt (nI 4) else if i = 4 then bn (fX11_one yT vT al yt (nI 5)) fun a => fX11_one a.1 a.2.1 a.2.2 yt (nI 6) else fX11_one yT vT al yt (nI (if i = 5 then 7 else i))
theorem rl_go {i : Nat} (hi : i < 8) {x1 : Int32} {yI al yT yJ aJ : Nat → Int32} {val vT vJ : Int64} (hg : ¬ yI 4 = (1 : Int32)) (hw : fX11_takes yI val yt = some (yT, vT)) (hb : rlB i x1 yT vT al yt = some (yJ, vJ, aJ)) : fX11_readsLine_j124 x1 (lN (wL i)) yI val al yt = fX11_readsLine_j265 yJ vJ aJ yt := by
  unfold fX11_readsLine_j124
  rw [gd_y hg, if_neg (show ¬ bi true = 0 from by decide), hw, bnS]
  dsimp only
  have e : i = 0 ∨ i = 1 ∨ i = 2 ∨ i = 3 ∨ i = 4 ∨ i = 5 ∨ i = 6 ∨ i = 7 := by omega
  rcases e with e | e | e | e | e | e | e | e <;> subst e
  · have hb : fX11_one yT vT al yt (0 : Int32) = some (yJ, vJ, aJ) := hb
    rw [if_pos (show lg_cmp (lN (wL 0)) (12531637 : Int64) = 0 from ly 0 (by decide)), hb, bnS]
    dsimp only
    rw [s149 (lq 0 (by decide) 1 (by decide) (by decide)), s162 (lq 0 (by decide) 2 (by decide) (by decide)), s175 (lq 0 (by decide) 3 (by decide) (by decide)) (lq 0 (by decide) 4 (by decide) (by decide)), s226 (lq 0 (by decide) 5 (by decide) (by decide)), s240 (lq 0 (by decide) 6 (by decide) (by decide)), s252 (lq 0 (by decide) 7 (by decide) (by decide))]
  · have hb : fX11_one yT vT al yt (1 : Int32) = some (yJ, vJ, aJ) := hb
    rw [if_neg (show ¬ lg_cmp (lN (wL 1)) (12531637 : Int64) = 0 from lq 1 (by decide) 0 (by decide) (by decide))]
    unfold fX11_readsLine_j149
    rw [if_pos (show lg_cmp (lN (wL 1)) (46486 : Int64) = 0 from ly 1 (by decide)), hb, bnS]
    dsimp only
    rw [s162 (lq 1 (by decide) 2 (by decide) (by decide)), s175 (lq 1 (by decide) 3 (by decide) (by decide)) (lq 1 (by decide) 4 (by decide) (by decide)), s226 (lq 1 (by decide) 5 (by decide) (by decide)), s240 (lq 1 (by decide) 6 (by decide) (by decide)), s252 (lq 1 (by decide) 7 (by decide) (by decide))]
  · have hb : fX11_one yT vT al yt (2 : Int32) = some (yJ, vJ, aJ) := hb
    rw [if_neg (show ¬ lg_cmp (lN (wL 2)) (12531637 : Int64) = 0 from lq 2 (by decide) 0 (by decide) (by decide)), s149 (lq 2 (by decide) 1 (by decide) (by decide))]
    unfold fX11_readsLine_j162
    rw [if_pos (show lg_cmp (lN (wL 2)) (10068 : Int64) = 0 from ly 2 (by decide)), hb, bnS]
    dsimp only
    rw [s175 (lq 2 (by decide) 3 (by decide) (by decide)) (lq 2 (by decide) 4 (by decide) (by decide)), s226 (lq 2 (by decide) 5 (by decide) (by decide)), s240 (lq 2 (by decide) 6 (by decide) (by decide)), s252 (lq 2 (by decide) 7 (by decide) (by decide))]
  · have hb : (bn (fX11_one yT vT al yt (3 : Int32)) fun a => fX11_one a.1 a.2.1 a.2.2 yt (4 : Int32)) = some (yJ, vJ, aJ) := hb
    rw [if_neg (show ¬ lg_cmp (lN (wL 3)) (12531637 : Int64) = 0 from lq 3 (by decide) 0 (by decide) (by decide)), s149 (lq 3 (by decide) 1 (by decide) (by decide)), s162 (lq 3 (by decide) 2 (by decide) (by decide))]
    unfold fX11_readsLine_j175
    rw [if_pos (show lg_cmp (lN (wL 3)) (10413527 : Int64) = 0 from ly 3 (by decide))]
    unfold fX11_readsLine_j191
    rw [if_pos (show lg_cmp (lN (wL 3)) (10413527 : Int64) = 0 from ly 3 (by decide)), if_pos (show lg_cmp (lN (wL 3)) (10413527 : Int64) = 0 from ly 3 (by decide))]
    obtain ⟨a, ha⟩ : ∃ a, fX11_one yT vT al yt (3 : Int32) = some a := by
      cases z : fX11_one yT vT al yt (3 : Int32) with
      | none => rw [z] at hb; cases hb
      | some a => exact ⟨a, rfl⟩
    rw [ha, bnS] at hb
    rw [ha, bnS, hb, bnS]
    dsimp only
    rw [s226 (lq 3 (by decide) 5 (by decide) (by decide)), s240 (lq 3 (by decide) 6 (by decide) (by decide)), s252 (lq 3 (by decide) 7 (by decide) (by decide))]
  · have hb : (bn (fX11_one yT vT al yt (5 : Int32)) fun a => fX11_one a.1 a.2.1 a.2.2 yt (6 : Int32)) = some (yJ, vJ, aJ) := hb
    rw [if_neg (show ¬ lg_cmp (lN (wL 4)) (12531637 : Int64) = 0 from lq 4 (by decide) 0 (by decide) (by decide)), s149 (lq 4 (by decide) 1 (by decide) (by decide)), s162 (lq 4 (by decide) 2 (by decide) (by decide))]
    unfold fX11_readsLine_j175
    rw [if_neg (show ¬ lg_cmp (lN (wL 4)) (10413527 : Int64) = 0 from lq 4 (by decide) 3 (by decide) (by decide)), if_pos (show lg_cmp (lN (wL 4)) (63030 : Int64) = 0 from ly 4 (by decide))]
    unfold fX11_readsLine_j191
    rw [if_neg (show ¬ lg_cmp (lN (wL 4)) (10413527 : Int64) = 0 from lq 4 (by decide) 3 (by decide) (by decide)), if_neg (show ¬ lg_cmp (lN (wL 4)) (10413527 : Int64) = 0 from lq 4 (by decide) 3 (by decide) (by decide))]
    obtain ⟨a, ha⟩ : ∃ a, fX11_one yT vT al yt (5 : Int32) = some a := by
      cases z : fX11_one yT vT al yt (5 : Int32) with
      | none => rw [z] at hb; cases hb
      | some a => exact ⟨a, rfl⟩
    rw [ha, bnS] at hb
    rw [ha, bnS, hb, bnS]
    dsimp only
    rw [s226 (lq 4 (by decide) 5 (by decide) (by decide)), s240 (lq 4 (by decide) 6 (by decide) (by decide)), s252 (lq 4 (by decide) 7 (by decide) (by decide))]
  · have hb : fX11_one yT vT al yt (7 : Int32) = some (yJ, vJ, aJ) := hb
    rw [if_neg (show ¬ lg_cmp (lN (wL 5)) (12531637 : Int64) = 0 from lq 5 (by decide) 0 (by decide) (by decide)), s149 (lq 5 (by decide) 1 (by decide) (by decide)), s162 (lq 5 (by decide) 2 (by decide) (by decide)), s175 (lq 5 (by decide) 3 (by decide) (by decide)) (lq 5 (by decide) 4 (by decide) (by decide))]
    unfold fX11_readsLine_j226
    rw [if_pos (show lg_cmp (lN (wL 5)) (187426886 : Int64) = 0 from ly 5 (by decide)), hb, bnS]
    dsimp only
    rw [s240 (lq 5 (by decide) 6 (by decide) (by decide)), s252 (lq 5 (by decide) 7 (by decide) (by decide))]
  · have hb : fX11_readsWish yT vT al yt = some (yJ, vJ, aJ) := hb
    rw [if_neg (show ¬ lg_cmp (lN (wL 6)) (12531637 : Int64) = 0 from lq 6 (by decide) 0 (by decide) (by decide)), s149 (lq 6 (by decide) 1 (by decide) (by decide)), s162 (lq 6 (by decide) 2 (by decide) (by decide)), s175 (lq 6 (by decide) 3 (by decide) (by decide)) (lq 6 (by decide) 4 (by decide) (by decide)), s226 (lq 6 (by decide) 5 (by decide) (by decide))]
    unfold fX11_readsLine_j240
    rw [if_pos (show lg_cmp (lN (wL 6)) (459791 : Int64) = 0 from ly 6 (by decide)), hb, bnS]
    dsimp only
    rw [s252 (lq 6 (by decide) 7 (by decide) (by decide))]
  · have hb : fX11_readsBad yT vT al yt x1 = some (yJ, vJ, aJ) := hb
    rw [if_neg (show ¬ lg_cmp (lN (wL 7)) (12531637 : Int64) = 0 from lq 7 (by decide) 0 (by decide) (by decide)), s149 (lq 7 (by decide) 1 (by decide) (by decide)), s162 (lq 7 (by decide) 2 (by decide) (by decide)), s175 (lq 7 (by decide) 3 (by decide) (by decide)) (lq 7 (by decide) 4 (by decide) (by decide)), s226 (lq 7 (by decide) 5 (by decide) (by decide)), s240 (lq 7 (by decide) 6 (by decide) (by decide))]
    unfold fX11_readsLine_j252
    rw [if_pos (show lg_cmp (lN (wL 7)) (1489 : Int64) = 0 from ly 7 (by decide)), hb, bnS]
theorem rl_start {i : Nat} (hi : i < 8) {yI al : Nat → Int32} (h24 : yI 24 = (1 : Int32)) : fX11_readsLine yI (lN (wL i)) al yt = fX11_readsLine_j124 (yI 25) (lN (wL i)) yI (lN (wL i)) al yt := by
  unfold fX11_readsLine fX11_readsLine_j21
  rw [if_pos h24, if_pos h24]
  unfold fX11_readsLine_j39
  have e : i = 0 ∨ i = 1 ∨ i = 2 ∨ i = 3 ∨ i = 4 ∨ i = 5 ∨ i = 6 ∨ i = 7 := by omega
  rcases e with e | e | e | e | e | e | e | e <;> subst e <;> exact if_neg (by decide +kernel)
/-- where no word of a line stands, the reference stops -/
theorem rl_stop {yI al : Nat → Int32} {val : Int64} {o : FO} (hf : fy yI o) (h : yI 24 = (1 : Int32) → ∀ i, i < 8 → val ≠ lN (wL i)) : fX11_readsLine yI val al yt = some (upd (upd yI 4 (1 : Int32)) 5 (yI 25), val, al) := by
  have st : ∀ (x1 : Int32) (x2 : Int64), fX11_readsLine_j124 x1 x2 (upd (upd yI 4 (1 : Int32)) 5 (yI 25)) val al yt = some (upd (upd yI 4 (1 : Int32)) 5 (yI 25), val, al) := by
    intro x1 x2
    unfold fX11_readsLine_j124
    rw [gd_n (show upd (upd yI 4 (1 : Int32)) 5 (yI 25) 4 = 1 from rfl), if_pos (show bi false = 0 from rfl)]
  unfold fX11_readsLine fX11_readsLine_j21
  by_cases c : yI 24 = (1 : Int32)
  · have h := h c
    have hn : ∀ i, i < 8 → ¬ lg_cmp val (lN (wL i)) = 0 := fun i hi z => h i hi ((lg_cmp_eq _ _).mp z)
    rw [if_pos c, if_pos c]
    unfold fX11_readsLine_j39
    rw [if_pos (by
      rw [if_neg (show ¬ lg_cmp val (12531637 : Int64) = 0 from hn 0 (by decide)), if_neg (show ¬ lg_cmp val (46486 : Int64) = 0 from hn 1 (by decide)), if_neg (show ¬ lg_cmp val (10068 : Int64) = 0 from hn 2 (by decide)), if_neg (show ¬ lg_cmp val (10413527 : Int64) = 0 from hn 3 (by decide)), if_neg (show ¬ lg_cmp val (63030 : Int64) = 0 from hn 4 (by decide)), if_neg (show ¬ lg_cmp val (187426886 : Int64) = 0 from hn 5 (by decide)), if_neg (show ¬ lg_cmp val (459791 : Int64) = 0 from hn 6 (by decide)), if_neg (show ¬ lg_cmp val (1489 : Int64) = 0 from hn 7 (by decide))]), y_stop hf, bnS, st]
  · rw [if_neg c, if_neg c, y_stop hf, bnS]
    unfold fX11_readsLine_j39
    rw [if_pos (by decide +kernel)]
    unfold fX11_fails
    rw [if_pos (show upd (upd yI 4 (1 : Int32)) 5 (yI 25) 4 = (1 : Int32) from rfl), bnS, st]
theorem tn_of {tI tA nums tJ nums2 : Nat → Int32} {i : Nat} {r : Bool} (hw : fX2_next tI sI sb = some tA) (h : (fX2_takeNumbers_l6 (nI i) sI sb (4294967293 + 3) (0 : Int32) tA nums = some (.inl (tJ, nums2)) ∧ r = true) ∨ (fX2_takeNumbers_l6 (nI i) sI sb (4294967293 + 3) (0 : Int32) tA nums = some (.inr (false, tJ, nums2)) ∧ r = false)) : fX2_takeNumbers tI nums sI sb (nI i) = some (r, tJ, nums2) := by
  unfold fX2_takeNumbers
  rw [hw, bnS, show FU = 4294967293 + 3 from rfl]
  rcases h with ⟨h, e⟩ | ⟨h, e⟩
  · rw [h, bnS, e]
  · rw [h, bnS, e]
theorem n_body (hs : srcR n vb sI sb yt) {tI yI toldI nums br bc bb al : Nat → Int32} {val : Int64} {p e i : Nat} (hi : i < 8) (ht : tokR n vb tI yI val p e 1) (h22 : yI 22 = nI n) (hp : stP tI yI toldI nums br bc bb al p) : ∃ r tJ toldJ numsJ brJ bcJ bbJ yT vT yJ val2 al2, fX2_takeLine_j16 (nI i) tI toldI nums br bc bb sI sb = fX2_takeLine_j58 (bi r) tJ toldJ numsJ brJ bcJ bbJ sI sb ∧ fX11_takes yI val yt = some (yT, vT) ∧ rlB i (nI p) yT vT al yt = some (yJ, val2, al2) ∧ goOn n vb p r tJ yJ toldJ numsJ brJ bcJ bbJ al2 val2 ∧ kpY yI yJ ∧ kpA al al2 := by
  have h1 := hs.1
  have ne : ¬ nI i = (-1 : Int32) := by
    intro z
    have := nI_pos (show i < 2 ^ 31 by omega)
    rw [z] at this
    exact absurd (show (-1 : Int32) < 0 by decide) this
  by_cases c7 : i = 7
  · subst c7
    obtain ⟨r, tJ, toldJ, brJ, bcJ, bbJ, yT, vT, yJ, val2, al2, q1, q2, q3, q4⟩ := n_bad hs ht h22 hp
    refine ⟨r, tJ, toldJ, nums, brJ, bcJ, bbJ, yT, vT, yJ, val2, al2, ?_, q2, q3, q4⟩
    unfold fX2_takeLine_j16
    rw [if_neg ne, if_neg (show ¬ nI 7 = (6 : Int32) from by decide), if_pos (show nI 7 = (7 : Int32) from rfl), q1, bnS]
  · obtain ⟨t4, y24, t5, y25, t6, y23, pe, en, -, pl, -⟩ := ht
    have pl := pl (by decide)
    obtain ⟨tA, yT, vT, p1, e1, kd1, w1, w2, w3, w4, w5, w6⟩ := t_next (val := val) hs h22 t6 y23 en
    have hpA := stP_same (p2 := p1) hp (by omega) (w5 1 (by decide)) (w5 2 (by decide)) (w6 4 (by decide)) (w6 5 (by decide))
    have k0 := kpY_t w6
    have h22A := k0.2.2.trans h22
    by_cases c6 : i = 6
    · subst c6
      obtain ⟨r, tJ, nums2, yJ, val2, al2, q1, q2, q3, q4, q5⟩ := n_wish hs w3 h22A hpA
      refine ⟨r, tJ, toldI, nums2, br, bc, bb, yT, vT, yJ, val2, al2, ?_, w2, q2, goOn_le (by omega) q3, kpY_tr k0 q4, q5⟩
      unfold fX2_takeLine_j16
      rw [if_neg ne, if_pos (show nI 6 = (6 : Int32) from rfl)]
      unfold fX2_takeWish
      rw [w1, bnS, q1, bnS]
    · have j16 : ∀ r tJ nums2, fX2_takeNumbers tI nums sI sb (nI i) = some (r, tJ, nums2) → fX2_takeLine_j16 (nI i) tI toldI nums br bc bb sI sb = fX2_takeLine_j58 (bi r) tJ toldI nums2 br bc bb sI sb := by
        intro r tJ nums2 h
        unfold fX2_takeLine_j16
        rw [if_neg ne, if_neg (show ¬ nI i = (6 : Int32) from fun z => c6 ((nI_eq (b := 6) (by omega) (by decide)).mp z)), if_neg (show ¬ nI i = (7 : Int32) from fun z => c7 ((nI_eq (b := 7) (by omega) (by decide)).mp z)), h, bnS]
      have two : ∀ k, k < 8 → (sV 4).getD i 0 = nI 2 → (sV 3).getD i 0 = nI k → (∀ yA vA aA yJ vJ aJ, fX11_one yT vT al yt (nI k) = some (yA, vA, aA) → fX11_one yA vA aA yt (nI (k + 1)) = some (yJ, vJ, aJ) → rlB i (nI p) yT vT al yt = some (yJ, vJ, aJ)) → ∃ r tJ toldJ numsJ brJ bcJ bbJ yT vT yJ val2 al2, fX2_takeLine_j16 (nI i) tI toldI nums br bc bb sI sb = fX2_takeLine_j58 (bi r) tJ toldJ numsJ brJ bcJ bbJ sI sb ∧ fX11_takes yI val yt = some (yT, vT) ∧ rlB i (nI p) yT vT al yt = some (yJ, val2, al2) ∧ goOn n vb p r tJ yJ toldJ numsJ brJ bcJ bbJ al2 val2 ∧ kpY yI yJ ∧ kpA al al2 := by
        intro k hk s4 s3 hr
        obtain ⟨r, tJ, nums2, yA, vA, aA, yJ, val2, al2, q1, q2, q2', q3, q4, q5⟩ := n_num2 hs hi s4 s3 hk w3 h22A hpA 4294967293
        exact ⟨r, tJ, toldI, nums2, br, bc, bb, yT, vT, yJ, val2, al2, j16 r tJ nums2 (tn_of w1 q1), w2, hr _ _ _ _ _ _ q2 q2', goOn_le (by omega) q3, kpY_tr k0 q4, q5⟩
      have one : ∀ k, k < 9 → (sV 4).getD i 0 = nI 1 → (sV 3).getD i 0 = nI k → (∀ yJ vJ aJ, fX11_one yT vT al yt (nI k) = some (yJ, vJ, aJ) → rlB i (nI p) yT vT al yt = some (yJ, vJ, aJ)) → ∃ r tJ toldJ numsJ brJ bcJ bbJ yT vT yJ val2 al2, fX2_takeLine_j16 (nI i) tI toldI nums br bc bb sI sb = fX2_takeLine_j58 (bi r) tJ toldJ numsJ brJ bcJ bbJ sI sb ∧ fX11_takes yI val yt = some (yT, vT) ∧ rlB i (nI p) yT vT al yt = some (yJ, val2, al2) ∧ goOn n vb p r tJ yJ toldJ numsJ brJ bcJ bbJ al2 val2 ∧ kpY yI yJ ∧ kpA al al2 := by
        intro k hk s4 s3 hr
        obtain ⟨r, tJ, nums2, yJ, val2, al2, q1, q2, q3, q4, q5⟩ := n_num1 hs hi s4 s3 hk w3 h22A hpA 4294967293
        exact ⟨r, tJ, toldI, nums2, br, bc, bb, yT, vT, yJ, val2, al2, j16 r tJ nums2 (tn_of w1 q1), w2, hr _ _ _ q2, goOn_le (by omega) q3, kpY_tr k0 q4, q5⟩
      have e : i = 0 ∨ i = 1 ∨ i = 2 ∨ i = 3 ∨ i = 4 ∨ i = 5 := by omega
      rcases e with e | e | e | e | e | e <;> subst e
      · exact one 0 (by decide) (by decide) (by decide) (fun _ _ _ h => h)
      · exact one 1 (by decide) (by decide) (by decide) (fun _ _ _ h => h)
      · exact one 2 (by decide) (by decide) (by decide) (fun _ _ _ h => h)
      · refine two 3 (by decide) (by decide) (by decide) (fun yA vA aA yJ vJ aJ h h2 => ?_)
        show (bn (fX11_one yT vT al yt (nI 3)) fun a => fX11_one a.1 a.2.1 a.2.2 yt (nI 4)) = _
        rw [h, bnS]; exact h2
      · refine two 5 (by decide) (by decide) (by decide) (fun yA vA aA yJ vJ aJ h h2 => ?_)
        show (bn (fX11_one yT vT al yt (nI 5)) fun a => fX11_one a.1 a.2.1 a.2.2 yt (nI 6)) = _
        rw [h, bnS]; exact h2
      · exact one 7 (by decide) (by decide) (by decide) (fun _ _ _ h => h)
theorem n_line (hs : srcR n vb sI sb yt) {tI yI toldI nums br bc bb al : Nat → Int32} {val : Int64} {p e kd : Nat} (ht : tokR n vb tI yI val p e kd) (h22 : yI 22 = nI n) (hp : stP tI yI toldI nums br bc bb al p) : ∃ r tJ toldJ numsJ brJ bcJ bbJ yJ val2 al2, fX2_takeLine tI toldI nums br bc bb sI sb = some (r, tJ, toldJ, numsJ, brJ, bcJ, bbJ) ∧ fX11_readsLine yI val al yt = some (yJ, val2, al2) ∧ goOn n vb p r tJ yJ toldJ numsJ brJ bcJ bbJ al2 val2 ∧ kpY yI yJ ∧ kpA al al2 := by
  have h1 := hs.1
  have hp' := hp
  obtain ⟨N, w, o, nb, R, C, B, nb2, R2, C2, B2, g1, g2, g3, g4, g5, g6, g7⟩ := hp'
  have k1 := kd1 ht
  have j0 : fX2_takeLine_j16 (-1 : Int32) tI toldI nums br bc bb sI sb = some (false, tI, toldI, nums, br, bc, bb) := if_pos rfl
  unfold fX2_takeLine
  by_cases c : kd = 1
  · have c1 := c
    subst c1
    rw [if_pos (k1.1.mpr rfl)]
    rcases t_line hs ht with ⟨q1, q2⟩ | ⟨i, q1, q2, q3⟩
    · rw [q1, bnS, j0]
      exact ⟨_, _, _, _, _, _, _, _, _, _, rfl, rl_stop g5 (fun _ => q2), .inr ⟨rfl, stpd_of h1 ht⟩, kpY_st _ _, kpA_rf _⟩
    · rw [q2, bnS]
      obtain ⟨r, tJ, toldJ, numsJ, brJ, bcJ, bbJ, yT, vT, yJ, val2, al2, b1, b2, b3, b4, b5, b6⟩ := n_body hs q1 ht h22 hp
      obtain ⟨r2, tL, yL, val3, s1, s2, s3, s4⟩ := n_semi hs (b5.2.2.trans h22) b4
      refine ⟨r2, tL, toldJ, numsJ, brJ, bcJ, bbJ, yL, val3, al2, b1.trans s1, ?_, s3, kpY_tr b5 s4, b6⟩
      have y25 : yI 25 = nI p := ht.2.2.2.1
      subst q3
      rw [rl_start q1 (k1.2.mpr rfl), y25, rl_go q1 (fy_good g5) b2 b3, s2]
  · rw [if_neg (fun z => c (k1.1.mp z)), j0]
    exact ⟨_, _, _, _, _, _, _, _, _, _, rfl, rl_stop g5 (fun z => absurd (k1.2.mp z) c), .inr ⟨rfl, stpd_of h1 ht⟩, kpY_st _ _, kpA_rf _⟩
end LINE_
