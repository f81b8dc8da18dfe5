/-! ===== wishes and bad cells of a line ===== -/
def ntI (c : Prop) [Decidable c] (o : FO) (k p : Nat) : FO := if c then o else ntF o k p
theorem ntI_none {c : Prop} [Decidable c] {o : FO} {k p : Nat} (h : ntI c o k p = none) : c ∧ o = none := by
  unfold ntI at h
  by_cases hc : c
  · rw [if_pos hc] at h; exact ⟨hc, h⟩
  · rw [if_neg hc] at h
    cases o with
    | none => cases h
    | some x => cases h
theorem ntI_some {c : Prop} [Decidable c] (x : Nat × Nat) (k p : Nat) : ntI c (some x) k p = some x := by
  unfold ntI
  by_cases hc : c
  · rw [if_pos hc]
  · rw [if_neg hc]; rfl
theorem ntI_y {c : Prop} [Decidable c] (h : c) (o : FO) (k p : Nat) : ntI c o k p = o := if_pos h
theorem ntI_n {c : Prop} [Decidable c] (h : ¬ c) (o : FO) (k p : Nat) : ntI c o k p = ntF o k p := if_neg h
theorem foB_ntI {c : Prop} [Decidable c] {o : FO} {k p q : Nat} (h : foB o p) (hq : p < q) : foB (ntI c o k p) q := by
  unfold ntI
  by_cases hc : c
  · rw [if_pos hc]; exact foB_le h (by omega)
  · rw [if_neg hc]; exact foB_le (foB_nt h) (by omega)
theorem x_ntI {tI : Nat → Int32} {o : FO} {k p : Nat} {c d : Prop} [Decidable c] [Decidable d] (h : fx tI o) (hk : 2 ≤ k) (hk2 : k ≤ 4) (hp : p ≤ 300) (hd : d ↔ c) : ∃ tJ, fx tJ (ntI c o k p) ∧ (∀ i, i ≠ 1 → i ≠ 2 → tJ i = tI i) ∧ ∀ (α : Type) (K : (Nat → Int32) → Option α), (if d then K tI else bn (fX2_note tI (nI k) (nI p)) K) = K tJ := by
  by_cases hc : c
  · exact ⟨tI, by rw [ntI_y hc]; exact h, fun _ _ _ => rfl, fun α K => if_pos (hd.mpr hc)⟩
  · obtain ⟨tJ, n1, n2, n3⟩ := x_note h hk hk2 hp
    exact ⟨tJ, by rw [ntI_n hc]; exact n2, n3, fun α K => by rw [if_neg (fun z => hc (hd.mp z)), n1, bnS]⟩
def bdF (o : FO) (v1 v2 v3 p1 p2 p3 : Nat) (u : Int32) : FO := ntI (v3 ≤ 1) (ntI (v2 ≤ 255) (ntI (u = (-1 : Int32)) (ntI (v1 ≤ 511) o 2 p1) 3 p1) 2 p2) 2 p3
theorem bdF_some (x : Nat × Nat) (v1 v2 v3 p1 p2 p3 : Nat) (u : Int32) : bdF (some x) v1 v2 v3 p1 p2 p3 u = some x := by
  unfold bdF
  rw [ntI_some, ntI_some, ntI_some, ntI_some]
theorem x_noteBad {tC toldI br bc bb : Nat → Int32} {o : FO} {v1 v2 v3 p1 p2 p3 nb : Nat} {R C B : Nat → Nat} (hf : fx tC o) (h1 : p1 ≤ 300) (h2 : p2 ≤ 300) (h3 : p3 ≤ 300) (h7 : tC 7 = nI v3) (h5 : tC 5 = nI p3) (hb : okBd nb R C B) (hx : xBd toldI br bc bb nb R C B) (l1 : v1 ≤ 999999) (l2 : v2 ≤ 999999) (l3 : v3 ≤ 999999) : ∃ u tD, isF R C nb v1 v2 u ∧ fX2_noteBad tC toldI br bc (nI v1) (nI p1) (nI v2) (nI p2) = some tD ∧ fx tD (bdF o v1 v2 v3 p1 p2 p3 u) ∧ ∀ i, i ≠ 1 → i ≠ 2 → tD i = tC i := by
  obtain ⟨u, u1, u2⟩ := x_isF hb hx (r := v1) (c := v2) (by omega) (by omega)
  obtain ⟨t1, a1, a2, a3⟩ := x_ntI (k := 2) (p := p1) (c := v1 ≤ 511) (d := nI v1 < (512 : Int32)) hf (by decide) (by decide) h1 ⟨fun z => by
    by_cases q : v1 ≤ 511
    · exact q
    · exact absurd z (nI_nlt (a := v1) (b := 512) (by omega) (by omega)), fun z => nI_lt (b := 512) (by omega) (by decide)⟩
  obtain ⟨t2, b1, b2, b3⟩ := x_ntI (k := 3) (p := p1) (c := u = (-1 : Int32)) (d := u = (-1 : Int32)) a1 (by decide) (by decide) h1 Iff.rfl
  obtain ⟨t3, c1, c2, c3⟩ := x_ntI (k := 2) (p := p2) (c := v2 ≤ 255) (d := nI v2 < (256 : Int32)) b1 (by decide) (by decide) h2 ⟨fun z => by
    by_cases q : v2 ≤ 255
    · exact q
    · exact absurd z (nI_nlt (a := v2) (b := 256) (by omega) (by omega)), fun z => nI_lt (b := 256) (by omega) (by decide)⟩
  obtain ⟨t4, d1, d2, d3⟩ := x_ntI (k := 2) (p := p3) (c := v3 ≤ 1) (d := nI v3 ≤ (1 : Int32)) c1 (by decide) (by decide) h3 ⟨fun z => by
    by_cases q : v3 ≤ 1
    · exact q
    · exact absurd z (nI_ge (a := 1) (by omega) (by omega)), fun z => nI_le (b := 1) (by omega) (by decide)⟩
  have kp : ∀ i, i ≠ 1 → i ≠ 2 → t3 i = tC i := fun i i1 i2 => by rw [c2 i i1 i2, b2 i i1 i2, a2 i i1 i2]
  refine ⟨u, t4, u2, ?_, d1, fun i i1 i2 => by rw [d2 i i1 i2, kp i i1 i2]⟩
  have e1 : fX2_noteBad tC toldI br bc (nI v1) (nI p1) (nI v2) (nI p2) = fX2_noteBad_j13 (nI v1) (nI p1) (nI v2) (nI p2) t1 toldI br bc := a3 _ (fun a => fX2_noteBad_j13 (nI v1) (nI p1) (nI v2) (nI p2) a toldI br bc)
  have e2 : fX2_noteBad_j13 (nI v1) (nI p1) (nI v2) (nI p2) t1 toldI br bc = fX2_noteBad_j32 (nI v2) (nI p2) t2 := by
    unfold fX2_noteBad_j13
    rw [u1, bnS]
    exact b3 _ (fun a => fX2_noteBad_j32 (nI v2) (nI p2) a)
  have e3 : fX2_noteBad_j32 (nI v2) (nI p2) t2 = fX2_noteBad_j46 t3 := c3 _ (fun a => fX2_noteBad_j46 a)
  have e4 : fX2_noteBad_j46 t3 = some t4 := by
    unfold fX2_noteBad_j46
    rw [kp 7 (by decide) (by decide), kp 5 (by decide) (by decide), h7, h5]
    exact d3 _ (fun a => some a)
  rw [e1, e2, e3, e4]
theorem isF_no {R C B : Nat → Nat} {nb v1 v2 : Nat} {u : Int32} (hb : okBd nb R C B) (h : isF R C nb v1 v2 u) (hv : ¬ (v1 ≤ 511 ∧ v2 ≤ 255)) : u = (-1 : Int32) := by
  rcases h with h | ⟨k, k1, k2, k3, k4, k5⟩
  · exact h.1
  · have := hb.2 k k1
    omega
/-- what the reference does once the three were read -/
def endB (r1 r2 r3 y28 : Int32) (yD : Nat → Int32) (v : Int64) (al : Nat → Int32) : Option ((Nat → Int32) × (Int64) × (Nat → Int32)) := (if (bi (fX11_isGood yD)) = 0 then some (yD, v, al) else (if r1 < 0 then some (yD, v, al) else (if 0 ≤ r2 then bn (fX11_badBy al (4211 : Int32) r1 r2) fun a10 => (if a10 = (-1 : Int32) then fX11_readsBad_j88 r1 r2 r3 yD v al else bn (fX11_fails yD (3 : Int32) y28) fun a19 => fX11_readsBad_j88 r1 r2 r3 a19 v al) else some (yD, v, al))))
def nmI (v G : Nat) : Int32 := if v ≤ G then nI v else (-1 : Int32)
theorem y_j88 {yD al : Nat → Int32} {v : Int64} {v1 v2 v3 nb : Nat} {R C B : Nat → Nat} (hb : okBd nb R C B) (hy : yBd al 4211 nb R C B) (l1 : v1 ≤ 511) (l2 : v2 ≤ 255) (l3 : v3 ≤ 999999) : ∃ al2 nb3 R3 C3 B3, fX11_readsBad_j88 (nI v1) (nI v2) (nmI v3 1) yD v al = some (yD, v, al2) ∧ okBd nb3 R3 C3 B3 ∧ yBd al2 4211 nb3 R3 C3 B3 ∧ kpA al al2 ∧ (∀ k, k < 9 → al2 (4211 + k) = al (4211 + k)) ∧ (v3 ≤ 1 → nb < 12 → nb3 = nb + 1 ∧ R3 = upN1 R nb v1 ∧ C3 = upN1 C nb v2 ∧ B3 = upN1 B nb v3) := by
  have nb12 := hb.1
  unfold fX11_readsBad_j88 nmI
  by_cases c3 : v3 ≤ 1
  · rw [if_pos c3, if_neg (nI_pos (by omega)), show al 4220 = nI nb from hy.1]
    by_cases c : nb < 12
    · rw [if_neg (show ¬ (12 : Int32) ≤ nI nb from nI_ge (b := 12) c (by decide))]
      have q := y_comes (b := 4211) hy.1 c (by decide) (nI v1) (nI v2) (nI v3)
      have q : fX11_comes al (4211 : Int32) (nI v1) (nI v2) (nI v3) = some (upd (upd (upd (upd al (4211 + 10 + 3 * nb) (nI v1)) (4211 + 10 + 3 * nb + 1) (nI v2)) (4211 + 10 + 3 * nb + 2) (nI v3)) (4211 + 9) (nI (nb + 1))) := q
      rw [q, bnS]
      exact ⟨_, nb + 1, upN1 R nb v1, upN1 C nb v2, upN1 B nb v3, rfl, okBd_add hb c (by omega) (by omega) c3, yBd_add hy, fun k hk => by rw [ux_ne (by omega), ux_ne (by omega), ux_ne (by omega), ux_ne (by omega)], fun k hk => by rw [ux_ne (by omega), ux_ne (by omega), ux_ne (by omega), ux_ne (by omega)], fun _ _ => ⟨rfl, rfl, rfl, rfl⟩⟩
    · rw [if_pos (show (12 : Int32) ≤ nI nb from nI_le (a := 12) (by omega) (by omega))]
      exact ⟨al, nb, R, C, B, rfl, hb, hy, kpA_rf _, fun _ _ => rfl, fun _ z => absurd z c⟩
  · rw [if_neg c3, if_pos (show (-1 : Int32) < 0 from by decide)]
    exact ⟨al, nb, R, C, B, rfl, hb, hy, kpA_rf _, fun _ _ => rfl, fun z => absurd z c3⟩
theorem y_endB {yD al : Nat → Int32} {v : Int64} {o : FO} {v1 v2 v3 p1 p2 p3 nb : Nat} {R C B : Nat → Nat} (hf : fy yD (ntI (v3 ≤ 1) (ntI (v2 ≤ 255) (ntI (v1 ≤ 511) o 2 p1) 2 p2) 2 p3)) (ho : foB o p1) (h12 : p1 < p2) (h23 : p2 < p3) (h3 : p3 ≤ 300) (hb : okBd nb R C B) (hy : yBd al 4211 nb R C B) (l1 : v1 ≤ 999999) (l2 : v2 ≤ 999999) (l3 : v3 ≤ 999999) : ∃ u yE al2 nb3 R3 C3 B3, isF R C nb v1 v2 u ∧ endB (nmI v1 511) (nmI v2 255) (nmI v3 1) (nI p1) yD v al = some (yE, v, al2) ∧ fy yE (bdF o v1 v2 v3 p1 p2 p3 u) ∧ (∀ i, i ≠ 4 → i ≠ 5 → yE i = yD i) ∧ okBd nb3 R3 C3 B3 ∧ yBd al2 4211 nb3 R3 C3 B3 ∧ kpA al al2 ∧ (∀ k, k < 9 → al2 (4211 + k) = al (4211 + k)) ∧ (bdF o v1 v2 v3 p1 p2 p3 u = none → nb < 12 → nb3 = nb + 1 ∧ R3 = upN1 R nb v1 ∧ C3 = upN1 C nb v2 ∧ B3 = upN1 B nb v3) := by
  obtain ⟨u, u1, u2⟩ := y_isF (b := 4211) hb (by decide) hy (r := v1) (c := v2) (by omega) (by omega)
  have u1 : fX11_badBy al (4211 : Int32) (nI v1) (nI v2) = some u := u1
  unfold endB
  rw [gd_y (fy_good hf), if_neg (show ¬ bi true = 0 from by decide)]
  by_cases cc : v1 ≤ 511 ∧ v2 ≤ 255
  · obtain ⟨c1, c2⟩ := cc
    rw [show nmI v1 511 = nI v1 from if_pos c1, show nmI v2 255 = nI v2 from if_pos c2, if_neg (nI_pos (by omega)), if_pos (show (0 : Int32) ≤ nI v2 from nI_le (a := 0) (by omega) (by omega)), u1, bnS]
    rw [ntI_y c1, ntI_y c2] at hf
    by_cases cu : u = (-1 : Int32)
    · rw [if_pos cu]
      obtain ⟨al2, nb3, R3, C3, B3, q1, q2, q3, q4, q5, q6⟩ := y_j88 (yD := yD) (v := v) (v3 := v3) hb hy c1 c2 l3
      refine ⟨u, yD, al2, nb3, R3, C3, B3, u2, q1, ?_, fun _ _ _ => rfl, q2, q3, q4, q5, fun z => q6 (ntI_none z).1⟩
      unfold bdF
      rw [ntI_y c1, ntI_y c2, ntI_y cu]
      exact hf
    · rw [if_neg cu]
      have hE : ∃ yE, fX11_fails yD (3 : Int32) (nI p1) = some yE ∧ fy yE (bdF o v1 v2 v3 p1 p2 p3 u) ∧ ∀ i, i ≠ 4 → i ≠ 5 → yE i = yD i := by
        unfold bdF
        rw [ntI_y c1, ntI_y c2, ntI_n cu]
        cases o with
        | none =>
          show ∃ yE, _ ∧ fy yE (ntI (v3 ≤ 1) (some (3, p1)) 2 p3) ∧ _
          rw [ntI_some]
          by_cases c3 : v3 ≤ 1
          · rw [ntI_y c3] at hf
            exact y_fail (k := 3) (p := p1) hf ho (by decide) (by decide) (by omega)
          · rw [ntI_n c3] at hf
            have hf : fy yD (some (2, p3)) := hf
            exact y_fail3 hf (by omega) (by omega)
        | some x =>
          show ∃ yE, _ ∧ fy yE (ntI (v3 ≤ 1) (some x) 2 p3) ∧ _
          rw [ntI_some] at hf ⊢
          exact y_fail (k := 3) (p := p1) hf ho (by decide) (by decide) (by omega)
      obtain ⟨yE, e1, e2, e3⟩ := hE
      rw [e1, bnS]
      obtain ⟨al2, nb3, R3, C3, B3, q1, q2, q3, q4, q5, q6⟩ := y_j88 (yD := yE) (v := v) (v3 := v3) hb hy c1 c2 l3
      exact ⟨u, yE, al2, nb3, R3, C3, B3, u2, q1, e2, e3, q2, q3, q4, q5, fun z => absurd (ntI_none (ntI_none (ntI_none z).2).2).1 cu⟩
  · have cu := isF_no hb u2 cc
    have eF : bdF o v1 v2 v3 p1 p2 p3 u = ntI (v3 ≤ 1) (ntI (v2 ≤ 255) (ntI (v1 ≤ 511) o 2 p1) 2 p2) 2 p3 := by unfold bdF; rw [ntI_y cu]
    refine ⟨u, yD, al, nb, R, C, B, u2, ?_, by rw [eF]; exact hf, fun _ _ _ => rfl, hb, hy, kpA_rf _, fun _ _ => rfl, fun z => ?_⟩
    · by_cases c1 : v1 ≤ 511
      · have c2 : ¬ v2 ≤ 255 := fun z => cc ⟨c1, z⟩
        rw [show nmI v1 511 = nI v1 from if_pos c1, show nmI v2 255 = (-1 : Int32) from if_neg c2, if_neg (nI_pos (by omega)), if_neg (show ¬ (0 : Int32) ≤ (-1 : Int32) from by decide)]
      · rw [show nmI v1 511 = (-1 : Int32) from if_neg c1, if_pos (show (-1 : Int32) < 0 from by decide)]
    · rw [eF] at z
      exact absurd ⟨(ntI_none (ntI_none (ntI_none z).2).2).1, (ntI_none (ntI_none z).2).1⟩ cc
section BADS_
variable {n : Nat} {vb : Nat → Nat} {sI sb yt : Nat → Int32}
theorem iw_y {yI : Nat → Int32} {val W : Int64} (hg : ¬ yI 4 = (1 : Int32)) (h24 : yI 24 = (1 : Int32)) (h : val = W) : fX11_isWord yI val W = true := by
  unfold fX11_isWord
  rw [gd_y hg, if_neg (show ¬ bi true = 0 from by decide), if_pos h24, if_pos ((lg_cmp_eq _ _).mpr h)]
theorem iw_n {yI : Nat → Int32} {val W : Int64} (hg : ¬ yI 4 = (1 : Int32)) (h : ¬ yI 24 = (1 : Int32) ∨ val ≠ W) : fX11_isWord yI val W = false := by
  unfold fX11_isWord
  rw [gd_y hg, if_neg (show ¬ bi true = 0 from by decide)]
  by_cases c : yI 24 = (1 : Int32)
  · rw [if_pos c, if_neg (fun z => h.elim (fun y => y c) (fun y => y ((lg_cmp_eq _ _).mp z)))]
  · rw [if_neg c]
theorem kd1 {tI yI : Nat → Int32} {val : Int64} {p e kd : Nat} (ht : tokR n vb tI yI val p e kd) : (tI 4 = (1 : Int32) ↔ kd = 1) ∧ (yI 24 = (1 : Int32) ↔ kd = 1) := by
  obtain ⟨t4, y24, t5, y25, t6, y23, pe, en, k4, -⟩ := ht
  rw [t4, y24]
  exact ⟨nI_eq (b := 1) (by omega) (by decide), nI_eq (b := 1) (by omega) (by decide)⟩
theorem n_wish (hs : srcR n vb sI sb yt) {tI yI toldI nums br bc bb al : Nat → Int32} {val : Int64} {p e kd : Nat} (ht : tokR n vb tI yI val p e kd) (h22 : yI 22 = nI n) (hp : stP tI yI toldI nums br bc bb al p) : ∃ r tJ nums2 yJ val2 al2, (if (tI 4) = (1 : Int32) then bn (fX2_wishTold tI sI sb) fun a9 => fX2_takeWish_j20 a9 tI nums sI sb else fX2_takeWish_j20 (-1 : Int32) tI nums sI sb) = some (r, tJ, nums2) ∧ fX11_readsWish yI val al yt = some (yJ, val2, al2) ∧ goOn n vb p r tJ yJ toldI nums2 br bc bb al2 val2 ∧ kpY yI yJ ∧ kpA al al2 := by
  have h1 := hs.1
  obtain ⟨N, w, o, nb, R, C, B, nb2, R2, C2, B2, g1, g2, g3, g4, g5, g6, g7, g8, g9, g10, g11⟩ := hp
  have hg := fy_good g5
  have k1 := kd1 ht
  have no : (∀ i, i < 3 → ¬ yI 24 = (1 : Int32) ∨ val ≠ lN (wW i)) → fX11_readsWish yI val al yt = some (upd (upd yI 4 (1 : Int32)) 5 (yI 25), val, al) := by
    intro h
    unfold fX11_readsWish
    rw [show fX11_isWord yI val (32941 : Int64) = false from iw_n hg (h 0 (by decide)), if_pos (show bi false = 0 from rfl), show fX11_isWord yI val (400577 : Int64) = false from iw_n hg (h 1 (by decide)), if_pos (show bi false = 0 from rfl), show fX11_isWord yI val (282078293 : Int64) = false from iw_n hg (h 2 (by decide)), if_pos (show bi false = 0 from rfl)]
    unfold fX11_readsWish_j43 fX11_readsWish_j58
    rw [if_pos rfl, y_stop g5, bnS, gd_n (show upd (upd yI 4 (1 : Int32)) 5 (yI 25) 4 = 1 from rfl), if_pos (show bi false = 0 from rfl)]
  have j0 : fX2_takeWish_j20 (-1 : Int32) tI nums sI sb = some (false, tI, nums) := if_pos rfl
  by_cases c : kd = 1
  · have c1 := c
    subst c1
    rw [if_pos (k1.1.mpr rfl)]
    rcases t_wish hs ht with ⟨q1, q2⟩ | ⟨i, q1, q2, q3⟩
    · rw [q1, bnS, j0]
      exact ⟨_, _, _, _, _, _, rfl, no (fun i hi => .inr (q2 i hi)), .inr ⟨rfl, stpd_of h1 ht⟩, kpY_st _ _, kpA_rf _⟩
    · rw [q2, bnS]
      have ht' := ht
      obtain ⟨t4, y24, t5, y25, t6, y23, pe, en, -, pl, -⟩ := ht'
      have pl := pl (by decide)
      obtain ⟨tJ, yJ, val2, p2, e2, kd3, w1, w2, w3, w4, w5, w6⟩ := t_next (val := val) hs h22 t6 y23 en
      have ne : ¬ nI i = (-1 : Int32) := by
        intro z
        have := nI_pos (show i < 2 ^ 31 by omega)
        rw [z] at this
        exact absurd (show (-1 : Int32) < 0 by decide) this
      have e58 : fX11_readsWish_j43 (nI i) yI val al yt = some (yJ, val2, upd al 4219 (nI i)) := by
        unfold fX11_readsWish_j43 fX11_readsWish_j58
        rw [if_neg ne, gd_y hg, if_neg (show ¬ bi true = 0 from by decide), w2, bnS]
      have yes : fX11_readsWish yI val al yt = some (yJ, val2, upd al 4219 (nI i)) := by
        rw [← e58]
        have y1 := k1.2.mpr rfl
        unfold fX11_readsWish
        have e : i = 0 ∨ i = 1 ∨ i = 2 := by omega
        rcases e with e | e | e <;> subst e
        · rw [show fX11_isWord yI val (32941 : Int64) = true from iw_y hg y1 q3, if_neg (show ¬ bi true = 0 from by decide)]
          rfl
        · rw [show fX11_isWord yI val (32941 : Int64) = false from iw_n hg (.inr (by rw [q3]; decide)), if_pos (show bi false = 0 from rfl), show fX11_isWord yI val (400577 : Int64) = true from iw_y hg y1 q3, if_neg (show ¬ bi true = 0 from by decide)]
          rfl
        · rw [show fX11_isWord yI val (32941 : Int64) = false from iw_n hg (.inr (by rw [q3]; decide)), if_pos (show bi false = 0 from rfl), show fX11_isWord yI val (400577 : Int64) = false from iw_n hg (.inr (by rw [q3]; decide)), if_pos (show bi false = 0 from rfl), show fX11_isWord yI val (282078293 : Int64) = true from iw_y hg y1 q3, if_neg (show ¬ bi true = 0 from by decide)]
          rfl
      obtain ⟨w9, ok2⟩ := okN_up g1 (show 8 < 9 by decide) (show okV 8 i from (by show i ≤ 2; omega))
      refine ⟨true, tJ, upd nums 8 (nI i), yJ, val2, _, ?_, yes, .inl ⟨rfl, p2, e2, kd3, by omega, w3, ⟨upN1 N 8 i, w9, o, nb, R, C, B, nb2, R2, C2, B2, ok2, fun j hj => ?_, fun j hj => ?_, fx_same g4 (w5 1 (by decide)) (w5 2 (by decide)), fy_same g5 (w6 4 (by decide)) (w6 5 (by decide)), foB_le g6 (by omega), g7, g8, g9, ?_, g11⟩⟩, kpY_t w6, fun j hj => by rw [ux_ne (by omega)]⟩
      · unfold fX2_takeWish_j20
        rw [if_neg ne, w1, bnS]
      · by_cases ej : j = 8
        · subst ej; rw [ux_at]; unfold upN1; rw [if_pos rfl]
        · rw [ux_ne ej, g2 j hj]; unfold upN1; rw [if_neg ej]
      · by_cases ej : j = 8
        · subst ej; rw [ux_at]; unfold upN1; rw [if_pos rfl]
        · rw [ux_ne (by omega), g3 j hj]; unfold upN1; rw [if_neg ej]
      · exact ⟨by rw [ux_ne (by omega)]; exact g10.1, fun j hj => by rw [ux_ne (by omega), ux_ne (by omega), ux_ne (by omega)]; exact g10.2 j hj⟩
  · rw [if_neg (fun z => c (k1.1.mp z)), j0]
    exact ⟨_, _, _, _, _, _, rfl, no (fun i hi => .inl (fun z => c (k1.2.mp z))), .inr ⟨rfl, stpd_of h1 ht⟩, kpY_st _ _, kpA_rf _⟩
end BADS_
