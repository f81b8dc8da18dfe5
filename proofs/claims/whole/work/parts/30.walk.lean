def fX9_offset (tI : Nat → Int32) (p0 : Int32) : Int32 :=
  (p0 &&& ((tI 1) - (1 : Int32)))
set_option maxRecDepth 100000 in
set_option maxHeartbeats 4000000 in
theorem tX9_offset (l : Launch) (G : gG) (ad_t ad_t_repair : Nat) (tI : Nat → Int32) (p0 : Int32) (o : Int32) (hf : fX9_offset tI p0 = o) : mP G l yX9_offset cX9_offset 2 (some .int) 0 0 [.ref ad_t, .int p0] [(ad_t, .inr (9, [.ref ad_t_repair, .int (tI 1), .int (tI 2), .int (tI 3), .int (tI 4)]))] (some (.int o)) := by
  refine mP_of (by decide) (Nat.le_of_ble_eq_true rfl) ?_
  intro p e s m below meth cd ls hx hb hml hown hts hr hlocks hl hP hG
  have hK := hG.1
  have hown : s.vm.findClass RX9 = some m.cls := hown
  have hl : lv_has ls 2 [(0, .ref ad_t), (1, .int p0)] := hl
  have hS : va_S no s.heap s.heap [] := va_S.rf
  generalize ([] : List Loc) = locs at hS ⊢
  unfold fX9_offset at hf
  show wG p l e 0 0 s m [.ref ad_t, .int p0] below meth cd s.heap locs (pQ (some (.int o))) no (F0 m 0 ls [])
  refine lv_iload_n hx hb dX9_offset_0 rfl (lv_at hl 1 rfl) ?_
  refine lv_aload_n hx hb dX9_offset_1 rfl (lv_at hl 0 rfl) ?_
  refine va_get (D := G.1) (cl := vwCl) (ci := 9) (v := .int (tI 1)) (C := RX9) (T := TX9) (N := 5) hx hb hts inG9 hown hK hP 0 rfl rfl 1 (Nat.le_of_ble_eq_true rfl) (hts _ q321) (fun _ h9 => h9) rfl dX9_offset_2 ?_
  refine lv_iconst (v := 1) hx hb dX9_offset_5 (by decide) ?_
  refine lv_isub hx hb dX9_offset_6 ?_
  refine lv_iand hx hb dX9_offset_7 ?_
  subst hf
  exact pRet hx hb hr hlocks hS dX9_offset_8

def fX9_rowPlace_l2 (x1 : Int32) (tI : Nat → Int32) (t_repairI : Nat → Int32) (t_repair_rows : Nat → Int32) : Nat → Int32 → Option ((Unit) ⊕ (Int32))
  | 0, _ => none
  | n + 1, x2 =>
    (if (t_repairI 2) ≤ x2 then some (.inl ()) else gd (gi x2 4) ((if (t_repair_rows x2.toNatClampNeg) = x1 then some (.inr ((tI 3) + x2)) else fX9_rowPlace_l2 x1 tI t_repairI t_repair_rows n (x2 + (1 : Int32)))))
def fX9_rowPlace (tI : Nat → Int32) (t_repairI : Nat → Int32) (t_repair_rows : Nat → Int32) (p0 : Int32) : Option (Int32) :=
  (bn (fX9_rowPlace_l2 p0 tI t_repairI t_repair_rows FU (0 : Int32)) fun y4 => match y4 with | .inl y4z => some p0 | .inr y4o => some y4o)
set_option maxRecDepth 100000 in
set_option maxHeartbeats 4000000 in
theorem tX9_rowPlace (l : Launch) (G : gG) (ad_t ad_t_repair ad_t_repair_rows ad_t_repair_columns ad_t_repair_candidates ad_t_repair_left : Nat) (tI : Nat → Int32) (t_repairI : Nat → Int32) (t_repair_rows : Nat → Int32) (p0 : Int32) (o : Int32) (hf : fX9_rowPlace tI t_repairI t_repair_rows p0 = some o) : mP G l yX9_rowPlace cX9_rowPlace 3 (some .int) 0 0 [.ref ad_t, .int p0] [(ad_t, .inr (9, [.ref ad_t_repair, .int (tI 1), .int (tI 2), .int (tI 3), .int (tI 4)])), (ad_t_repair, .inr (3, [.ref ad_t_repair_rows, .ref ad_t_repair_columns, .int (t_repairI 2), .int (t_repairI 3), .int (t_repairI 4), .int (t_repairI 5), .ref ad_t_repair_candidates, .ref ad_t_repair_left, .int (t_repairI 8)])), (ad_t_repair_rows, .inl (G.2.1 0, 4, .inl t_repair_rows))] (some (.int o)) := by
  refine mP_of (by decide) (Nat.le_of_ble_eq_true rfl) ?_
  intro p e s m below meth cd ls hx hb hml hown hts hr hlocks hl hP hG
  have hK := hG.1
  have hown : s.vm.findClass RX9 = some m.cls := hown
  have hl : lv_has ls 3 [(0, .ref ad_t), (1, .int p0)] := hl
  have hS : va_S no s.heap s.heap [] := va_S.rf
  generalize ([] : List Loc) = locs at hS ⊢
  unfold fX9_rowPlace at hf
  show wG p l e 0 0 s m [.ref ad_t, .int p0] below meth cd s.heap locs (pQ (some (.int o))) no (F0 m 0 ls [])
  refine lv_iconst (v := 0) hx hb dX9_rowPlace_0 (by decide) ?_
  refine lv_istore_n (lv' := [(2, .int (0 : Int32)), (0, .ref ad_t), (1, .int p0)]) hx hb dX9_rowPlace_1 rfl hl (by decide) rfl (fun ls hl => ?_)
  obtain ⟨y5, hLy5, hky5⟩ := bn_some hf
  have Ey5 : ∀ y5z, y5 = .inl y5z → ∀  (locs : List Loc) (ls : Array Slot), lv_has ls 3 [(1, .int p0)] → va_S no s.heap s.heap locs → wG p l e 0 0 s m [.ref ad_t, .int p0] below meth cd s.heap locs (pQ (some (.int o))) no (F0 m 39 ls []) := by
    intro y5z ez
    intro  locs ls hl hS
    subst ez
    have hf := hky5
    (try dsimp only at hf)
    refine lv_iload_n hx hb dX9_rowPlace_39 rfl (lv_at hl 0 rfl) ?_
    have hf := Option.some.inj hf
    subst hf
    exact pRet hx hb hr hlocks hS dX9_rowPlace_40
  have Ly5 : ∀ (n : Nat), ∀ (x6 : Int32) (locs : List Loc) (ls : Array Slot), lv_has ls 3 [(2, .int x6), (0, .ref ad_t), (1, .int p0)] → va_S no s.heap s.heap locs → fX9_rowPlace_l2 p0 tI t_repairI t_repair_rows n x6 = some y5 → wG p l e 0 0 s m [.ref ad_t, .int p0] below meth cd s.heap locs (pQ (some (.int o))) no (F0 m 2 ls []) := by
    intro n
    induction n with
    | zero =>
      intro x6 locs ls hl hS hf
      rw [fX9_rowPlace_l2] at hf
      cases hf
    | succ n ih =>
      intro x6 locs ls hl hS hf
      rw [fX9_rowPlace_l2] at hf
      refine lv_iload_n hx hb dX9_rowPlace_2 rfl (lv_at hl 0 rfl) ?_
      refine lv_aload_n hx hb dX9_rowPlace_3 rfl (lv_at hl 1 rfl) ?_
      refine va_get (D := G.1) (cl := vwCl) (ci := 9) (v := .ref ad_t_repair) (C := RX9) (T := TX9) (N := 5) hx hb hts inG9 hown hK hP 0 rfl rfl 0 (Nat.le_of_ble_eq_true rfl) (hts _ q319) (fun _ h9 => h9) rfl dX9_rowPlace_4 ?_
      refine va_get (D := G.1) (cl := vwCl) (ci := 3) (v := .int (t_repairI 2)) (C := RX3) (T := TX3) (N := 9) hx hb hts inG3 hown hK hP 1 rfl rfl 2 (Nat.le_of_ble_eq_true rfl) (hts _ q286) (fun _ h9 => h9) rfl dX9_rowPlace_7 ?_
      refine lv_icmp_ge (tgt := 39) hx hb dX9_rowPlace_10 (by decide) (fun c7 => ?_) (fun c7 => ?_)
      · have hf := if_t hf c7
        have hf := Option.some.inj hf
        subst hf
        exact Ey5 _ rfl locs ls (lv_sub hl [2] rfl) hS 
      · have hf := if_f hf c7
        refine lv_aload_n hx hb dX9_rowPlace_13 rfl (lv_at hl 1 rfl) ?_
        refine va_get (D := G.1) (cl := vwCl) (ci := 9) (v := .ref ad_t_repair) (C := RX9) (T := TX9) (N := 5) hx hb hts inG9 hown hK hP 0 rfl rfl 0 (Nat.le_of_ble_eq_true rfl) (hts _ q319) (fun _ h9 => h9) rfl dX9_rowPlace_14 ?_
        refine va_get (D := G.1) (cl := vwCl) (ci := 3) (v := .ref ad_t_repair_rows) (C := RX3) (T := TX3) (N := 9) hx hb hts inG3 hown hK hP 1 rfl rfl 0 (Nat.le_of_ble_eq_true rfl) (hts _ q279) (fun _ h9 => h9) rfl dX9_rowPlace_17 ?_
        refine lv_iload_n hx hb dX9_rowPlace_20 rfl (lv_at hl 0 rfl) ?_
        obtain ⟨h8, hf⟩ := gd_some hf
        refine va_iald (D := G.1) (cl := vwCl) hx hb hK hP 2 0 rfl rfl (gi_in h8) dX9_rowPlace_21 ?_
        refine lv_iload_n hx hb dX9_rowPlace_22 rfl (lv_at hl 2 rfl) ?_
        refine lv_icmp_ne (tgt := 33) hx hb dX9_rowPlace_23 (by decide) (fun c9 => ?_) (fun c9 => ?_)
        · have hf := if_f hf c9
          refine lv_iinc (v := (x6 + (1 : Int32))) (lv' := [(2, .int (x6 + (1 : Int32))), (0, .ref ad_t), (1, .int p0)]) hx hb dX9_rowPlace_33 hl (k := 0) rfl (ii_1 _) (by decide) rfl (fun ls hl => ?_)
          refine lv_goto (tgt := 2) hx hb dX9_rowPlace_36 (by decide) ?_
          exact ih (x6 + (1 : Int32)) locs ls (lv_sub hl [0, 1, 2] rfl) hS hf
        · have hf := if_t hf c9
          refine lv_aload_n hx hb dX9_rowPlace_26 rfl (lv_at hl 1 rfl) ?_
          refine va_get (D := G.1) (cl := vwCl) (ci := 9) (v := .int (tI 3)) (C := RX9) (T := TX9) (N := 5) hx hb hts inG9 hown hK hP 0 rfl rfl 3 (Nat.le_of_ble_eq_true rfl) (hts _ q324) (fun _ h9 => h9) rfl dX9_rowPlace_27 ?_
          refine lv_iload_n hx hb dX9_rowPlace_30 rfl (lv_at hl 0 rfl) ?_
          refine lv_iadd hx hb dX9_rowPlace_31 ?_
          have hf := Option.some.inj hf
          subst hf
          have hf := hky5
          (try dsimp only at hf)
          have hf := Option.some.inj hf
          subst hf
          exact pRet hx hb hr hlocks hS dX9_rowPlace_32
  exact Ly5 FU (0 : Int32) locs ls (lv_sub hl [0, 1, 2] rfl) hS hLy5

def fX9_columnPlace_l2 (x1 : Int32) (tI : Nat → Int32) (t_repairI : Nat → Int32) (t_repair_columns : Nat → Int32) : Nat → Int32 → Option ((Unit) ⊕ (Int32))
  | 0, _ => none
  | n + 1, x2 =>
    (if (t_repairI 3) ≤ x2 then some (.inl ()) else gd (gi x2 2) ((if (t_repair_columns x2.toNatClampNeg) = x1 then some (.inr ((tI 4) + x2)) else fX9_columnPlace_l2 x1 tI t_repairI t_repair_columns n (x2 + (1 : Int32)))))
def fX9_columnPlace (tI : Nat → Int32) (t_repairI : Nat → Int32) (t_repair_columns : Nat → Int32) (p0 : Int32) : Option (Int32) :=
  (bn (fX9_columnPlace_l2 p0 tI t_repairI t_repair_columns FU (0 : Int32)) fun y4 => match y4 with | .inl y4z => some p0 | .inr y4o => some y4o)
set_option maxRecDepth 100000 in
set_option maxHeartbeats 4000000 in
theorem tX9_columnPlace (l : Launch) (G : gG) (ad_t ad_t_repair ad_t_repair_rows ad_t_repair_columns ad_t_repair_candidates ad_t_repair_left : Nat) (tI : Nat → Int32) (t_repairI : Nat → Int32) (t_repair_columns : Nat → Int32) (p0 : Int32) (o : Int32) (hf : fX9_columnPlace tI t_repairI t_repair_columns p0 = some o) : mP G l yX9_columnPlace cX9_columnPlace 3 (some .int) 0 0 [.ref ad_t, .int p0] [(ad_t, .inr (9, [.ref ad_t_repair, .int (tI 1), .int (tI 2), .int (tI 3), .int (tI 4)])), (ad_t_repair, .inr (3, [.ref ad_t_repair_rows, .ref ad_t_repair_columns, .int (t_repairI 2), .int (t_repairI 3), .int (t_repairI 4), .int (t_repairI 5), .ref ad_t_repair_candidates, .ref ad_t_repair_left, .int (t_repairI 8)])), (ad_t_repair_columns, .inl (G.2.1 0, 2, .inl t_repair_columns))] (some (.int o)) := by
  refine mP_of (by decide) (Nat.le_of_ble_eq_true rfl) ?_
  intro p e s m below meth cd ls hx hb hml hown hts hr hlocks hl hP hG
  have hK := hG.1
  have hown : s.vm.findClass RX9 = some m.cls := hown
  have hl : lv_has ls 3 [(0, .ref ad_t), (1, .int p0)] := hl
  have hS : va_S no s.heap s.heap [] := va_S.rf
  generalize ([] : List Loc) = locs at hS ⊢
  unfold fX9_columnPlace at hf
  show wG p l e 0 0 s m [.ref ad_t, .int p0] below meth cd s.heap locs (pQ (some (.int o))) no (F0 m 0 ls [])
  refine lv_iconst (v := 0) hx hb dX9_columnPlace_0 (by decide) ?_
  refine lv_istore_n (lv' := [(2, .int (0 : Int32)), (0, .ref ad_t), (1, .int p0)]) hx hb dX9_columnPlace_1 rfl hl (by decide) rfl (fun ls hl => ?_)
  obtain ⟨y5, hLy5, hky5⟩ := bn_some hf
  have Ey5 : ∀ y5z, y5 = .inl y5z → ∀  (locs : List Loc) (ls : Array Slot), lv_has ls 3 [(1, .int p0)] → va_S no s.heap s.heap locs → wG p l e 0 0 s m [.ref ad_t, .int p0] below meth cd s.heap locs (pQ (some (.int o))) no (F0 m 39 ls []) := by
    intro y5z ez
    intro  locs ls hl hS
    subst ez
    have hf := hky5
    (try dsimp only at hf)
    refine lv_iload_n hx hb dX9_columnPlace_39 rfl (lv_at hl 0 rfl) ?_
    have hf := Option.some.inj hf
    subst hf
    exact pRet hx hb hr hlocks hS dX9_columnPlace_40
  have Ly5 : ∀ (n : Nat), ∀ (x6 : Int32) (locs : List Loc) (ls : Array Slot), lv_has ls 3 [(2, .int x6), (0, .ref ad_t), (1, .int p0)] → va_S no s.heap s.heap locs → fX9_columnPlace_l2 p0 tI t_repairI t_repair_columns n x6 = some y5 → wG p l e 0 0 s m [.ref ad_t, .int p0] below meth cd s.heap locs (pQ (some (.int o))) no (F0 m 2 ls []) := by
    intro n
    induction n with
    | zero =>
      intro x6 locs ls hl hS hf
      rw [fX9_columnPlace_l2] at hf
      cases hf
    | succ n ih =>
      intro x6 locs ls hl hS hf
      rw [fX9_columnPlace_l2] at hf
      refine lv_iload_n hx hb dX9_columnPlace_2 rfl (lv_at hl 0 rfl) ?_
      refine lv_aload_n hx hb dX9_columnPlace_3 rfl (lv_at hl 1 rfl) ?_
      refine va_get (D := G.1) (cl := vwCl) (ci := 9) (v := .ref ad_t_repair) (C := RX9) (T := TX9) (N := 5) hx hb hts inG9 hown hK hP 0 rfl rfl 0 (Nat.le_of_ble_eq_true rfl) (hts _ q319) (fun _ h9 => h9) rfl dX9_columnPlace_4 ?_
      refine va_get (D := G.1) (cl := vwCl) (ci := 3) (v := .int (t_repairI 3)) (C := RX3) (T := TX3) (N := 9) hx hb hts inG3 hown hK hP 1 rfl rfl 3 (Nat.le_of_ble_eq_true rfl) (hts _ q290) (fun _ h9 => h9) rfl dX9_columnPlace_7 ?_
      refine lv_icmp_ge (tgt := 39) hx hb dX9_columnPlace_10 (by decide) (fun c7 => ?_) (fun c7 => ?_)
      · have hf := if_t hf c7
        have hf := Option.some.inj hf
        subst hf
        exact Ey5 _ rfl locs ls (lv_sub hl [2] rfl) hS 
      · have hf := if_f hf c7
        refine lv_aload_n hx hb dX9_columnPlace_13 rfl (lv_at hl 1 rfl) ?_
        refine va_get (D := G.1) (cl := vwCl) (ci := 9) (v := .ref ad_t_repair) (C := RX9) (T := TX9) (N := 5) hx hb hts inG9 hown hK hP 0 rfl rfl 0 (Nat.le_of_ble_eq_true rfl) (hts _ q319) (fun _ h9 => h9) rfl dX9_columnPlace_14 ?_
        refine va_get (D := G.1) (cl := vwCl) (ci := 3) (v := .ref ad_t_repair_columns) (C := RX3) (T := TX3) (N := 9) hx hb hts inG3 hown hK hP 1 rfl rfl 1 (Nat.le_of_ble_eq_true rfl) (hts _ q282) (fun _ h9 => h9) rfl dX9_columnPlace_17 ?_
        refine lv_iload_n hx hb dX9_columnPlace_20 rfl (lv_at hl 0 rfl) ?_
        obtain ⟨h8, hf⟩ := gd_some hf
        refine va_iald (D := G.1) (cl := vwCl) hx hb hK hP 2 0 rfl rfl (gi_in h8) dX9_columnPlace_21 ?_
        refine lv_iload_n hx hb dX9_columnPlace_22 rfl (lv_at hl 2 rfl) ?_
        refine lv_icmp_ne (tgt := 33) hx hb dX9_columnPlace_23 (by decide) (fun c9 => ?_) (fun c9 => ?_)
        · have hf := if_f hf c9
          refine lv_iinc (v := (x6 + (1 : Int32))) (lv' := [(2, .int (x6 + (1 : Int32))), (0, .ref ad_t), (1, .int p0)]) hx hb dX9_columnPlace_33 hl (k := 0) rfl (ii_1 _) (by decide) rfl (fun ls hl => ?_)
          refine lv_goto (tgt := 2) hx hb dX9_columnPlace_36 (by decide) ?_
          exact ih (x6 + (1 : Int32)) locs ls (lv_sub hl [0, 1, 2] rfl) hS hf
        · have hf := if_t hf c9
          refine lv_aload_n hx hb dX9_columnPlace_26 rfl (lv_at hl 1 rfl) ?_
          refine va_get (D := G.1) (cl := vwCl) (ci := 9) (v := .int (tI 4)) (C := RX9) (T := TX9) (N := 5) hx hb hts inG9 hown hK hP 0 rfl rfl 4 (Nat.le_of_ble_eq_true rfl) (hts _ q326) (fun _ h9 => h9) rfl dX9_columnPlace_27 ?_
          refine lv_iload_n hx hb dX9_columnPlace_30 rfl (lv_at hl 0 rfl) ?_
          refine lv_iadd hx hb dX9_columnPlace_31 ?_
          have hf := Option.some.inj hf
          subst hf
          have hf := hky5
          (try dsimp only at hf)
          have hf := Option.some.inj hf
          subst hf
          exact pRet hx hb hr hlocks hS dX9_columnPlace_32
  exact Ly5 FU (0 : Int32) locs ls (lv_sub hl [0, 1, 2] rfl) hS hLy5

def fX9_withStuck_l6 (x2 : Int32) (tI : Nat → Int32) (p0I : Nat → Int32) (p0_badRows : Nat → Int32) (p0_badColumns : Nat → Int32) (p0_badBits : Nat → Int32) : Nat → Int32 → Int32 → Option (Int32)
  | 0, _, _ => none
  | n + 1, x4, x5 =>
    (if (p0I 4) ≤ x5 then some x4 else gd (gi x5 12) (gd (gi x5 12) ((if (p0_badRows x5.toNatClampNeg) = (fX9_rowOf tI x2) then (if (fX9_offset tI (p0_badColumns x5.toNatClampNeg)) = (fX9_offset tI x2) then gd (gi x5 12) (fX9_withStuck_l6 x2 tI p0I p0_badRows p0_badColumns p0_badBits n (fX0_withBit x4 ((p0_badColumns x5.toNatClampNeg) >>> ((tI 2) &&& 31)) (p0_badBits x5.toNatClampNeg)) (x5 + (1 : Int32))) else fX9_withStuck_l6 x2 tI p0I p0_badRows p0_badColumns p0_badBits n x4 (x5 + (1 : Int32))) else fX9_withStuck_l6 x2 tI p0I p0_badRows p0_badColumns p0_badBits n x4 (x5 + (1 : Int32))))))
def fX9_withStuck (tI : Nat → Int32) (p0I : Nat → Int32) (p0_badRows : Nat → Int32) (p0_badColumns : Nat → Int32) (p0_badBits : Nat → Int32) (p1 : Int32) (p2 : Int32) : Option (Int32) :=
  bn (fX9_withStuck_l6 p1 tI p0I p0_badRows p0_badColumns p0_badBits FU p2 (0 : Int32)) fun y7 => some y7
set_option maxRecDepth 100000 in
set_option maxHeartbeats 4000000 in
theorem tX9_withStuck (l : Launch) (G : gG) (ad_t ad_t_repair ad_p0 ad_p0_numbers ad_p0_badRows ad_p0_badColumns ad_p0_badBits : Nat) (tI : Nat → Int32) (p0I : Nat → Int32) (p0_badRows : Nat → Int32) (p0_badColumns : Nat → Int32) (p0_badBits : Nat → Int32) (p1 : Int32) (p2 : Int32) (o : Int32) (hf : fX9_withStuck tI p0I p0_badRows p0_badColumns p0_badBits p1 p2 = some o) : mP G l yX9_withStuck cX9_withStuck 7 (some .int) 1 22 [.ref ad_t, .ref ad_p0, .int p1, .int p2] [(ad_t, .inr (9, [.ref ad_t_repair, .int (tI 1), .int (tI 2), .int (tI 3), .int (tI 4)])), (ad_p0, .inr (5, [.ref ad_p0_numbers, .ref ad_p0_badRows, .ref ad_p0_badColumns, .ref ad_p0_badBits, .int (p0I 4)])), (ad_p0_badRows, .inl (G.2.1 0, 12, .inl p0_badRows)), (ad_p0_badColumns, .inl (G.2.1 0, 12, .inl p0_badColumns)), (ad_p0_badBits, .inl (G.2.1 0, 12, .inl p0_badBits))] (some (.int o)) := by
  refine mP_of (by decide) (Nat.le_of_ble_eq_true rfl) ?_
  intro p e s m below meth cd ls hx hb hml hown hts hr hlocks hl hP hG
  have hK := hG.1
  have hown : s.vm.findClass RX9 = some m.cls := hown
  have hl : lv_has ls 7 [(0, .ref ad_t), (1, .ref ad_p0), (2, .int p1), (3, .int p2)] := hl
  have hS : va_S no s.heap s.heap [] := va_S.rf
  generalize ([] : List Loc) = locs at hS ⊢
  unfold fX9_withStuck at hf
  show wG p l e 1 22 s m [.ref ad_t, .ref ad_p0, .int p1, .int p2] below meth cd s.heap locs (pQ (some (.int o))) no (F0 m 0 ls [])
  refine lv_iload_n hx hb dX9_withStuck_0 rfl (lv_at hl 3 rfl) ?_
  refine lv_istore (lv' := [(4, .int p2), (0, .ref ad_t), (1, .ref ad_p0), (2, .int p1), (3, .int p2)]) hx hb dX9_withStuck_1 hl (by decide) rfl (fun ls hl => ?_)
  refine lv_iconst (v := 0) hx hb dX9_withStuck_3 (by decide) ?_
  refine lv_istore (lv' := [(5, .int (0 : Int32)), (4, .int p2), (0, .ref ad_t), (1, .ref ad_p0), (2, .int p1), (3, .int p2)]) hx hb dX9_withStuck_4 hl (by decide) rfl (fun ls hl => ?_)
  obtain ⟨y8, hLy8, hky8⟩ := bn_some hf
  have Ey8 : ∀  (locs : List Loc) (ls : Array Slot), lv_has ls 7 [(4, .int y8)] → va_S no s.heap s.heap locs → wG p l e 1 22 s m [.ref ad_t, .ref ad_p0, .int p1, .int p2] below meth cd s.heap locs (pQ (some (.int o))) no (F0 m 80 ls []) := by
    intro  locs ls hl hS
    have hf := hky8
    refine lv_iload hx hb dX9_withStuck_80 (lv_at hl 0 rfl) ?_
    have hf := Option.some.inj hf
    subst hf
    exact pRet hx hb hr hlocks hS dX9_withStuck_82
  have Ly8 : ∀ (n : Nat), ∀ (x9 : Int32) (x10 : Int32) (locs : List Loc) (ls : Array Slot), lv_has ls 7 [(5, .int x10), (4, .int x9), (0, .ref ad_t), (1, .ref ad_p0), (2, .int p1)] → va_S no s.heap s.heap locs → fX9_withStuck_l6 p1 tI p0I p0_badRows p0_badColumns p0_badBits n x9 x10 = some y8 → wG p l e 1 22 s m [.ref ad_t, .ref ad_p0, .int p1, .int p2] below meth cd s.heap locs (pQ (some (.int o))) no (F0 m 6 ls []) := by
    intro n
    induction n with
    | zero =>
      intro x9 x10 locs ls hl hS hf
      rw [fX9_withStuck_l6] at hf
      cases hf
    | succ n ih =>
      intro x9 x10 locs ls hl hS hf
      rw [fX9_withStuck_l6] at hf
      refine lv_iload hx hb dX9_withStuck_6 (lv_at hl 0 rfl) ?_
      refine lv_aload_n hx hb dX9_withStuck_8 rfl (lv_at hl 3 rfl) ?_
      refine va_get (D := G.1) (cl := vwCl) (ci := 5) (v := .int (p0I 4)) (C := RX5) (T := TX5) (N := 5) hx hb hts inG5 hown hK hP 1 rfl rfl 4 (Nat.le_of_ble_eq_true rfl) (hts _ q174) (fun _ h9 => h9) rfl dX9_withStuck_9 ?_
      refine lv_icmp_ge (tgt := 80) hx hb dX9_withStuck_12 (by decide) (fun c11 => ?_) (fun c11 => ?_)
      · have hf := if_t hf c11
        have hf := Option.some.inj hf
        subst hf
        exact Ey8  locs ls (lv_sub hl [1] rfl) hS 
      · have hf := if_f hf c11
        refine lv_aload_n hx hb dX9_withStuck_15 rfl (lv_at hl 3 rfl) ?_
        refine va_get (D := G.1) (cl := vwCl) (ci := 5) (v := .ref ad_p0_badColumns) (C := RX5) (T := TX5) (N := 5) hx hb hts inG5 hown hK hP 1 rfl rfl 2 (Nat.le_of_ble_eq_true rfl) (hts _ q163) (fun _ h9 => h9) rfl dX9_withStuck_16 ?_
        refine lv_iload hx hb dX9_withStuck_19 (lv_at hl 0 rfl) ?_
        obtain ⟨h12, hf⟩ := gd_some hf
        refine va_iald (D := G.1) (cl := vwCl) hx hb hK hP 3 0 rfl rfl (gi_in h12) dX9_withStuck_21 ?_
        refine lv_istore (lv' := [(6, .int (p0_badColumns x10.toNatClampNeg)), (5, .int x10), (4, .int x9), (0, .ref ad_t), (1, .ref ad_p0), (2, .int p1)]) hx hb dX9_withStuck_22 hl (by decide) rfl (fun ls hl => ?_)
        refine lv_aload_n hx hb dX9_withStuck_24 rfl (lv_at hl 4 rfl) ?_
        refine va_get (D := G.1) (cl := vwCl) (ci := 5) (v := .ref ad_p0_badRows) (C := RX5) (T := TX5) (N := 5) hx hb hts inG5 hown hK hP 1 rfl rfl 1 (Nat.le_of_ble_eq_true rfl) (hts _ q158) (fun _ h9 => h9) rfl dX9_withStuck_25 ?_
        refine lv_iload hx hb dX9_withStuck_28 (lv_at hl 1 rfl) ?_
        obtain ⟨h13, hf⟩ := gd_some hf
        refine va_iald (D := G.1) (cl := vwCl) hx hb hK hP 2 0 rfl rfl (gi_in h13) dX9_withStuck_30 ?_
        refine lv_aload_n hx hb dX9_withStuck_31 rfl (lv_at hl 3 rfl) ?_
        refine lv_iload_n hx hb dX9_withStuck_32 rfl (lv_at hl 5 rfl) ?_
        refine kPV (tX9_rowOf l G ad_t ad_t_repair tI p1 _ rfl) ⟨hx, hb, hml, hown, hts⟩ q843 q844 q845 q101 q846 okyX9_rowOf ⟨Nat.le_of_ble_eq_true rfl, Nat.le_of_ble_eq_true rfl⟩ hP hG hS [0] rfl 0 rfl rfl hl.1 rfl (Nat.le_of_ble_eq_true rfl) dX9_withStuck_33 ⟨Nat.zero_le _, Nat.zero_le _⟩ (fun locs hS => ?_)
        refine W.eq (g2 := F0 m 36 ls [.int (fX9_rowOf tI p1), .int (p0_badRows x10.toNatClampNeg)]) rfl ?_
        refine lv_icmp_ne (tgt := 74) hx hb dX9_withStuck_36 (by decide) (fun c14 => ?_) (fun c14 => ?_)
        · have hf := if_f hf c14
          refine lv_iinc (v := (x10 + (1 : Int32))) (lv' := [(5, .int (x10 + (1 : Int32))), (6, .int (p0_badColumns x10.toNatClampNeg)), (4, .int x9), (0, .ref ad_t), (1, .ref ad_p0), (2, .int p1)]) hx hb dX9_withStuck_74 hl (k := 1) rfl (ii_1 _) (by decide) rfl (fun ls hl => ?_)
          refine lv_goto (tgt := 6) hx hb dX9_withStuck_77 (by decide) ?_
          exact ih x9 (x10 + (1 : Int32)) locs ls (lv_sub hl [0, 2, 3, 4, 5] rfl) hS hf
        · have hf := if_t hf c14
          refine lv_aload_n hx hb dX9_withStuck_39 rfl (lv_at hl 3 rfl) ?_
          refine lv_iload hx hb dX9_withStuck_40 (lv_at hl 0 rfl) ?_
          refine kPV (tX9_offset l G ad_t ad_t_repair tI (p0_badColumns x10.toNatClampNeg) _ rfl) ⟨hx, hb, hml, hown, hts⟩ q851 q853 q30 q101 q854 okyX9_offset ⟨Nat.le_of_ble_eq_true rfl, Nat.le_of_ble_eq_true rfl⟩ hP hG hS [0] rfl 0 rfl rfl hl.1 rfl (Nat.le_of_ble_eq_true rfl) dX9_withStuck_42 ⟨Nat.zero_le _, Nat.zero_le _⟩ (fun locs hS => ?_)
          refine W.eq (g2 := F0 m 45 ls [.int (fX9_offset tI (p0_badColumns x10.toNatClampNeg))]) rfl ?_
          refine lv_aload_n hx hb dX9_withStuck_45 rfl (lv_at hl 3 rfl) ?_
          refine lv_iload_n hx hb dX9_withStuck_46 rfl (lv_at hl 5 rfl) ?_
          refine kPV (tX9_offset l G ad_t ad_t_repair tI p1 _ rfl) ⟨hx, hb, hml, hown, hts⟩ q851 q853 q30 q101 q854 okyX9_offset ⟨Nat.le_of_ble_eq_true rfl, Nat.le_of_ble_eq_true rfl⟩ hP hG hS [0] rfl 0 rfl rfl hl.1 rfl (Nat.le_of_ble_eq_true rfl) dX9_withStuck_47 ⟨Nat.zero_le _, Nat.zero_le _⟩ (fun locs hS => ?_)
          refine W.eq (g2 := F0 m 50 ls [.int (fX9_offset tI p1), .int (fX9_offset tI (p0_badColumns x10.toNatClampNeg))]) rfl ?_
          refine lv_icmp_ne (tgt := 74) hx hb dX9_withStuck_50 (by decide) (fun c15 => ?_) (fun c15 => ?_)
          · have hf := if_f hf c15
            refine lv_iinc (v := (x10 + (1 : Int32))) (lv' := [(5, .int (x10 + (1 : Int32))), (6, .int (p0_badColumns x10.toNatClampNeg)), (4, .int x9), (0, .ref ad_t), (1, .ref ad_p0), (2, .int p1)]) hx hb dX9_withStuck_74 hl (k := 1) rfl (ii_1 _) (by decide) rfl (fun ls hl => ?_)
            refine lv_goto (tgt := 6) hx hb dX9_withStuck_77 (by decide) ?_
            exact ih x9 (x10 + (1 : Int32)) locs ls (lv_sub hl [0, 2, 3, 4, 5] rfl) hS hf
          · have hf := if_t hf c15
            refine lv_iload hx hb dX9_withStuck_53 (lv_at hl 2 rfl) ?_
            refine lv_iload hx hb dX9_withStuck_55 (lv_at hl 0 rfl) ?_
            refine lv_aload_n hx hb dX9_withStuck_57 rfl (lv_at hl 3 rfl) ?_
            refine va_get (D := G.1) (cl := vwCl) (ci := 9) (v := .int (tI 2)) (C := RX9) (T := TX9) (N := 5) hx hb hts inG9 hown hK hP 0 rfl rfl 2 (Nat.le_of_ble_eq_true rfl) (hts _ q323) (fun _ h9 => h9) rfl dX9_withStuck_58 ?_
            refine lv_ishr hx hb dX9_withStuck_61 ?_
            refine lv_aload_n hx hb dX9_withStuck_62 rfl (lv_at hl 4 rfl) ?_
            refine va_get (D := G.1) (cl := vwCl) (ci := 5) (v := .ref ad_p0_badBits) (C := RX5) (T := TX5) (N := 5) hx hb hts inG5 hown hK hP 1 rfl rfl 3 (Nat.le_of_ble_eq_true rfl) (hts _ q167) (fun _ h9 => h9) rfl dX9_withStuck_63 ?_
            refine lv_iload hx hb dX9_withStuck_66 (lv_at hl 1 rfl) ?_
            obtain ⟨h16, hf⟩ := gd_some hf
            refine va_iald (D := G.1) (cl := vwCl) hx hb hK hP 4 0 rfl rfl (gi_in h16) dX9_withStuck_68 ?_
            refine kPS (tX0_withBit l G x9 ((p0_badColumns x10.toNatClampNeg) >>> ((tI 2) &&& 31)) (p0_badBits x10.toNatClampNeg) _ rfl) ⟨hx, hb, hml, hown, hts⟩ q862 q860 q96 q861 okyX0_withBit ⟨Nat.le_of_ble_eq_true rfl, Nat.le_of_ble_eq_true rfl⟩ hP hG hS [] rfl hl.1 rfl (Nat.le_of_ble_eq_true rfl) dX9_withStuck_69 ⟨Nat.zero_le _, Nat.zero_le _⟩ (fun locs hS => ?_)
            refine W.eq (g2 := F0 m 72 ls [.int (fX0_withBit x9 ((p0_badColumns x10.toNatClampNeg) >>> ((tI 2) &&& 31)) (p0_badBits x10.toNatClampNeg))]) rfl ?_
            refine lv_istore (lv' := [(4, .int (fX0_withBit x9 ((p0_badColumns x10.toNatClampNeg) >>> ((tI 2) &&& 31)) (p0_badBits x10.toNatClampNeg))), (6, .int (p0_badColumns x10.toNatClampNeg)), (5, .int x10), (0, .ref ad_t), (1, .ref ad_p0), (2, .int p1)]) hx hb dX9_withStuck_72 hl (by decide) rfl (fun ls hl => ?_)
            refine lv_iinc (v := (x10 + (1 : Int32))) (lv' := [(5, .int (x10 + (1 : Int32))), (4, .int (fX0_withBit x9 ((p0_badColumns x10.toNatClampNeg) >>> ((tI 2) &&& 31)) (p0_badBits x10.toNatClampNeg))), (6, .int (p0_badColumns x10.toNatClampNeg)), (0, .ref ad_t), (1, .ref ad_p0), (2, .int p1)]) hx hb dX9_withStuck_74 hl (k := 2) rfl (ii_1 _) (by decide) rfl (fun ls hl => ?_)
            refine lv_goto (tgt := 6) hx hb dX9_withStuck_77 (by decide) ?_
            exact ih (fX0_withBit x9 ((p0_badColumns x10.toNatClampNeg) >>> ((tI 2) &&& 31)) (p0_badBits x10.toNatClampNeg)) (x10 + (1 : Int32)) locs ls (lv_sub hl [0, 1, 3, 4, 5] rfl) hS hf
  exact Ly8 FU p2 (0 : Int32) locs ls (lv_sub hl [0, 1, 2, 3, 4] rfl) hS hLy8

def fX9_wrong_l5 (x2 : Int32) (t_repairI : Nat → Int32) (p0I : Nat → Int32) (p0_badBits : Nat → Int32) : Nat → Int32 → Int32 → Option (Int32)
  | 0, _, _ => none
  | n + 1, x3, x4 =>
    (if (p0I 4) ≤ x4 then some x3 else (if (t_repairI 4) = 0 then gd (gi x4 12) ((if (p0_badBits x4.toNatClampNeg) = x2 then fX9_wrong_l5 x2 t_repairI p0I p0_badBits n x3 (x4 + (1 : Int32)) else fX9_wrong_l5 x2 t_repairI p0I p0_badBits n (x3 + (1 : Int32)) (x4 + (1 : Int32)))) else some x3))
def fX9_wrong (t_repairI : Nat → Int32) (p0I : Nat → Int32) (p0_badBits : Nat → Int32) (p1 : Int32) : Option (Int32) :=
  bn (fX9_wrong_l5 p1 t_repairI p0I p0_badBits FU (0 : Int32) (0 : Int32)) fun y5 => some y5
set_option maxRecDepth 100000 in
set_option maxHeartbeats 4000000 in
theorem tX9_wrong (l : Launch) (G : gG) (ad_t ad_t_repair ad_t_repair_rows ad_t_repair_columns ad_t_repair_candidates ad_t_repair_left ad_p0 ad_p0_numbers ad_p0_badRows ad_p0_badColumns ad_p0_badBits : Nat) (tI : Nat → Int32) (t_repairI : Nat → Int32) (p0I : Nat → Int32) (p0_badBits : Nat → Int32) (p1 : Int32) (o : Int32) (hf : fX9_wrong t_repairI p0I p0_badBits p1 = some o) : mP G l yX9_wrong cX9_wrong 5 (some .int) 0 0 [.ref ad_t, .ref ad_p0, .int p1] [(ad_t, .inr (9, [.ref ad_t_repair, .int (tI 1), .int (tI 2), .int (tI 3), .int (tI 4)])), (ad_t_repair, .inr (3, [.ref ad_t_repair_rows, .ref ad_t_repair_columns, .int (t_repairI 2), .int (t_repairI 3), .int (t_repairI 4), .int (t_repairI 5), .ref ad_t_repair_candidates, .ref ad_t_repair_left, .int (t_repairI 8)])), (ad_p0, .inr (5, [.ref ad_p0_numbers, .ref ad_p0_badRows, .ref ad_p0_badColumns, .ref ad_p0_badBits, .int (p0I 4)])), (ad_p0_badBits, .inl (G.2.1 0, 12, .inl p0_badBits))] (some (.int o)) := by
  refine mP_of (by decide) (Nat.le_of_ble_eq_true rfl) ?_
  intro p e s m below meth cd ls hx hb hml hown hts hr hlocks hl hP hG
  have hK := hG.1
  have hown : s.vm.findClass RX9 = some m.cls := hown
  have hl : lv_has ls 5 [(0, .ref ad_t), (1, .ref ad_p0), (2, .int p1)] := hl
  have hS : va_S no s.heap s.heap [] := va_S.rf
  generalize ([] : List Loc) = locs at hS ⊢
  unfold fX9_wrong at hf
  show wG p l e 0 0 s m [.ref ad_t, .ref ad_p0, .int p1] below meth cd s.heap locs (pQ (some (.int o))) no (F0 m 0 ls [])
  refine lv_iconst (v := 0) hx hb dX9_wrong_0 (by decide) ?_
  refine lv_istore_n (lv' := [(3, .int (0 : Int32)), (0, .ref ad_t), (1, .ref ad_p0), (2, .int p1)]) hx hb dX9_wrong_1 rfl hl (by decide) rfl (fun ls hl => ?_)
  refine lv_iconst (v := 0) hx hb dX9_wrong_2 (by decide) ?_
  refine lv_istore (lv' := [(4, .int (0 : Int32)), (3, .int (0 : Int32)), (0, .ref ad_t), (1, .ref ad_p0), (2, .int p1)]) hx hb dX9_wrong_3 hl (by decide) rfl (fun ls hl => ?_)
  obtain ⟨y6, hLy6, hky6⟩ := bn_some hf
  have Ey6 : ∀  (locs : List Loc) (ls : Array Slot), lv_has ls 5 [(3, .int y6)] → va_S no s.heap s.heap locs → wG p l e 0 0 s m [.ref ad_t, .ref ad_p0, .int p1] below meth cd s.heap locs (pQ (some (.int o))) no (F0 m 44 ls []) := by
    intro  locs ls hl hS
    have hf := hky6
    refine lv_iload_n hx hb dX9_wrong_44 rfl (lv_at hl 0 rfl) ?_
    have hf := Option.some.inj hf
    subst hf
    exact pRet hx hb hr hlocks hS dX9_wrong_45
  have Ly6 : ∀ (n : Nat), ∀ (x7 : Int32) (x8 : Int32) (locs : List Loc) (ls : Array Slot), lv_has ls 5 [(4, .int x8), (3, .int x7), (0, .ref ad_t), (1, .ref ad_p0), (2, .int p1)] → va_S no s.heap s.heap locs → fX9_wrong_l5 p1 t_repairI p0I p0_badBits n x7 x8 = some y6 → wG p l e 0 0 s m [.ref ad_t, .ref ad_p0, .int p1] below meth cd s.heap locs (pQ (some (.int o))) no (F0 m 5 ls []) := by
    intro n
    induction n with
    | zero =>
      intro x7 x8 locs ls hl hS hf
      rw [fX9_wrong_l5] at hf
      cases hf
    | succ n ih =>
      intro x7 x8 locs ls hl hS hf
      rw [fX9_wrong_l5] at hf
      refine lv_iload hx hb dX9_wrong_5 (lv_at hl 0 rfl) ?_
      refine lv_aload_n hx hb dX9_wrong_7 rfl (lv_at hl 3 rfl) ?_
      refine va_get (D := G.1) (cl := vwCl) (ci := 5) (v := .int (p0I 4)) (C := RX5) (T := TX5) (N := 5) hx hb hts inG5 hown hK hP 2 rfl rfl 4 (Nat.le_of_ble_eq_true rfl) (hts _ q174) (fun _ h9 => h9) rfl dX9_wrong_8 ?_
      refine lv_icmp_ge (tgt := 44) hx hb dX9_wrong_11 (by decide) (fun c9 => ?_) (fun c9 => ?_)
      · have hf := if_t hf c9
        have hf := Option.some.inj hf
        subst hf
        exact Ey6  locs ls (lv_sub hl [1] rfl) hS 
      · have hf := if_f hf c9
        refine lv_aload_n hx hb dX9_wrong_14 rfl (lv_at hl 2 rfl) ?_
        refine va_get (D := G.1) (cl := vwCl) (ci := 9) (v := .ref ad_t_repair) (C := RX9) (T := TX9) (N := 5) hx hb hts inG9 hown hK hP 0 rfl rfl 0 (Nat.le_of_ble_eq_true rfl) (hts _ q319) (fun _ h9 => h9) rfl dX9_wrong_15 ?_
        refine va_get (D := G.1) (cl := vwCl) (ci := 3) (v := .int (t_repairI 4)) (C := RX3) (T := TX3) (N := 9) hx hb hts inG3 hown hK hP 1 rfl rfl 4 (Nat.le_of_ble_eq_true rfl) (hts _ q293) (fun _ h9 => h9) rfl dX9_wrong_18 ?_
        refine lv_if_ne (tgt := 44) hx hb dX9_wrong_21 (by decide) (fun c10 => ?_) (fun c10 => ?_)
        · have hf := if_f hf c10
          have hf := Option.some.inj hf
          subst hf
          exact Ey6  locs ls (lv_sub hl [1] rfl) hS 
        · have hf := if_t hf c10
          refine lv_aload_n hx hb dX9_wrong_24 rfl (lv_at hl 3 rfl) ?_
          refine va_get (D := G.1) (cl := vwCl) (ci := 5) (v := .ref ad_p0_badBits) (C := RX5) (T := TX5) (N := 5) hx hb hts inG5 hown hK hP 2 rfl rfl 3 (Nat.le_of_ble_eq_true rfl) (hts _ q167) (fun _ h9 => h9) rfl dX9_wrong_25 ?_
          refine lv_iload hx hb dX9_wrong_28 (lv_at hl 0 rfl) ?_
          obtain ⟨h11, hf⟩ := gd_some hf
          refine va_iald (D := G.1) (cl := vwCl) hx hb hK hP 3 0 rfl rfl (gi_in h11) dX9_wrong_30 ?_
          refine lv_iload_n hx hb dX9_wrong_31 rfl (lv_at hl 4 rfl) ?_
          refine lv_icmp_eq (tgt := 38) hx hb dX9_wrong_32 (by decide) (fun c12 => ?_) (fun c12 => ?_)
          · have hf := if_t hf c12
            refine lv_iinc (v := (x8 + (1 : Int32))) (lv' := [(4, .int (x8 + (1 : Int32))), (3, .int x7), (0, .ref ad_t), (1, .ref ad_p0), (2, .int p1)]) hx hb dX9_wrong_38 hl (k := 0) rfl (ii_1 _) (by decide) rfl (fun ls hl => ?_)
            refine lv_goto (tgt := 5) hx hb dX9_wrong_41 (by decide) ?_
            exact ih x7 (x8 + (1 : Int32)) locs ls (lv_sub hl [0, 1, 2, 3, 4] rfl) hS hf
          · have hf := if_f hf c12
            refine lv_iinc (v := (x7 + (1 : Int32))) (lv' := [(3, .int (x7 + (1 : Int32))), (4, .int x8), (0, .ref ad_t), (1, .ref ad_p0), (2, .int p1)]) hx hb dX9_wrong_35 hl (k := 1) rfl (ii_1 _) (by decide) rfl (fun ls hl => ?_)
            refine lv_iinc (v := (x8 + (1 : Int32))) (lv' := [(4, .int (x8 + (1 : Int32))), (3, .int (x7 + (1 : Int32))), (0, .ref ad_t), (1, .ref ad_p0), (2, .int p1)]) hx hb dX9_wrong_38 hl (k := 1) rfl (ii_1 _) (by decide) rfl (fun ls hl => ?_)
            refine lv_goto (tgt := 5) hx hb dX9_wrong_41 (by decide) ?_
            exact ih (x7 + (1 : Int32)) (x8 + (1 : Int32)) locs ls (lv_sub hl [0, 1, 2, 3, 4] rfl) hS hf
  exact Ly6 FU (0 : Int32) (0 : Int32) locs ls (lv_sub hl [0, 1, 2, 3, 4] rfl) hS hLy6

def fJ6_bitCount_0f7a4 (p0 : Int32) : Int32 :=
  ((((((((p0 - ((ush p0 (1 : Int32)) &&& (1431655765 : Int32))) &&& (858993459 : Int32)) + ((ush (p0 - ((ush p0 (1 : Int32)) &&& (1431655765 : Int32))) (2 : Int32)) &&& (858993459 : Int32))) + (ush (((p0 - ((ush p0 (1 : Int32)) &&& (1431655765 : Int32))) &&& (858993459 : Int32)) + ((ush (p0 - ((ush p0 (1 : Int32)) &&& (1431655765 : Int32))) (2 : Int32)) &&& (858993459 : Int32))) (4 : Int32))) &&& (252645135 : Int32)) + (ush (((((p0 - ((ush p0 (1 : Int32)) &&& (1431655765 : Int32))) &&& (858993459 : Int32)) + ((ush (p0 - ((ush p0 (1 : Int32)) &&& (1431655765 : Int32))) (2 : Int32)) &&& (858993459 : Int32))) + (ush (((p0 - ((ush p0 (1 : Int32)) &&& (1431655765 : Int32))) &&& (858993459 : Int32)) + ((ush (p0 - ((ush p0 (1 : Int32)) &&& (1431655765 : Int32))) (2 : Int32)) &&& (858993459 : Int32))) (4 : Int32))) &&& (252645135 : Int32)) (8 : Int32))) + (ush ((((((p0 - ((ush p0 (1 : Int32)) &&& (1431655765 : Int32))) &&& (858993459 : Int32)) + ((ush (p0 - ((ush p0 (1 : Int32)) &&& (1431655765 : Int32))) (2 : Int32)) &&& (858993459 : Int32))) + (ush (((p0 - ((ush p0 (1 : Int32)) &&& (1431655765 : Int32))) &&& (858993459 : Int32)) + ((ush (p0 - ((ush p0 (1 : Int32)) &&& (1431655765 : Int32))) (2 : Int32)) &&& (858993459 : Int32))) (4 : Int32))) &&& (252645135 : Int32)) + (ush (((((p0 - ((ush p0 (1 : Int32)) &&& (1431655765 : Int32))) &&& (858993459 : Int32)) + ((ush (p0 - ((ush p0 (1 : Int32)) &&& (1431655765 : Int32))) (2 : Int32)) &&& (858993459 : Int32))) + (ush (((p0 - ((ush p0 (1 : Int32)) &&& (1431655765 : Int32))) &&& (858993459 : Int32)) + ((ush (p0 - ((ush p0 (1 : Int32)) &&& (1431655765 : Int32))) (2 : Int32)) &&& (858993459 : Int32))) (4 : Int32))) &&& (252645135 : Int32)) (8 : Int32))) (16 : Int32))) &&& (63 : Int32))
set_option maxRecDepth 100000 in
set_option maxHeartbeats 4000000 in
theorem tJ6_bitCount_0f7a4 (l : Launch) (G : gG) (p0 : Int32) (o : Int32) (hf : fJ6_bitCount_0f7a4 p0 = o) : mP G l yJ6_bitCount_0f7a4 cJ6_bitCount_0f7a4 1 (some .int) 0 0 [.int p0] [] (some (.int o)) := by
  refine mP_of (by decide) (Nat.le_of_ble_eq_true rfl) ?_
  intro p e s m below meth cd ls hx hb hml hown hts hr hlocks hl hP hG
  have hK := hG.1
  have hown : s.vm.findClass RJ6 = some m.cls := hown
  have hl : lv_has ls 1 [(0, .int p0)] := hl
  have hS : va_S no s.heap s.heap [] := va_S.rf
  generalize ([] : List Loc) = locs at hS ⊢
  unfold fJ6_bitCount_0f7a4 at hf
  show wG p l e 0 0 s m [.int p0] below meth cd s.heap locs (pQ (some (.int o))) no (F0 m 0 ls [])
  refine lv_iload_n hx hb dJ6_bitCount_0f7a4_0 rfl (lv_at hl 0 rfl) ?_
  refine lv_iload_n hx hb dJ6_bitCount_0f7a4_1 rfl (lv_at hl 0 rfl) ?_
  refine lv_iconst (v := 1) hx hb dJ6_bitCount_0f7a4_2 (by decide) ?_
  refine lv_iushr (v := ush p0 (1 : Int32)) hx hb dJ6_bitCount_0f7a4_3 rfl ?_
  refine lv_ldcw (v := 1431655765) hx hb hown (hts _ q492) dJ6_bitCount_0f7a4_4 ?_
  refine lv_iand hx hb dJ6_bitCount_0f7a4_7 ?_
  refine lv_isub hx hb dJ6_bitCount_0f7a4_8 ?_
  refine lv_istore_n (lv' := [(0, .int (p0 - ((ush p0 (1 : Int32)) &&& (1431655765 : Int32))))]) hx hb dJ6_bitCount_0f7a4_9 rfl hl (by decide) rfl (fun ls hl => ?_)
  refine lv_iload_n hx hb dJ6_bitCount_0f7a4_10 rfl (lv_at hl 0 rfl) ?_
  refine lv_ldcw (v := 858993459) hx hb hown (hts _ q493) dJ6_bitCount_0f7a4_11 ?_
  refine lv_iand hx hb dJ6_bitCount_0f7a4_14 ?_
  refine lv_iload_n hx hb dJ6_bitCount_0f7a4_15 rfl (lv_at hl 0 rfl) ?_
  refine lv_iconst (v := 2) hx hb dJ6_bitCount_0f7a4_16 (by decide) ?_
  refine lv_iushr (v := ush (p0 - ((ush p0 (1 : Int32)) &&& (1431655765 : Int32))) (2 : Int32)) hx hb dJ6_bitCount_0f7a4_17 rfl ?_
  refine lv_ldcw (v := 858993459) hx hb hown (hts _ q493) dJ6_bitCount_0f7a4_18 ?_
  refine lv_iand hx hb dJ6_bitCount_0f7a4_21 ?_
  refine lv_iadd hx hb dJ6_bitCount_0f7a4_22 ?_
  refine lv_istore_n (lv' := [(0, .int (((p0 - ((ush p0 (1 : Int32)) &&& (1431655765 : Int32))) &&& (858993459 : Int32)) + ((ush (p0 - ((ush p0 (1 : Int32)) &&& (1431655765 : Int32))) (2 : Int32)) &&& (858993459 : Int32))))]) hx hb dJ6_bitCount_0f7a4_23 rfl hl (by decide) rfl (fun ls hl => ?_)
  refine lv_iload_n hx hb dJ6_bitCount_0f7a4_24 rfl (lv_at hl 0 rfl) ?_
  refine lv_iload_n hx hb dJ6_bitCount_0f7a4_25 rfl (lv_at hl 0 rfl) ?_
  refine lv_iconst (v := 4) hx hb dJ6_bitCount_0f7a4_26 (by decide) ?_
  refine lv_iushr (v := ush (((p0 - ((ush p0 (1 : Int32)) &&& (1431655765 : Int32))) &&& (858993459 : Int32)) + ((ush (p0 - ((ush p0 (1 : Int32)) &&& (1431655765 : Int32))) (2 : Int32)) &&& (858993459 : Int32))) (4 : Int32)) hx hb dJ6_bitCount_0f7a4_27 rfl ?_
  refine lv_iadd hx hb dJ6_bitCount_0f7a4_28 ?_
  refine lv_ldcw (v := 252645135) hx hb hown (hts _ q494) dJ6_bitCount_0f7a4_29 ?_
  refine lv_iand hx hb dJ6_bitCount_0f7a4_32 ?_
  refine lv_istore_n (lv' := [(0, .int (((((p0 - ((ush p0 (1 : Int32)) &&& (1431655765 : Int32))) &&& (858993459 : Int32)) + ((ush (p0 - ((ush p0 (1 : Int32)) &&& (1431655765 : Int32))) (2 : Int32)) &&& (858993459 : Int32))) + (ush (((p0 - ((ush p0 (1 : Int32)) &&& (1431655765 : Int32))) &&& (858993459 : Int32)) + ((ush (p0 - ((ush p0 (1 : Int32)) &&& (1431655765 : Int32))) (2 : Int32)) &&& (858993459 : Int32))) (4 : Int32))) &&& (252645135 : Int32)))]) hx hb dJ6_bitCount_0f7a4_33 rfl hl (by decide) rfl (fun ls hl => ?_)
  refine lv_iload_n hx hb dJ6_bitCount_0f7a4_34 rfl (lv_at hl 0 rfl) ?_
  refine lv_iload_n hx hb dJ6_bitCount_0f7a4_35 rfl (lv_at hl 0 rfl) ?_
  refine lv_bipush (v := 8) hx hb dJ6_bitCount_0f7a4_36 (by decide) ?_
  refine lv_iushr (v := ush (((((p0 - ((ush p0 (1 : Int32)) &&& (1431655765 : Int32))) &&& (858993459 : Int32)) + ((ush (p0 - ((ush p0 (1 : Int32)) &&& (1431655765 : Int32))) (2 : Int32)) &&& (858993459 : Int32))) + (ush (((p0 - ((ush p0 (1 : Int32)) &&& (1431655765 : Int32))) &&& (858993459 : Int32)) + ((ush (p0 - ((ush p0 (1 : Int32)) &&& (1431655765 : Int32))) (2 : Int32)) &&& (858993459 : Int32))) (4 : Int32))) &&& (252645135 : Int32)) (8 : Int32)) hx hb dJ6_bitCount_0f7a4_38 rfl ?_
  refine lv_iadd hx hb dJ6_bitCount_0f7a4_39 ?_
  refine lv_istore_n (lv' := [(0, .int ((((((p0 - ((ush p0 (1 : Int32)) &&& (1431655765 : Int32))) &&& (858993459 : Int32)) + ((ush (p0 - ((ush p0 (1 : Int32)) &&& (1431655765 : Int32))) (2 : Int32)) &&& (858993459 : Int32))) + (ush (((p0 - ((ush p0 (1 : Int32)) &&& (1431655765 : Int32))) &&& (858993459 : Int32)) + ((ush (p0 - ((ush p0 (1 : Int32)) &&& (1431655765 : Int32))) (2 : Int32)) &&& (858993459 : Int32))) (4 : Int32))) &&& (252645135 : Int32)) + (ush (((((p0 - ((ush p0 (1 : Int32)) &&& (1431655765 : Int32))) &&& (858993459 : Int32)) + ((ush (p0 - ((ush p0 (1 : Int32)) &&& (1431655765 : Int32))) (2 : Int32)) &&& (858993459 : Int32))) + (ush (((p0 - ((ush p0 (1 : Int32)) &&& (1431655765 : Int32))) &&& (858993459 : Int32)) + ((ush (p0 - ((ush p0 (1 : Int32)) &&& (1431655765 : Int32))) (2 : Int32)) &&& (858993459 : Int32))) (4 : Int32))) &&& (252645135 : Int32)) (8 : Int32))))]) hx hb dJ6_bitCount_0f7a4_40 rfl hl (by decide) rfl (fun ls hl => ?_)
  refine lv_iload_n hx hb dJ6_bitCount_0f7a4_41 rfl (lv_at hl 0 rfl) ?_
  refine lv_iload_n hx hb dJ6_bitCount_0f7a4_42 rfl (lv_at hl 0 rfl) ?_
  refine lv_bipush (v := 16) hx hb dJ6_bitCount_0f7a4_43 (by decide) ?_
  refine lv_iushr (v := ush ((((((p0 - ((ush p0 (1 : Int32)) &&& (1431655765 : Int32))) &&& (858993459 : Int32)) + ((ush (p0 - ((ush p0 (1 : Int32)) &&& (1431655765 : Int32))) (2 : Int32)) &&& (858993459 : Int32))) + (ush (((p0 - ((ush p0 (1 : Int32)) &&& (1431655765 : Int32))) &&& (858993459 : Int32)) + ((ush (p0 - ((ush p0 (1 : Int32)) &&& (1431655765 : Int32))) (2 : Int32)) &&& (858993459 : Int32))) (4 : Int32))) &&& (252645135 : Int32)) + (ush (((((p0 - ((ush p0 (1 : Int32)) &&& (1431655765 : Int32))) &&& (858993459 : Int32)) + ((ush (p0 - ((ush p0 (1 : Int32)) &&& (1431655765 : Int32))) (2 : Int32)) &&& (858993459 : Int32))) + (ush (((p0 - ((ush p0 (1 : Int32)) &&& (1431655765 : Int32))) &&& (858993459 : Int32)) + ((ush (p0 - ((ush p0 (1 : Int32)) &&& (1431655765 : Int32))) (2 : Int32)) &&& (858993459 : Int32))) (4 : Int32))) &&& (252645135 : Int32)) (8 : Int32))) (16 : Int32)) hx hb dJ6_bitCount_0f7a4_45 rfl ?_
  refine lv_iadd hx hb dJ6_bitCount_0f7a4_46 ?_
  refine lv_istore_n (lv' := [(0, .int (((((((p0 - ((ush p0 (1 : Int32)) &&& (1431655765 : Int32))) &&& (858993459 : Int32)) + ((ush (p0 - ((ush p0 (1 : Int32)) &&& (1431655765 : Int32))) (2 : Int32)) &&& (858993459 : Int32))) + (ush (((p0 - ((ush p0 (1 : Int32)) &&& (1431655765 : Int32))) &&& (858993459 : Int32)) + ((ush (p0 - ((ush p0 (1 : Int32)) &&& (1431655765 : Int32))) (2 : Int32)) &&& (858993459 : Int32))) (4 : Int32))) &&& (252645135 : Int32)) + (ush (((((p0 - ((ush p0 (1 : Int32)) &&& (1431655765 : Int32))) &&& (858993459 : Int32)) + ((ush (p0 - ((ush p0 (1 : Int32)) &&& (1431655765 : Int32))) (2 : Int32)) &&& (858993459 : Int32))) + (ush (((p0 - ((ush p0 (1 : Int32)) &&& (1431655765 : Int32))) &&& (858993459 : Int32)) + ((ush (p0 - ((ush p0 (1 : Int32)) &&& (1431655765 : Int32))) (2 : Int32)) &&& (858993459 : Int32))) (4 : Int32))) &&& (252645135 : Int32)) (8 : Int32))) + (ush ((((((p0 - ((ush p0 (1 : Int32)) &&& (1431655765 : Int32))) &&& (858993459 : Int32)) + ((ush (p0 - ((ush p0 (1 : Int32)) &&& (1431655765 : Int32))) (2 : Int32)) &&& (858993459 : Int32))) + (ush (((p0 - ((ush p0 (1 : Int32)) &&& (1431655765 : Int32))) &&& (858993459 : Int32)) + ((ush (p0 - ((ush p0 (1 : Int32)) &&& (1431655765 : Int32))) (2 : Int32)) &&& (858993459 : Int32))) (4 : Int32))) &&& (252645135 : Int32)) + (ush (((((p0 - ((ush p0 (1 : Int32)) &&& (1431655765 : Int32))) &&& (858993459 : Int32)) + ((ush (p0 - ((ush p0 (1 : Int32)) &&& (1431655765 : Int32))) (2 : Int32)) &&& (858993459 : Int32))) + (ush (((p0 - ((ush p0 (1 : Int32)) &&& (1431655765 : Int32))) &&& (858993459 : Int32)) + ((ush (p0 - ((ush p0 (1 : Int32)) &&& (1431655765 : Int32))) (2 : Int32)) &&& (858993459 : Int32))) (4 : Int32))) &&& (252645135 : Int32)) (8 : Int32))) (16 : Int32))))]) hx hb dJ6_bitCount_0f7a4_47 rfl hl (by decide) rfl (fun ls hl => ?_)
  refine lv_iload_n hx hb dJ6_bitCount_0f7a4_48 rfl (lv_at hl 0 rfl) ?_
  refine lv_bipush (v := 63) hx hb dJ6_bitCount_0f7a4_49 (by decide) ?_
  refine lv_iand hx hb dJ6_bitCount_0f7a4_51 ?_
  subst hf
  exact pRet hx hb hr hlocks hS dJ6_bitCount_0f7a4_52

def fX10_feed (t_now_tapeI : Nat → Int32) (t_now_tape_bytes : Nat → Int32) (p0 : Int32) (p1 : Int32) (p2 : Int32) (p3 : Int32) (p4 : Int32) : Option (Int32 × (Nat → Int32) × (Nat → Int32)) :=
  (if (bi (fX7_hasRoom t_now_tapeI (20 : Int32))) = 0 then some ((-1 : Int32), t_now_tapeI, t_now_tape_bytes) else bn (fX7_append t_now_tapeI t_now_tape_bytes p0) fun a2 => bn (fX7_append a2.1 a2.2 p1) fun a4 => bn (fX7_append a4.1 a4.2 p2) fun a6 => bn (fX7_append a6.1 a6.2 p3) fun a8 => bn (fX7_append a8.1 a8.2 p4) fun a10 => some ((a10.1 1), a10.1, a10.2))
set_option maxRecDepth 100000 in
set_option maxHeartbeats 4000000 in
theorem tX10_feed (l : Launch) (G : gG) (ad_t ad_t_now ad_t_images ad_t_past ad_t_wiring ad_t_form ad_t_trial ad_t_reader ad_t_text ad_t_now_memory ad_t_now_tape ad_t_now_tape_bytes : Nat) (t_nowI : Nat → Int32) (t_now_tapeI : Nat → Int32) (t_now_tape_bytes : Nat → Int32) (p0 : Int32) (p1 : Int32) (p2 : Int32) (p3 : Int32) (p4 : Int32) (o : Int32 × (Nat → Int32) × (Nat → Int32)) (hf : fX10_feed t_now_tapeI t_now_tape_bytes p0 p1 p2 p3 p4 = some o) : mE G l yX10_feed cX10_feed 7 (some .int) 2 43 0 0 [.ref ad_t, .int p0, .int p1, .int p2, .int p3, .int p4] [(ad_t, .inr (10, [.ref ad_t_now, .ref ad_t_images, .ref ad_t_past, .ref ad_t_wiring, .ref ad_t_form, .ref ad_t_trial, .ref ad_t_reader, .ref ad_t_text])), (ad_t_now, .inr (6, [.ref ad_t_now_memory, .ref ad_t_now_tape, .int (t_nowI 2), .int (t_nowI 3), .int (t_nowI 4), .int (t_nowI 5), .int (t_nowI 6)])), (ad_t_now_tape, .inr (7, [.ref ad_t_now_tape_bytes, .int (t_now_tapeI 1)])), (ad_t_now_tape_bytes, .inl (G.2.1 1, 300, .inl t_now_tape_bytes))] (fun r w => r = (some (.int o.1)) ∧ w = [(ad_t, .inr (10, [.ref ad_t_now, .ref ad_t_images, .ref ad_t_past, .ref ad_t_wiring, .ref ad_t_form, .ref ad_t_trial, .ref ad_t_reader, .ref ad_t_text])), (ad_t_now, .inr (6, [.ref ad_t_now_memory, .ref ad_t_now_tape, .int (t_nowI 2), .int (t_nowI 3), .int (t_nowI 4), .int (t_nowI 5), .int (t_nowI 6)])), (ad_t_now_tape, .inr (7, [.ref ad_t_now_tape_bytes, .int (o.2.1 1)])), (ad_t_now_tape_bytes, .inl (G.2.1 1, 300, .inl o.2.2))]) := by
  refine mE_of (by decide) (Nat.le_of_ble_eq_true rfl) ?_
  intro p e s m below meth cd ls A hx hb hml hown hts hr hlocks hnm hl hA hP hD hS hG
  have hK := hG.1
  have hown : s.vm.findClass RX10 = some m.cls := hown
  have hl : lv_has ls 7 [(0, .ref ad_t), (1, .int p0), (2, .int p1), (3, .int p2), (4, .int p3), (5, .int p4)] := hl
  have hS := hS
  unfold fX10_feed at hf
  obtain ⟨H, locs, eH, eL⟩ : ∃ (H : Heap) (locs : List Loc), H = s.heap ∧ locs = [] := ⟨_, _, rfl, rfl⟩
  have hP : va_P G.1 vwCl [(ad_t, .inr (10, [.ref ad_t_now, .ref ad_t_images, .ref ad_t_past, .ref ad_t_wiring, .ref ad_t_form, .ref ad_t_trial, .ref ad_t_reader, .ref ad_t_text])), (ad_t_now, .inr (6, [.ref ad_t_now_memory, .ref ad_t_now_tape, .int (t_nowI 2), .int (t_nowI 3), .int (t_nowI 4), .int (t_nowI 5), .int (t_nowI 6)])), (ad_t_now_tape, .inr (7, [.ref ad_t_now_tape_bytes, .int (t_now_tapeI 1)])), (ad_t_now_tape_bytes, .inl (G.2.1 1, 300, .inl t_now_tape_bytes))] H := eH ▸ hP
  have hS : va_S A s.heap H locs := by rw [eH, eL]; exact hS
  suffices hgo : wG p l e 2 43 s m [.ref ad_t, .int p0, .int p1, .int p2, .int p3, .int p4] below meth cd H locs (eQ G A (fun r w => r = (some (.int o.1)) ∧ w = [(ad_t, .inr (10, [.ref ad_t_now, .ref ad_t_images, .ref ad_t_past, .ref ad_t_wiring, .ref ad_t_form, .ref ad_t_trial, .ref ad_t_reader, .ref ad_t_text])), (ad_t_now, .inr (6, [.ref ad_t_now_memory, .ref ad_t_now_tape, .int (t_nowI 2), .int (t_nowI 3), .int (t_nowI 4), .int (t_nowI 5), .int (t_nowI 6)])), (ad_t_now_tape, .inr (7, [.ref ad_t_now_tape_bytes, .int (o.2.1 1)])), (ad_t_now_tape_bytes, .inl (G.2.1 1, 300, .inl o.2.2))])) A (F0 m 0 ls []) by rw [eH, eL] at hgo; exact hgo
  clear eH eL
  refine lv_aload_n hx hb dX10_feed_0 rfl (lv_at hl 0 rfl) ?_
  refine va_get (D := G.1) (cl := vwCl) (ci := 10) (v := .ref ad_t_now) (C := RX10) (T := TX10) (N := 8) hx hb hts inG10 hown hK hP 0 rfl rfl 0 (Nat.le_of_ble_eq_true rfl) (hts _ q560) (fun _ h9 => h9) rfl dX10_feed_1 ?_
  refine va_get (D := G.1) (cl := vwCl) (ci := 6) (v := .ref ad_t_now_tape) (C := RX6) (T := TX6) (N := 7) hx hb hts inG6 hown hK hP 1 rfl rfl 1 (Nat.le_of_ble_eq_true rfl) (hts _ q220) (fun _ h9 => h9) rfl dX10_feed_4 ?_
  refine lv_astore (lv' := [(6, .ref ad_t_now_tape), (0, .ref ad_t), (1, .int p0), (2, .int p1), (3, .int p2), (4, .int p3), (5, .int p4)]) hx hb dX10_feed_7 hl (by decide) rfl (fun ls hl => ?_)
  refine lv_aload hx hb dX10_feed_9 (lv_at hl 0 rfl) ?_
  refine lv_bipush (v := 20) hx hb dX10_feed_11 (by decide) ?_
  refine kPV (tX7_hasRoom l G ad_t_now_tape ad_t_now_tape_bytes t_now_tapeI (20 : Int32) _ rfl) ⟨hx, hb, hml, hown, hts⟩ q589 q590 q591 q99 q592 okyX7_hasRoom ⟨Nat.le_of_ble_eq_true rfl, Nat.le_of_ble_eq_true rfl⟩ hP hG hS [2] rfl 2 rfl rfl hl.1 rfl (Nat.le_of_ble_eq_true rfl) dX10_feed_13 ⟨Nat.zero_le _, Nat.zero_le _⟩ (fun locs hS => ?_)
  refine W.eq (g2 := F0 m 16 ls [.int (bi (fX7_hasRoom t_now_tapeI (20 : Int32)))]) rfl ?_
  refine lv_if_ne (tgt := 21) hx hb dX10_feed_16 (by decide) (fun c12 => ?_) (fun c12 => ?_)
  · have hf := if_f hf c12
    refine lv_aload hx hb dX10_feed_21 (lv_at hl 0 rfl) ?_
    refine lv_iload_n hx hb dX10_feed_23 rfl (lv_at hl 2 rfl) ?_
    obtain ⟨a13, h14, hf⟩ := bn_some hf
    refine kEV (tX7_append l G ad_t_now_tape ad_t_now_tape_bytes t_now_tapeI t_now_tape_bytes p0 a13 h14) ⟨hx, hb, hml, hown, hts⟩ q593 q594 q595 q99 q596 okyX7_append ⟨Nat.le_of_ble_eq_true rfl, Nat.le_of_ble_eq_true rfl⟩ hP hD hG hS hA [2, 3] [0, 1] rfl (wr := [(ad_t, .inr (10, [.ref ad_t_now, .ref ad_t_images, .ref ad_t_past, .ref ad_t_wiring, .ref ad_t_form, .ref ad_t_trial, .ref ad_t_reader, .ref ad_t_text])), (ad_t_now, .inr (6, [.ref ad_t_now_memory, .ref ad_t_now_tape, .int (t_nowI 2), .int (t_nowI 3), .int (t_nowI 4), .int (t_nowI 5), .int (t_nowI 6)]))]) rfl (by decide) 2 rfl rfl hl.1 rfl (Nat.le_of_ble_eq_true rfl) dX10_feed_24 ⟨Nat.zero_le _, Nat.zero_le _⟩ (fun r w H locs hR hP hD hS => ?_)
    obtain ⟨rfl, rfl⟩ := hR
    have hP : va_P G.1 vwCl [(ad_t, .inr (10, [.ref ad_t_now, .ref ad_t_images, .ref ad_t_past, .ref ad_t_wiring, .ref ad_t_form, .ref ad_t_trial, .ref ad_t_reader, .ref ad_t_text])), (ad_t_now, .inr (6, [.ref ad_t_now_memory, .ref ad_t_now_tape, .int (t_nowI 2), .int (t_nowI 3), .int (t_nowI 4), .int (t_nowI 5), .int (t_nowI 6)])), (ad_t_now_tape, .inr (7, [.ref ad_t_now_tape_bytes, .int (a13.1 1)])), (ad_t_now_tape_bytes, .inl (G.2.1 1, 300, .inl a13.2))] H := hP
    have hD : va_D A [(ad_t, .inr (10, [.ref ad_t_now, .ref ad_t_images, .ref ad_t_past, .ref ad_t_wiring, .ref ad_t_form, .ref ad_t_trial, .ref ad_t_reader, .ref ad_t_text])), (ad_t_now, .inr (6, [.ref ad_t_now_memory, .ref ad_t_now_tape, .int (t_nowI 2), .int (t_nowI 3), .int (t_nowI 4), .int (t_nowI 5), .int (t_nowI 6)])), (ad_t_now_tape, .inr (7, [.ref ad_t_now_tape_bytes, .int (a13.1 1)])), (ad_t_now_tape_bytes, .inl (G.2.1 1, 300, .inl a13.2))] := hD
    refine W.eq (g2 := F0 m 27 ls []) rfl ?_
    refine lv_aload hx hb dX10_feed_27 (lv_at hl 0 rfl) ?_
    refine lv_iload_n hx hb dX10_feed_29 rfl (lv_at hl 3 rfl) ?_
    obtain ⟨a15, h16, hf⟩ := bn_some hf
    refine kEV (tX7_append l G ad_t_now_tape ad_t_now_tape_bytes a13.1 a13.2 p1 a15 h16) ⟨hx, hb, hml, hown, hts⟩ q593 q594 q595 q99 q596 okyX7_append ⟨Nat.le_of_ble_eq_true rfl, Nat.le_of_ble_eq_true rfl⟩ hP hD hG hS hA [2, 3] [0, 1] rfl (wr := [(ad_t, .inr (10, [.ref ad_t_now, .ref ad_t_images, .ref ad_t_past, .ref ad_t_wiring, .ref ad_t_form, .ref ad_t_trial, .ref ad_t_reader, .ref ad_t_text])), (ad_t_now, .inr (6, [.ref ad_t_now_memory, .ref ad_t_now_tape, .int (t_nowI 2), .int (t_nowI 3), .int (t_nowI 4), .int (t_nowI 5), .int (t_nowI 6)]))]) rfl (by decide) 2 rfl rfl hl.1 rfl (Nat.le_of_ble_eq_true rfl) dX10_feed_30 ⟨Nat.zero_le _, Nat.zero_le _⟩ (fun r w H locs hR hP hD hS => ?_)
    obtain ⟨rfl, rfl⟩ := hR
    have hP : va_P G.1 vwCl [(ad_t, .inr (10, [.ref ad_t_now, .ref ad_t_images, .ref ad_t_past, .ref ad_t_wiring, .ref ad_t_form, .ref ad_t_trial, .ref ad_t_reader, .ref ad_t_text])), (ad_t_now, .inr (6, [.ref ad_t_now_memory, .ref ad_t_now_tape, .int (t_nowI 2), .int (t_nowI 3), .int (t_nowI 4), .int (t_nowI 5), .int (t_nowI 6)])), (ad_t_now_tape, .inr (7, [.ref ad_t_now_tape_bytes, .int (a15.1 1)])), (ad_t_now_tape_bytes, .inl (G.2.1 1, 300, .inl a15.2))] H := hP
    have hD : va_D A [(ad_t, .inr (10, [.ref ad_t_now, .ref ad_t_images, .ref ad_t_past, .ref ad_t_wiring, .ref ad_t_form, .ref ad_t_trial, .ref ad_t_reader, .ref ad_t_text])), (ad_t_now, .inr (6, [.ref ad_t_now_memory, .ref ad_t_now_tape, .int (t_nowI 2), .int (t_nowI 3), .int (t_nowI 4), .int (t_nowI 5), .int (t_nowI 6)])), (ad_t_now_tape, .inr (7, [.ref ad_t_now_tape_bytes, .int (a15.1 1)])), (ad_t_now_tape_bytes, .inl (G.2.1 1, 300, .inl a15.2))] := hD
    refine W.eq (g2 := F0 m 33 ls []) rfl ?_
    refine lv_aload hx hb dX10_feed_33 (lv_at hl 0 rfl) ?_
    refine lv_iload_n hx hb dX10_feed_35 rfl (lv_at hl 4 rfl) ?_
    obtain ⟨a17, h18, hf⟩ := bn_some hf
    refine kEV (tX7_append l G ad_t_now_tape ad_t_now_tape_bytes a15.1 a15.2 p2 a17 h18) ⟨hx, hb, hml, hown, hts⟩ q593 q594 q595 q99 q596 okyX7_append ⟨Nat.le_of_ble_eq_true rfl, Nat.le_of_ble_eq_true rfl⟩ hP hD hG hS hA [2, 3] [0, 1] rfl (wr := [(ad_t, .inr (10, [.ref ad_t_now, .ref ad_t_images, .ref ad_t_past, .ref ad_t_wiring, .ref ad_t_form, .ref ad_t_trial, .ref ad_t_reader, .ref ad_t_text])), (ad_t_now, .inr (6, [.ref ad_t_now_memory, .ref ad_t_now_tape, .int (t_nowI 2), .int (t_nowI 3), .int (t_nowI 4), .int (t_nowI 5), .int (t_nowI 6)]))]) rfl (by decide) 2 rfl rfl hl.1 rfl (Nat.le_of_ble_eq_true rfl) dX10_feed_36 ⟨Nat.zero_le _, Nat.zero_le _⟩ (fun r w H locs hR hP hD hS => ?_)
    obtain ⟨rfl, rfl⟩ := hR
    have hP : va_P G.1 vwCl [(ad_t, .inr (10, [.ref ad_t_now, .ref ad_t_images, .ref ad_t_past, .ref ad_t_wiring, .ref ad_t_form, .ref ad_t_trial, .ref ad_t_reader, .ref ad_t_text])), (ad_t_now, .inr (6, [.ref ad_t_now_memory, .ref ad_t_now_tape, .int (t_nowI 2), .int (t_nowI 3), .int (t_nowI 4), .int (t_nowI 5), .int (t_nowI 6)])), (ad_t_now_tape, .inr (7, [.ref ad_t_now_tape_bytes, .int (a17.1 1)])), (ad_t_now_tape_bytes, .inl (G.2.1 1, 300, .inl a17.2))] H := hP
    have hD : va_D A [(ad_t, .inr (10, [.ref ad_t_now, .ref ad_t_images, .ref ad_t_past, .ref ad_t_wiring, .ref ad_t_form, .ref ad_t_trial, .ref ad_t_reader, .ref ad_t_text])), (ad_t_now, .inr (6, [.ref ad_t_now_memory, .ref ad_t_now_tape, .int (t_nowI 2), .int (t_nowI 3), .int (t_nowI 4), .int (t_nowI 5), .int (t_nowI 6)])), (ad_t_now_tape, .inr (7, [.ref ad_t_now_tape_bytes, .int (a17.1 1)])), (ad_t_now_tape_bytes, .inl (G.2.1 1, 300, .inl a17.2))] := hD
    refine W.eq (g2 := F0 m 39 ls []) rfl ?_
    refine lv_aload hx hb dX10_feed_39 (lv_at hl 0 rfl) ?_
    refine lv_iload hx hb dX10_feed_41 (lv_at hl 5 rfl) ?_
    obtain ⟨a19, h20, hf⟩ := bn_some hf
    refine kEV (tX7_append l G ad_t_now_tape ad_t_now_tape_bytes a17.1 a17.2 p3 a19 h20) ⟨hx, hb, hml, hown, hts⟩ q593 q594 q595 q99 q596 okyX7_append ⟨Nat.le_of_ble_eq_true rfl, Nat.le_of_ble_eq_true rfl⟩ hP hD hG hS hA [2, 3] [0, 1] rfl (wr := [(ad_t, .inr (10, [.ref ad_t_now, .ref ad_t_images, .ref ad_t_past, .ref ad_t_wiring, .ref ad_t_form, .ref ad_t_trial, .ref ad_t_reader, .ref ad_t_text])), (ad_t_now, .inr (6, [.ref ad_t_now_memory, .ref ad_t_now_tape, .int (t_nowI 2), .int (t_nowI 3), .int (t_nowI 4), .int (t_nowI 5), .int (t_nowI 6)]))]) rfl (by decide) 2 rfl rfl hl.1 rfl (Nat.le_of_ble_eq_true rfl) dX10_feed_43 ⟨Nat.zero_le _, Nat.zero_le _⟩ (fun r w H locs hR hP hD hS => ?_)
    obtain ⟨rfl, rfl⟩ := hR
    have hP : va_P G.1 vwCl [(ad_t, .inr (10, [.ref ad_t_now, .ref ad_t_images, .ref ad_t_past, .ref ad_t_wiring, .ref ad_t_form, .ref ad_t_trial, .ref ad_t_reader, .ref ad_t_text])), (ad_t_now, .inr (6, [.ref ad_t_now_memory, .ref ad_t_now_tape, .int (t_nowI 2), .int (t_nowI 3), .int (t_nowI 4), .int (t_nowI 5), .int (t_nowI 6)])), (ad_t_now_tape, .inr (7, [.ref ad_t_now_tape_bytes, .int (a19.1 1)])), (ad_t_now_tape_bytes, .inl (G.2.1 1, 300, .inl a19.2))] H := hP
    have hD : va_D A [(ad_t, .inr (10, [.ref ad_t_now, .ref ad_t_images, .ref ad_t_past, .ref ad_t_wiring, .ref ad_t_form, .ref ad_t_trial, .ref ad_t_reader, .ref ad_t_text])), (ad_t_now, .inr (6, [.ref ad_t_now_memory, .ref ad_t_now_tape, .int (t_nowI 2), .int (t_nowI 3), .int (t_nowI 4), .int (t_nowI 5), .int (t_nowI 6)])), (ad_t_now_tape, .inr (7, [.ref ad_t_now_tape_bytes, .int (a19.1 1)])), (ad_t_now_tape_bytes, .inl (G.2.1 1, 300, .inl a19.2))] := hD
    refine W.eq (g2 := F0 m 46 ls []) rfl ?_
    refine lv_aload hx hb dX10_feed_46 (lv_at hl 0 rfl) ?_
    refine lv_iload hx hb dX10_feed_48 (lv_at hl 6 rfl) ?_
    obtain ⟨a21, h22, hf⟩ := bn_some hf
    refine kEV (tX7_append l G ad_t_now_tape ad_t_now_tape_bytes a19.1 a19.2 p4 a21 h22) ⟨hx, hb, hml, hown, hts⟩ q593 q594 q595 q99 q596 okyX7_append ⟨Nat.le_of_ble_eq_true rfl, Nat.le_of_ble_eq_true rfl⟩ hP hD hG hS hA [2, 3] [0, 1] rfl (wr := [(ad_t, .inr (10, [.ref ad_t_now, .ref ad_t_images, .ref ad_t_past, .ref ad_t_wiring, .ref ad_t_form, .ref ad_t_trial, .ref ad_t_reader, .ref ad_t_text])), (ad_t_now, .inr (6, [.ref ad_t_now_memory, .ref ad_t_now_tape, .int (t_nowI 2), .int (t_nowI 3), .int (t_nowI 4), .int (t_nowI 5), .int (t_nowI 6)]))]) rfl (by decide) 2 rfl rfl hl.1 rfl (Nat.le_of_ble_eq_true rfl) dX10_feed_50 ⟨Nat.zero_le _, Nat.zero_le _⟩ (fun r w H locs hR hP hD hS => ?_)
    obtain ⟨rfl, rfl⟩ := hR
    have hP : va_P G.1 vwCl [(ad_t, .inr (10, [.ref ad_t_now, .ref ad_t_images, .ref ad_t_past, .ref ad_t_wiring, .ref ad_t_form, .ref ad_t_trial, .ref ad_t_reader, .ref ad_t_text])), (ad_t_now, .inr (6, [.ref ad_t_now_memory, .ref ad_t_now_tape, .int (t_nowI 2), .int (t_nowI 3), .int (t_nowI 4), .int (t_nowI 5), .int (t_nowI 6)])), (ad_t_now_tape, .inr (7, [.ref ad_t_now_tape_bytes, .int (a21.1 1)])), (ad_t_now_tape_bytes, .inl (G.2.1 1, 300, .inl a21.2))] H := hP
    have hD : va_D A [(ad_t, .inr (10, [.ref ad_t_now, .ref ad_t_images, .ref ad_t_past, .ref ad_t_wiring, .ref ad_t_form, .ref ad_t_trial, .ref ad_t_reader, .ref ad_t_text])), (ad_t_now, .inr (6, [.ref ad_t_now_memory, .ref ad_t_now_tape, .int (t_nowI 2), .int (t_nowI 3), .int (t_nowI 4), .int (t_nowI 5), .int (t_nowI 6)])), (ad_t_now_tape, .inr (7, [.ref ad_t_now_tape_bytes, .int (a21.1 1)])), (ad_t_now_tape_bytes, .inl (G.2.1 1, 300, .inl a21.2))] := hD
    refine W.eq (g2 := F0 m 53 ls []) rfl ?_
    refine lv_aload hx hb dX10_feed_53 (lv_at hl 0 rfl) ?_
    refine va_get (D := G.1) (cl := vwCl) (ci := 7) (v := .int (a21.1 1)) (C := RX7) (T := TX7) (N := 2) hx hb hts inG7 hown hK hP 2 rfl rfl 1 (Nat.le_of_ble_eq_true rfl) (hts _ q209) (fun _ h9 => h9) rfl dX10_feed_55 ?_
    have hf := Option.some.inj hf
    subst hf
    exact eRet hx hb hr hlocks hP hD hS ⟨rfl, rfl⟩ dX10_feed_58
  · have hf := if_t hf c12
    refine lv_iconst (v := -1) hx hb dX10_feed_19 (by decide) ?_
    have hf := Option.some.inj hf
    subst hf
    exact eRet hx hb hr hlocks hP hD hS ⟨rfl, rfl⟩ dX10_feed_20

def fX10_test (t_now_memory_specI : Nat → Int32) (t_now_memory_spec_badBits : Nat → Int32) (t_wiring_repairI : Nat → Int32) (p0 : Int32) : Option (Int32) :=
  bn (fX9_wrong t_wiring_repairI t_now_memory_specI t_now_memory_spec_badBits (if p0 = 0 then (0 : Int32) else (1 : Int32))) fun a1 => some a1
set_option maxRecDepth 100000 in
set_option maxHeartbeats 4000000 in
theorem tX10_test (l : Launch) (G : gG) (ad_t ad_t_now ad_t_images ad_t_past ad_t_wiring ad_t_form ad_t_trial ad_t_reader ad_t_text ad_t_now_memory ad_t_now_tape ad_t_now_memory_spec ad_t_now_memory_words ad_t_now_memory_spares ad_t_now_memory_spec_numbers ad_t_now_memory_spec_badRows ad_t_now_memory_spec_badColumns ad_t_now_memory_spec_badBits ad_t_wiring_repair ad_t_wiring_repair_rows ad_t_wiring_repair_columns ad_t_wiring_repair_candidates ad_t_wiring_repair_left : Nat) (t_nowI : Nat → Int32) (t_now_memory_specI : Nat → Int32) (t_now_memory_spec_badBits : Nat → Int32) (t_wiringI : Nat → Int32) (t_wiring_repairI : Nat → Int32) (p0 : Int32) (o : Int32) (hf : fX10_test t_now_memory_specI t_now_memory_spec_badBits t_wiring_repairI p0 = some o) : mP G l yX10_test cX10_test 2 (some .int) 1 24 [.ref ad_t, .int p0] [(ad_t, .inr (10, [.ref ad_t_now, .ref ad_t_images, .ref ad_t_past, .ref ad_t_wiring, .ref ad_t_form, .ref ad_t_trial, .ref ad_t_reader, .ref ad_t_text])), (ad_t_now, .inr (6, [.ref ad_t_now_memory, .ref ad_t_now_tape, .int (t_nowI 2), .int (t_nowI 3), .int (t_nowI 4), .int (t_nowI 5), .int (t_nowI 6)])), (ad_t_now_memory, .inr (0, [.ref ad_t_now_memory_spec, .ref ad_t_now_memory_words, .ref ad_t_now_memory_spares])), (ad_t_now_memory_spec, .inr (5, [.ref ad_t_now_memory_spec_numbers, .ref ad_t_now_memory_spec_badRows, .ref ad_t_now_memory_spec_badColumns, .ref ad_t_now_memory_spec_badBits, .int (t_now_memory_specI 4)])), (ad_t_now_memory_spec_badBits, .inl (G.2.1 0, 12, .inl t_now_memory_spec_badBits)), (ad_t_wiring, .inr (9, [.ref ad_t_wiring_repair, .int (t_wiringI 1), .int (t_wiringI 2), .int (t_wiringI 3), .int (t_wiringI 4)])), (ad_t_wiring_repair, .inr (3, [.ref ad_t_wiring_repair_rows, .ref ad_t_wiring_repair_columns, .int (t_wiring_repairI 2), .int (t_wiring_repairI 3), .int (t_wiring_repairI 4), .int (t_wiring_repairI 5), .ref ad_t_wiring_repair_candidates, .ref ad_t_wiring_repair_left, .int (t_wiring_repairI 8)]))] (some (.int o)) := by
  refine mP_of (by decide) (Nat.le_of_ble_eq_true rfl) ?_
  intro p e s m below meth cd ls hx hb hml hown hts hr hlocks hl hP hG
  have hK := hG.1
  have hown : s.vm.findClass RX10 = some m.cls := hown
  have hl : lv_has ls 2 [(0, .ref ad_t), (1, .int p0)] := hl
  have hS : va_S no s.heap s.heap [] := va_S.rf
  generalize ([] : List Loc) = locs at hS ⊢
  unfold fX10_test at hf
  show wG p l e 1 24 s m [.ref ad_t, .int p0] below meth cd s.heap locs (pQ (some (.int o))) no (F0 m 0 ls [])
  refine lv_aload_n hx hb dX10_test_0 rfl (lv_at hl 0 rfl) ?_
  refine va_get (D := G.1) (cl := vwCl) (ci := 10) (v := .ref ad_t_wiring) (C := RX10) (T := TX10) (N := 8) hx hb hts inG10 hown hK hP 0 rfl rfl 3 (Nat.le_of_ble_eq_true rfl) (hts _ q563) (fun _ h9 => h9) rfl dX10_test_1 ?_
  refine lv_aload_n hx hb dX10_test_4 rfl (lv_at hl 0 rfl) ?_
  refine va_get (D := G.1) (cl := vwCl) (ci := 10) (v := .ref ad_t_now) (C := RX10) (T := TX10) (N := 8) hx hb hts inG10 hown hK hP 0 rfl rfl 0 (Nat.le_of_ble_eq_true rfl) (hts _ q560) (fun _ h9 => h9) rfl dX10_test_5 ?_
  refine va_get (D := G.1) (cl := vwCl) (ci := 6) (v := .ref ad_t_now_memory) (C := RX6) (T := TX6) (N := 7) hx hb hts inG6 hown hK hP 1 rfl rfl 0 (Nat.le_of_ble_eq_true rfl) (hts _ q218) (fun _ h9 => h9) rfl dX10_test_8 ?_
  refine va_get (D := G.1) (cl := vwCl) (ci := 0) (v := .ref ad_t_now_memory_spec) (C := RX0) (T := TX0) (N := 3) hx hb hts inG0 hown hK hP 2 rfl rfl 0 (Nat.le_of_ble_eq_true rfl) (hts _ q188) (fun _ h9 => h9) rfl dX10_test_11 ?_
  refine lv_iload_n hx hb dX10_test_14 rfl (lv_at hl 1 rfl) ?_
  have J7 : wG p l e 1 24 s m [.ref ad_t, .int p0] below meth cd s.heap locs (pQ (some (.int o))) no (F0 m 23 ls [.int (if p0 = 0 then (0 : Int32) else (1 : Int32)), .ref ad_t_now_memory_spec, .ref ad_t_wiring]) := by
    obtain ⟨a5, h6, hf⟩ := bn_some hf
    refine kPV (tX9_wrong l G ad_t_wiring ad_t_wiring_repair ad_t_wiring_repair_rows ad_t_wiring_repair_columns ad_t_wiring_repair_candidates ad_t_wiring_repair_left ad_t_now_memory_spec ad_t_now_memory_spec_numbers ad_t_now_memory_spec_badRows ad_t_now_memory_spec_badColumns ad_t_now_memory_spec_badBits t_wiringI t_wiring_repairI t_now_memory_specI t_now_memory_spec_badBits (if p0 = 0 then (0 : Int32) else (1 : Int32)) a5 h6) ⟨hx, hb, hml, hown, hts⟩ q904 q905 q906 q101 q907 okyX9_wrong ⟨Nat.le_of_ble_eq_true rfl, Nat.le_of_ble_eq_true rfl⟩ hP hG hS [5, 6, 3, 4] rfl 5 rfl rfl hl.1 rfl (Nat.le_of_ble_eq_true rfl) dX10_test_23 ⟨Nat.zero_le _, Nat.zero_le _⟩ (fun locs hS => ?_)
    refine W.eq (g2 := F0 m 26 ls [.int a5]) rfl ?_
    have hf := Option.some.inj hf
    subst hf
    exact pRet hx hb hr hlocks hS dX10_test_26
  refine lv_if_eq (tgt := 22) hx hb dX10_test_15 (by decide) (fun c8 => ?_) (fun c8 => ?_)
  · refine lv_iconst (v := 0) hx hb dX10_test_22 (by decide) ?_
    exact (mgT c8 J7)
  · refine lv_iconst (v := 1) hx hb dX10_test_18 (by decide) ?_
    refine lv_goto (tgt := 23) hx hb dX10_test_19 (by decide) ?_
    exact (mgF c8 J7)
