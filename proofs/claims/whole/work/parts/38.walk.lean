def fX0_putSpareBit (t_spares : Nat → Int32) (p0 : Int32) (p1 : Int32) (p2 : Int32) : Option ((Nat → Int32)) :=
  (if ((p0 * (2 : Int32)) + p1) < 0 then some t_spares else (if (33 : Int32) ≤ (((p0 * (2 : Int32)) + p1) >>> ((5 : Int32) &&& 31)) then some t_spares else gd (gi (((p0 * (2 : Int32)) + p1) >>> ((5 : Int32) &&& 31)) 33) (gd (gi (((p0 * (2 : Int32)) + p1) >>> ((5 : Int32) &&& 31)) 33) (some (upd t_spares (((p0 * (2 : Int32)) + p1) >>> ((5 : Int32) &&& 31)).toNatClampNeg (fX0_withBit (t_spares (((p0 * (2 : Int32)) + p1) >>> ((5 : Int32) &&& 31)).toNatClampNeg) (((p0 * (2 : Int32)) + p1) &&& (31 : Int32)) p2))))))
set_option maxRecDepth 100000 in
set_option maxHeartbeats 4000000 in
theorem tX0_putSpareBit (l : Launch) (G : gG) (ad_t ad_t_spec ad_t_words ad_t_spares : Nat) (t_spares : Nat → Int32) (p0 : Int32) (p1 : Int32) (p2 : Int32) (o : (Nat → Int32)) (hf : fX0_putSpareBit t_spares p0 p1 p2 = some o) : mE G l yX0_putSpareBit cX0_putSpareBit 5 none 1 22 0 0 [.ref ad_t, .int p0, .int p1, .int p2] [(ad_t, .inr (0, [.ref ad_t_spec, .ref ad_t_words, .ref ad_t_spares])), (ad_t_spares, .inl (G.2.1 0, 33, .inl t_spares))] (fun r w => r = none ∧ w = [(ad_t, .inr (0, [.ref ad_t_spec, .ref ad_t_words, .ref ad_t_spares])), (ad_t_spares, .inl (G.2.1 0, 33, .inl o))]) := by
  refine mE_of (by decide) (Nat.le_of_ble_eq_true rfl) ?_
  intro p e s m below meth cd ls A hx hb hml hown hts hr hlocks hnm hl hA hP hD hS hG
  have hK := hG.1
  have hown : s.vm.findClass RX0 = some m.cls := hown
  have hl : lv_has ls 5 [(0, .ref ad_t), (1, .int p0), (2, .int p1), (3, .int p2)] := hl
  have hS := hS
  unfold fX0_putSpareBit at hf
  obtain ⟨H, locs, eH, eL⟩ : ∃ (H : Heap) (locs : List Loc), H = s.heap ∧ locs = [] := ⟨_, _, rfl, rfl⟩
  have hP : va_P G.1 vwCl [(ad_t, .inr (0, [.ref ad_t_spec, .ref ad_t_words, .ref ad_t_spares])), (ad_t_spares, .inl (G.2.1 0, 33, .inl t_spares))] H := eH ▸ hP
  have hS : va_S A s.heap H locs := by rw [eH, eL]; exact hS
  suffices hgo : wG p l e 1 22 s m [.ref ad_t, .int p0, .int p1, .int p2] below meth cd H locs (eQ G A (fun r w => r = none ∧ w = [(ad_t, .inr (0, [.ref ad_t_spec, .ref ad_t_words, .ref ad_t_spares])), (ad_t_spares, .inl (G.2.1 0, 33, .inl o))])) A (F0 m 0 ls []) by rw [eH, eL] at hgo; exact hgo
  clear eH eL
  refine lv_iload_n hx hb dX0_putSpareBit_0 rfl (lv_at hl 1 rfl) ?_
  refine lv_iconst (v := 2) hx hb dX0_putSpareBit_1 (by decide) ?_
  refine lv_imul hx hb dX0_putSpareBit_2 ?_
  refine lv_iload_n hx hb dX0_putSpareBit_3 rfl (lv_at hl 2 rfl) ?_
  refine lv_iadd hx hb dX0_putSpareBit_4 ?_
  refine lv_istore (lv' := [(4, .int ((p0 * (2 : Int32)) + p1)), (0, .ref ad_t), (1, .int p0), (2, .int p1), (3, .int p2)]) hx hb dX0_putSpareBit_5 hl (by decide) rfl (fun ls hl => ?_)
  refine lv_iload hx hb dX0_putSpareBit_7 (lv_at hl 0 rfl) ?_
  refine lv_if_lt (tgt := 48) hx hb dX0_putSpareBit_9 (by decide) (fun c5 => ?_) (fun c5 => ?_)
  · have hf := if_t hf c5
    have hf := Option.some.inj hf
    subst hf
    exact eRetV hx hb hr hlocks hP hD hS ⟨rfl, rfl⟩ dX0_putSpareBit_48
  · have hf := if_f hf c5
    refine lv_iload hx hb dX0_putSpareBit_12 (lv_at hl 0 rfl) ?_
    refine lv_iconst (v := 5) hx hb dX0_putSpareBit_14 (by decide) ?_
    refine lv_ishr hx hb dX0_putSpareBit_15 ?_
    refine lv_bipush (v := 33) hx hb dX0_putSpareBit_16 (by decide) ?_
    refine lv_icmp_ge (tgt := 48) hx hb dX0_putSpareBit_18 (by decide) (fun c6 => ?_) (fun c6 => ?_)
    · have hf := if_t hf c6
      have hf := Option.some.inj hf
      subst hf
      exact eRetV hx hb hr hlocks hP hD hS ⟨rfl, rfl⟩ dX0_putSpareBit_48
    · have hf := if_f hf c6
      refine lv_aload_n hx hb dX0_putSpareBit_21 rfl (lv_at hl 1 rfl) ?_
      refine va_get (D := G.1) (cl := vwCl) (ci := 0) (v := .ref ad_t_spares) (C := RX0) (T := TX0) (N := 3) hx hb hts inG0 hown hK hP 0 rfl rfl 2 (Nat.le_of_ble_eq_true rfl) (hts _ q191) (fun _ h9 => h9) rfl dX0_putSpareBit_22 ?_
      refine lv_iload hx hb dX0_putSpareBit_25 (lv_at hl 0 rfl) ?_
      refine lv_iconst (v := 5) hx hb dX0_putSpareBit_27 (by decide) ?_
      refine lv_ishr hx hb dX0_putSpareBit_28 ?_
      refine lv_aload_n hx hb dX0_putSpareBit_29 rfl (lv_at hl 1 rfl) ?_
      refine va_get (D := G.1) (cl := vwCl) (ci := 0) (v := .ref ad_t_spares) (C := RX0) (T := TX0) (N := 3) hx hb hts inG0 hown hK hP 0 rfl rfl 2 (Nat.le_of_ble_eq_true rfl) (hts _ q191) (fun _ h9 => h9) rfl dX0_putSpareBit_30 ?_
      refine lv_iload hx hb dX0_putSpareBit_33 (lv_at hl 0 rfl) ?_
      refine lv_iconst (v := 5) hx hb dX0_putSpareBit_35 (by decide) ?_
      refine lv_ishr hx hb dX0_putSpareBit_36 ?_
      obtain ⟨h7, hf⟩ := gd_some hf
      refine va_iald (D := G.1) (cl := vwCl) hx hb hK hP 1 0 rfl rfl (gi_in h7) dX0_putSpareBit_37 ?_
      refine lv_iload hx hb dX0_putSpareBit_38 (lv_at hl 0 rfl) ?_
      refine lv_bipush (v := 31) hx hb dX0_putSpareBit_40 (by decide) ?_
      refine lv_iand hx hb dX0_putSpareBit_42 ?_
      refine lv_iload_n hx hb dX0_putSpareBit_43 rfl (lv_at hl 4 rfl) ?_
      refine kPS (tX0_withBit l G (t_spares (((p0 * (2 : Int32)) + p1) >>> ((5 : Int32) &&& 31)).toNatClampNeg) (((p0 * (2 : Int32)) + p1) &&& (31 : Int32)) p2 _ rfl) ⟨hx, hb, hml, hown, hts⟩ q859 q860 q96 q861 okyX0_withBit ⟨Nat.le_of_ble_eq_true rfl, Nat.le_of_ble_eq_true rfl⟩ hP hG hS [] rfl hl.1 rfl (Nat.le_of_ble_eq_true rfl) dX0_putSpareBit_44 ⟨Nat.zero_le _, Nat.zero_le _⟩ (fun locs hS => ?_)
      refine W.eq (g2 := F0 m 47 ls [.int (fX0_withBit (t_spares (((p0 * (2 : Int32)) + p1) >>> ((5 : Int32) &&& 31)).toNatClampNeg) (((p0 * (2 : Int32)) + p1) &&& (31 : Int32)) p2), .int (((p0 * (2 : Int32)) + p1) >>> ((5 : Int32) &&& 31)), .ref ad_t_spares]) rfl ?_
      obtain ⟨h8, hf⟩ := gd_some hf
      refine va_iast (D := G.1) (cl := vwCl) hx hb hK hP hD hS 1 0 rfl rfl (gi_in h8) dX0_putSpareBit_47 (fun H locs hP hD hS => ?_)
      have hP : va_P G.1 vwCl [(ad_t, .inr (0, [.ref ad_t_spec, .ref ad_t_words, .ref ad_t_spares])), (ad_t_spares, .inl (G.2.1 0, 33, .inl (upd t_spares (((p0 * (2 : Int32)) + p1) >>> ((5 : Int32) &&& 31)).toNatClampNeg (fX0_withBit (t_spares (((p0 * (2 : Int32)) + p1) >>> ((5 : Int32) &&& 31)).toNatClampNeg) (((p0 * (2 : Int32)) + p1) &&& (31 : Int32)) p2))))] H := hP
      have hD : va_D A [(ad_t, .inr (0, [.ref ad_t_spec, .ref ad_t_words, .ref ad_t_spares])), (ad_t_spares, .inl (G.2.1 0, 33, .inl (upd t_spares (((p0 * (2 : Int32)) + p1) >>> ((5 : Int32) &&& 31)).toNatClampNeg (fX0_withBit (t_spares (((p0 * (2 : Int32)) + p1) >>> ((5 : Int32) &&& 31)).toNatClampNeg) (((p0 * (2 : Int32)) + p1) &&& (31 : Int32)) p2))))] := hD
      have hf := Option.some.inj hf
      subst hf
      exact eRetV hx hb hr hlocks hP hD hS ⟨rfl, rfl⟩ dX0_putSpareBit_48

def fX2_noteBad_j46 (tI : Nat → Int32) : Option ((Nat → Int32)) :=
  (if (tI 7) ≤ (1 : Int32) then some tI else bn (fX2_note tI (2 : Int32) (tI 5)) fun a4 => some a4)
def fX2_noteBad_j32 (x3 : Int32) (x4 : Int32) (tI : Nat → Int32) : Option ((Nat → Int32)) :=
  (if x3 < (256 : Int32) then fX2_noteBad_j46 tI else bn (fX2_note tI (2 : Int32) x4) fun a9 => fX2_noteBad_j46 a9)
def fX2_noteBad_j13 (x1 : Int32) (x2 : Int32) (x3 : Int32) (x4 : Int32) (tI : Nat → Int32) (t_toldI : Nat → Int32) (t_told_badRows : Nat → Int32) (t_told_badColumns : Nat → Int32) : Option ((Nat → Int32)) :=
  bn (fX5_find t_toldI t_told_badRows t_told_badColumns x1 x3) fun a1 => (if a1 = (-1 : Int32) then fX2_noteBad_j32 x3 x4 tI else bn (fX2_note tI (3 : Int32) x2) fun a14 => fX2_noteBad_j32 x3 x4 a14)
def fX2_noteBad (tI : Nat → Int32) (t_toldI : Nat → Int32) (t_told_badRows : Nat → Int32) (t_told_badColumns : Nat → Int32) (p0 : Int32) (p1 : Int32) (p2 : Int32) (p3 : Int32) : Option ((Nat → Int32)) :=
  (if p0 < (512 : Int32) then fX2_noteBad_j13 p0 p1 p2 p3 tI t_toldI t_told_badRows t_told_badColumns else bn (fX2_note tI (2 : Int32) p1) fun a19 => fX2_noteBad_j13 p0 p1 p2 p3 a19 t_toldI t_told_badRows t_told_badColumns)
set_option maxRecDepth 100000 in
set_option maxHeartbeats 4000000 in
theorem tX2_noteBad (l : Launch) (G : gG) (ad_t ad_t_told ad_t_source ad_t_told_numbers ad_t_told_badRows ad_t_told_badColumns ad_t_told_badBits : Nat) (tI : Nat → Int32) (t_toldI : Nat → Int32) (t_told_badRows : Nat → Int32) (t_told_badColumns : Nat → Int32) (p0 : Int32) (p1 : Int32) (p2 : Int32) (p3 : Int32) (o : (Nat → Int32)) (hf : fX2_noteBad tI t_toldI t_told_badRows t_told_badColumns p0 p1 p2 p3 = some o) : mE G l yX2_noteBad cX2_noteBad 5 none 1 23 0 0 [.ref ad_t, .int p0, .int p1, .int p2, .int p3] [(ad_t, .inr (2, [.ref ad_t_told, .int (tI 1), .int (tI 2), .ref ad_t_source, .int (tI 4), .int (tI 5), .int (tI 6), .int (tI 7)])), (ad_t_told, .inr (5, [.ref ad_t_told_numbers, .ref ad_t_told_badRows, .ref ad_t_told_badColumns, .ref ad_t_told_badBits, .int (t_toldI 4)])), (ad_t_told_badRows, .inl (G.2.1 0, 12, .inl t_told_badRows)), (ad_t_told_badColumns, .inl (G.2.1 0, 12, .inl t_told_badColumns))] (fun r w => r = none ∧ w = [(ad_t, .inr (2, [.ref ad_t_told, .int (o 1), .int (o 2), .ref ad_t_source, .int (o 4), .int (o 5), .int (o 6), .int (o 7)])), (ad_t_told, .inr (5, [.ref ad_t_told_numbers, .ref ad_t_told_badRows, .ref ad_t_told_badColumns, .ref ad_t_told_badBits, .int (t_toldI 4)])), (ad_t_told_badRows, .inl (G.2.1 0, 12, .inl t_told_badRows)), (ad_t_told_badColumns, .inl (G.2.1 0, 12, .inl t_told_badColumns))]) := by
  refine mE_of (by decide) (Nat.le_of_ble_eq_true rfl) ?_
  intro p e s m below meth cd ls A hx hb hml hown hts hr hlocks hnm hl hA hP hD hS hG
  have hK := hG.1
  have hown : s.vm.findClass RX2 = some m.cls := hown
  have hl : lv_has ls 5 [(0, .ref ad_t), (1, .int p0), (2, .int p1), (3, .int p2), (4, .int p3)] := hl
  have hS := hS
  unfold fX2_noteBad at hf
  obtain ⟨H, locs, eH, eL⟩ : ∃ (H : Heap) (locs : List Loc), H = s.heap ∧ locs = [] := ⟨_, _, rfl, rfl⟩
  have hP : va_P G.1 vwCl [(ad_t, .inr (2, [.ref ad_t_told, .int (tI 1), .int (tI 2), .ref ad_t_source, .int (tI 4), .int (tI 5), .int (tI 6), .int (tI 7)])), (ad_t_told, .inr (5, [.ref ad_t_told_numbers, .ref ad_t_told_badRows, .ref ad_t_told_badColumns, .ref ad_t_told_badBits, .int (t_toldI 4)])), (ad_t_told_badRows, .inl (G.2.1 0, 12, .inl t_told_badRows)), (ad_t_told_badColumns, .inl (G.2.1 0, 12, .inl t_told_badColumns))] H := eH ▸ hP
  have hS : va_S A s.heap H locs := by rw [eH, eL]; exact hS
  suffices hgo : wG p l e 1 23 s m [.ref ad_t, .int p0, .int p1, .int p2, .int p3] below meth cd H locs (eQ G A (fun r w => r = none ∧ w = [(ad_t, .inr (2, [.ref ad_t_told, .int (o 1), .int (o 2), .ref ad_t_source, .int (o 4), .int (o 5), .int (o 6), .int (o 7)])), (ad_t_told, .inr (5, [.ref ad_t_told_numbers, .ref ad_t_told_badRows, .ref ad_t_told_badColumns, .ref ad_t_told_badBits, .int (t_toldI 4)])), (ad_t_told_badRows, .inl (G.2.1 0, 12, .inl t_told_badRows)), (ad_t_told_badColumns, .inl (G.2.1 0, 12, .inl t_told_badColumns))])) A (F0 m 0 ls []) by rw [eH, eL] at hgo; exact hgo
  clear eH eL
  refine lv_iload_n hx hb dX2_noteBad_0 rfl (lv_at hl 1 rfl) ?_
  refine lv_sipush (v := 512) hx hb dX2_noteBad_1 (by decide) ?_
  have J13_k22 : ∀ (g21 : Nat → Int32) (H : Heap) (locs : List Loc) (ls : Array Slot), lv_has ls 5 [(0, .ref ad_t), (1, .int p0), (2, .int p1), (3, .int p2), (4, .int p3)] → va_P G.1 vwCl [(ad_t, .inr (2, [.ref ad_t_told, .int (g21 1), .int (g21 2), .ref ad_t_source, .int (g21 4), .int (g21 5), .int (g21 6), .int (g21 7)])), (ad_t_told, .inr (5, [.ref ad_t_told_numbers, .ref ad_t_told_badRows, .ref ad_t_told_badColumns, .ref ad_t_told_badBits, .int (t_toldI 4)])), (ad_t_told_badRows, .inl (G.2.1 0, 12, .inl t_told_badRows)), (ad_t_told_badColumns, .inl (G.2.1 0, 12, .inl t_told_badColumns))] H → va_D A [(ad_t, .inr (2, [.ref ad_t_told, .int (g21 1), .int (g21 2), .ref ad_t_source, .int (g21 4), .int (g21 5), .int (g21 6), .int (g21 7)])), (ad_t_told, .inr (5, [.ref ad_t_told_numbers, .ref ad_t_told_badRows, .ref ad_t_told_badColumns, .ref ad_t_told_badBits, .int (t_toldI 4)])), (ad_t_told_badRows, .inl (G.2.1 0, 12, .inl t_told_badRows)), (ad_t_told_badColumns, .inl (G.2.1 0, 12, .inl t_told_badColumns))] → va_S A s.heap H locs → fX2_noteBad_j13 p0 p1 p2 p3 g21 t_toldI t_told_badRows t_told_badColumns = some o → wG p l e 1 23 s m [.ref ad_t, .int p0, .int p1, .int p2, .int p3] below meth cd H locs (eQ G A (fun r w => r = none ∧ w = [(ad_t, .inr (2, [.ref ad_t_told, .int (o 1), .int (o 2), .ref ad_t_source, .int (o 4), .int (o 5), .int (o 6), .int (o 7)])), (ad_t_told, .inr (5, [.ref ad_t_told_numbers, .ref ad_t_told_badRows, .ref ad_t_told_badColumns, .ref ad_t_told_badBits, .int (t_toldI 4)])), (ad_t_told_badRows, .inl (G.2.1 0, 12, .inl t_told_badRows)), (ad_t_told_badColumns, .inl (G.2.1 0, 12, .inl t_told_badColumns))])) A (F0 m 13 ls []) := by
    intro g21 H locs ls hl hP hD hS hf
    unfold fX2_noteBad_j13 at hf
    refine lv_aload_n hx hb dX2_noteBad_13 rfl (lv_at hl 0 rfl) ?_
    refine va_get (D := G.1) (cl := vwCl) (ci := 2) (v := .ref ad_t_told) (C := RX2) (T := TX2) (N := 8) hx hb hts inG2 hown hK hP 0 rfl rfl 0 (Nat.le_of_ble_eq_true rfl) (hts _ q420) (fun _ h9 => h9) rfl dX2_noteBad_14 ?_
    refine lv_iload_n hx hb dX2_noteBad_17 rfl (lv_at hl 1 rfl) ?_
    refine lv_iload_n hx hb dX2_noteBad_18 rfl (lv_at hl 3 rfl) ?_
    obtain ⟨a23, h24, hf⟩ := bn_some hf
    refine kPV (tX5_find l G ad_t_told ad_t_told_numbers ad_t_told_badRows ad_t_told_badColumns ad_t_told_badBits t_toldI t_told_badRows t_told_badColumns p0 p2 a23 h24) ⟨hx, hb, hml, hown, hts⟩ q734 q735 q736 q97 q737 okyX5_find ⟨Nat.le_of_ble_eq_true rfl, Nat.le_of_ble_eq_true rfl⟩ hP hG hS [1, 2, 3] rfl 1 rfl rfl hl.1 rfl (Nat.le_of_ble_eq_true rfl) dX2_noteBad_19 ⟨Nat.zero_le _, Nat.zero_le _⟩ (fun locs hS => ?_)
    refine W.eq (g2 := F0 m 22 ls [.int a23]) rfl ?_
    refine lv_iconst (v := -1) hx hb dX2_noteBad_22 (by decide) ?_
    have J32_k26 : ∀ (g25 : Nat → Int32) (H : Heap) (locs : List Loc) (ls : Array Slot), lv_has ls 5 [(0, .ref ad_t), (3, .int p2), (4, .int p3)] → va_P G.1 vwCl [(ad_t, .inr (2, [.ref ad_t_told, .int (g25 1), .int (g25 2), .ref ad_t_source, .int (g25 4), .int (g25 5), .int (g25 6), .int (g25 7)])), (ad_t_told, .inr (5, [.ref ad_t_told_numbers, .ref ad_t_told_badRows, .ref ad_t_told_badColumns, .ref ad_t_told_badBits, .int (t_toldI 4)])), (ad_t_told_badRows, .inl (G.2.1 0, 12, .inl t_told_badRows)), (ad_t_told_badColumns, .inl (G.2.1 0, 12, .inl t_told_badColumns))] H → va_D A [(ad_t, .inr (2, [.ref ad_t_told, .int (g25 1), .int (g25 2), .ref ad_t_source, .int (g25 4), .int (g25 5), .int (g25 6), .int (g25 7)])), (ad_t_told, .inr (5, [.ref ad_t_told_numbers, .ref ad_t_told_badRows, .ref ad_t_told_badColumns, .ref ad_t_told_badBits, .int (t_toldI 4)])), (ad_t_told_badRows, .inl (G.2.1 0, 12, .inl t_told_badRows)), (ad_t_told_badColumns, .inl (G.2.1 0, 12, .inl t_told_badColumns))] → va_S A s.heap H locs → fX2_noteBad_j32 p2 p3 g25 = some o → wG p l e 1 23 s m [.ref ad_t, .int p0, .int p1, .int p2, .int p3] below meth cd H locs (eQ G A (fun r w => r = none ∧ w = [(ad_t, .inr (2, [.ref ad_t_told, .int (o 1), .int (o 2), .ref ad_t_source, .int (o 4), .int (o 5), .int (o 6), .int (o 7)])), (ad_t_told, .inr (5, [.ref ad_t_told_numbers, .ref ad_t_told_badRows, .ref ad_t_told_badColumns, .ref ad_t_told_badBits, .int (t_toldI 4)])), (ad_t_told_badRows, .inl (G.2.1 0, 12, .inl t_told_badRows)), (ad_t_told_badColumns, .inl (G.2.1 0, 12, .inl t_told_badColumns))])) A (F0 m 32 ls []) := by
      intro g25 H locs ls hl hP hD hS hf
      unfold fX2_noteBad_j32 at hf
      refine lv_iload_n hx hb dX2_noteBad_32 rfl (lv_at hl 1 rfl) ?_
      refine lv_sipush (v := 256) hx hb dX2_noteBad_33 (by decide) ?_
      have J46_k28 : ∀ (g27 : Nat → Int32) (H : Heap) (locs : List Loc) (ls : Array Slot), lv_has ls 5 [(0, .ref ad_t)] → va_P G.1 vwCl [(ad_t, .inr (2, [.ref ad_t_told, .int (g27 1), .int (g27 2), .ref ad_t_source, .int (g27 4), .int (g27 5), .int (g27 6), .int (g27 7)])), (ad_t_told, .inr (5, [.ref ad_t_told_numbers, .ref ad_t_told_badRows, .ref ad_t_told_badColumns, .ref ad_t_told_badBits, .int (t_toldI 4)])), (ad_t_told_badRows, .inl (G.2.1 0, 12, .inl t_told_badRows)), (ad_t_told_badColumns, .inl (G.2.1 0, 12, .inl t_told_badColumns))] H → va_D A [(ad_t, .inr (2, [.ref ad_t_told, .int (g27 1), .int (g27 2), .ref ad_t_source, .int (g27 4), .int (g27 5), .int (g27 6), .int (g27 7)])), (ad_t_told, .inr (5, [.ref ad_t_told_numbers, .ref ad_t_told_badRows, .ref ad_t_told_badColumns, .ref ad_t_told_badBits, .int (t_toldI 4)])), (ad_t_told_badRows, .inl (G.2.1 0, 12, .inl t_told_badRows)), (ad_t_told_badColumns, .inl (G.2.1 0, 12, .inl t_told_badColumns))] → va_S A s.heap H locs → fX2_noteBad_j46 g27 = some o → wG p l e 1 23 s m [.ref ad_t, .int p0, .int p1, .int p2, .int p3] below meth cd H locs (eQ G A (fun r w => r = none ∧ w = [(ad_t, .inr (2, [.ref ad_t_told, .int (o 1), .int (o 2), .ref ad_t_source, .int (o 4), .int (o 5), .int (o 6), .int (o 7)])), (ad_t_told, .inr (5, [.ref ad_t_told_numbers, .ref ad_t_told_badRows, .ref ad_t_told_badColumns, .ref ad_t_told_badBits, .int (t_toldI 4)])), (ad_t_told_badRows, .inl (G.2.1 0, 12, .inl t_told_badRows)), (ad_t_told_badColumns, .inl (G.2.1 0, 12, .inl t_told_badColumns))])) A (F0 m 46 ls []) := by
        intro g27 H locs ls hl hP hD hS hf
        unfold fX2_noteBad_j46 at hf
        refine lv_aload_n hx hb dX2_noteBad_46 rfl (lv_at hl 0 rfl) ?_
        refine va_get (D := G.1) (cl := vwCl) (ci := 2) (v := .int (g27 7)) (C := RX2) (T := TX2) (N := 8) hx hb hts inG2 hown hK hP 0 rfl rfl 7 (Nat.le_of_ble_eq_true rfl) (hts _ q430) (fun _ h9 => h9) rfl dX2_noteBad_47 ?_
        refine lv_iconst (v := 1) hx hb dX2_noteBad_50 (by decide) ?_
        refine lv_icmp_le (tgt := 63) hx hb dX2_noteBad_51 (by decide) (fun c29 => ?_) (fun c29 => ?_)
        · have hf := if_t hf c29
          have hf := Option.some.inj hf
          subst hf
          exact eRetV hx hb hr hlocks hP hD hS ⟨rfl, rfl⟩ dX2_noteBad_63
        · have hf := if_f hf c29
          refine lv_aload_n hx hb dX2_noteBad_54 rfl (lv_at hl 0 rfl) ?_
          refine lv_iconst (v := 2) hx hb dX2_noteBad_55 (by decide) ?_
          refine lv_aload_n hx hb dX2_noteBad_56 rfl (lv_at hl 0 rfl) ?_
          refine va_get (D := G.1) (cl := vwCl) (ci := 2) (v := .int (g27 5)) (C := RX2) (T := TX2) (N := 8) hx hb hts inG2 hown hK hP 0 rfl rfl 5 (Nat.le_of_ble_eq_true rfl) (hts _ q428) (fun _ h9 => h9) rfl dX2_noteBad_57 ?_
          obtain ⟨a30, h31, hf⟩ := bn_some hf
          refine kEV (tX2_note l G ad_t ad_t_told ad_t_source g27 (2 : Int32) (g27 5) a30 h31) ⟨hx, hb, hml, hown, hts⟩ q726 q728 q20 q104 q729 okyX2_note ⟨Nat.le_of_ble_eq_true rfl, Nat.le_of_ble_eq_true rfl⟩ hP hD hG hS hA [0] [1, 2, 3] rfl (wr := [(ad_t_told, .inr (5, [.ref ad_t_told_numbers, .ref ad_t_told_badRows, .ref ad_t_told_badColumns, .ref ad_t_told_badBits, .int (t_toldI 4)])), (ad_t_told_badRows, .inl (G.2.1 0, 12, .inl t_told_badRows)), (ad_t_told_badColumns, .inl (G.2.1 0, 12, .inl t_told_badColumns))]) rfl (by decide) 0 rfl rfl hl.1 rfl (Nat.le_of_ble_eq_true rfl) dX2_noteBad_60 ⟨Nat.zero_le _, Nat.zero_le _⟩ (fun r w H locs hR hP hD hS => ?_)
          obtain ⟨rfl, rfl⟩ := hR
          have hP : va_P G.1 vwCl [(ad_t_told, .inr (5, [.ref ad_t_told_numbers, .ref ad_t_told_badRows, .ref ad_t_told_badColumns, .ref ad_t_told_badBits, .int (t_toldI 4)])), (ad_t_told_badRows, .inl (G.2.1 0, 12, .inl t_told_badRows)), (ad_t_told_badColumns, .inl (G.2.1 0, 12, .inl t_told_badColumns)), (ad_t, .inr (2, [.ref ad_t_told, .int (a30 1), .int (a30 2), .ref ad_t_source, .int (a30 4), .int (a30 5), .int (a30 6), .int (a30 7)]))] H := hP
          have hD : va_D A [(ad_t_told, .inr (5, [.ref ad_t_told_numbers, .ref ad_t_told_badRows, .ref ad_t_told_badColumns, .ref ad_t_told_badBits, .int (t_toldI 4)])), (ad_t_told_badRows, .inl (G.2.1 0, 12, .inl t_told_badRows)), (ad_t_told_badColumns, .inl (G.2.1 0, 12, .inl t_told_badColumns)), (ad_t, .inr (2, [.ref ad_t_told, .int (a30 1), .int (a30 2), .ref ad_t_source, .int (a30 4), .int (a30 5), .int (a30 6), .int (a30 7)]))] := hD
          refine W.eq (g2 := F0 m 63 ls []) rfl ?_
          have hf := Option.some.inj hf
          subst hf
          have hP := hP.sub (ws' := [(ad_t, .inr (2, [.ref ad_t_told, .int (a30 1), .int (a30 2), .ref ad_t_source, .int (a30 4), .int (a30 5), .int (a30 6), .int (a30 7)])), (ad_t_told, .inr (5, [.ref ad_t_told_numbers, .ref ad_t_told_badRows, .ref ad_t_told_badColumns, .ref ad_t_told_badBits, .int (t_toldI 4)])), (ad_t_told_badRows, .inl (G.2.1 0, 12, .inl t_told_badRows)), (ad_t_told_badColumns, .inl (G.2.1 0, 12, .inl t_told_badColumns))]) [3, 0, 1, 2] rfl
          have hD := hD.sub (ws' := [(ad_t, .inr (2, [.ref ad_t_told, .int (a30 1), .int (a30 2), .ref ad_t_source, .int (a30 4), .int (a30 5), .int (a30 6), .int (a30 7)])), (ad_t_told, .inr (5, [.ref ad_t_told_numbers, .ref ad_t_told_badRows, .ref ad_t_told_badColumns, .ref ad_t_told_badBits, .int (t_toldI 4)])), (ad_t_told_badRows, .inl (G.2.1 0, 12, .inl t_told_badRows)), (ad_t_told_badColumns, .inl (G.2.1 0, 12, .inl t_told_badColumns))]) [3, 0, 1, 2] (by decide) rfl
          exact eRetV hx hb hr hlocks hP hD hS ⟨rfl, rfl⟩ dX2_noteBad_63
      refine lv_icmp_lt (tgt := 46) hx hb dX2_noteBad_36 (by decide) (fun c32 => ?_) (fun c32 => ?_)
      · have hf := if_t hf c32
        exact J46_k28 g25 H locs ls (lv_sub hl [0] rfl) hP hD hS hf
      · have hf := if_f hf c32
        refine lv_aload_n hx hb dX2_noteBad_39 rfl (lv_at hl 0 rfl) ?_
        refine lv_iconst (v := 2) hx hb dX2_noteBad_40 (by decide) ?_
        refine lv_iload hx hb dX2_noteBad_41 (lv_at hl 2 rfl) ?_
        obtain ⟨a33, h34, hf⟩ := bn_some hf
        refine kEV (tX2_note l G ad_t ad_t_told ad_t_source g25 (2 : Int32) p3 a33 h34) ⟨hx, hb, hml, hown, hts⟩ q726 q728 q20 q104 q729 okyX2_note ⟨Nat.le_of_ble_eq_true rfl, Nat.le_of_ble_eq_true rfl⟩ hP hD hG hS hA [0] [1, 2, 3] rfl (wr := [(ad_t_told, .inr (5, [.ref ad_t_told_numbers, .ref ad_t_told_badRows, .ref ad_t_told_badColumns, .ref ad_t_told_badBits, .int (t_toldI 4)])), (ad_t_told_badRows, .inl (G.2.1 0, 12, .inl t_told_badRows)), (ad_t_told_badColumns, .inl (G.2.1 0, 12, .inl t_told_badColumns))]) rfl (by decide) 0 rfl rfl hl.1 rfl (Nat.le_of_ble_eq_true rfl) dX2_noteBad_43 ⟨Nat.zero_le _, Nat.zero_le _⟩ (fun r w H locs hR hP hD hS => ?_)
        obtain ⟨rfl, rfl⟩ := hR
        have hP : va_P G.1 vwCl [(ad_t_told, .inr (5, [.ref ad_t_told_numbers, .ref ad_t_told_badRows, .ref ad_t_told_badColumns, .ref ad_t_told_badBits, .int (t_toldI 4)])), (ad_t_told_badRows, .inl (G.2.1 0, 12, .inl t_told_badRows)), (ad_t_told_badColumns, .inl (G.2.1 0, 12, .inl t_told_badColumns)), (ad_t, .inr (2, [.ref ad_t_told, .int (a33 1), .int (a33 2), .ref ad_t_source, .int (a33 4), .int (a33 5), .int (a33 6), .int (a33 7)]))] H := hP
        have hD : va_D A [(ad_t_told, .inr (5, [.ref ad_t_told_numbers, .ref ad_t_told_badRows, .ref ad_t_told_badColumns, .ref ad_t_told_badBits, .int (t_toldI 4)])), (ad_t_told_badRows, .inl (G.2.1 0, 12, .inl t_told_badRows)), (ad_t_told_badColumns, .inl (G.2.1 0, 12, .inl t_told_badColumns)), (ad_t, .inr (2, [.ref ad_t_told, .int (a33 1), .int (a33 2), .ref ad_t_source, .int (a33 4), .int (a33 5), .int (a33 6), .int (a33 7)]))] := hD
        refine W.eq (g2 := F0 m 46 ls []) rfl ?_
        have hP := hP.sub (ws' := [(ad_t, .inr (2, [.ref ad_t_told, .int (a33 1), .int (a33 2), .ref ad_t_source, .int (a33 4), .int (a33 5), .int (a33 6), .int (a33 7)])), (ad_t_told, .inr (5, [.ref ad_t_told_numbers, .ref ad_t_told_badRows, .ref ad_t_told_badColumns, .ref ad_t_told_badBits, .int (t_toldI 4)])), (ad_t_told_badRows, .inl (G.2.1 0, 12, .inl t_told_badRows)), (ad_t_told_badColumns, .inl (G.2.1 0, 12, .inl t_told_badColumns))]) [3, 0, 1, 2] rfl
        have hD := hD.sub (ws' := [(ad_t, .inr (2, [.ref ad_t_told, .int (a33 1), .int (a33 2), .ref ad_t_source, .int (a33 4), .int (a33 5), .int (a33 6), .int (a33 7)])), (ad_t_told, .inr (5, [.ref ad_t_told_numbers, .ref ad_t_told_badRows, .ref ad_t_told_badColumns, .ref ad_t_told_badBits, .int (t_toldI 4)])), (ad_t_told_badRows, .inl (G.2.1 0, 12, .inl t_told_badRows)), (ad_t_told_badColumns, .inl (G.2.1 0, 12, .inl t_told_badColumns))]) [3, 0, 1, 2] (by decide) rfl
        exact J46_k28 a33 H locs ls (lv_sub hl [0] rfl) hP hD hS hf
    refine lv_icmp_eq (tgt := 32) hx hb dX2_noteBad_23 (by decide) (fun c35 => ?_) (fun c35 => ?_)
    · have hf := if_t hf c35
      exact J32_k26 g21 H locs ls (lv_sub hl [0, 3, 4] rfl) hP hD hS hf
    · have hf := if_f hf c35
      refine lv_aload_n hx hb dX2_noteBad_26 rfl (lv_at hl 0 rfl) ?_
      refine lv_iconst (v := 3) hx hb dX2_noteBad_27 (by decide) ?_
      refine lv_iload_n hx hb dX2_noteBad_28 rfl (lv_at hl 2 rfl) ?_
      obtain ⟨a36, h37, hf⟩ := bn_some hf
      refine kEV (tX2_note l G ad_t ad_t_told ad_t_source g21 (3 : Int32) p1 a36 h37) ⟨hx, hb, hml, hown, hts⟩ q726 q728 q20 q104 q729 okyX2_note ⟨Nat.le_of_ble_eq_true rfl, Nat.le_of_ble_eq_true rfl⟩ hP hD hG hS hA [0] [1, 2, 3] rfl (wr := [(ad_t_told, .inr (5, [.ref ad_t_told_numbers, .ref ad_t_told_badRows, .ref ad_t_told_badColumns, .ref ad_t_told_badBits, .int (t_toldI 4)])), (ad_t_told_badRows, .inl (G.2.1 0, 12, .inl t_told_badRows)), (ad_t_told_badColumns, .inl (G.2.1 0, 12, .inl t_told_badColumns))]) rfl (by decide) 0 rfl rfl hl.1 rfl (Nat.le_of_ble_eq_true rfl) dX2_noteBad_29 ⟨Nat.zero_le _, Nat.zero_le _⟩ (fun r w H locs hR hP hD hS => ?_)
      obtain ⟨rfl, rfl⟩ := hR
      have hP : va_P G.1 vwCl [(ad_t_told, .inr (5, [.ref ad_t_told_numbers, .ref ad_t_told_badRows, .ref ad_t_told_badColumns, .ref ad_t_told_badBits, .int (t_toldI 4)])), (ad_t_told_badRows, .inl (G.2.1 0, 12, .inl t_told_badRows)), (ad_t_told_badColumns, .inl (G.2.1 0, 12, .inl t_told_badColumns)), (ad_t, .inr (2, [.ref ad_t_told, .int (a36 1), .int (a36 2), .ref ad_t_source, .int (a36 4), .int (a36 5), .int (a36 6), .int (a36 7)]))] H := hP
      have hD : va_D A [(ad_t_told, .inr (5, [.ref ad_t_told_numbers, .ref ad_t_told_badRows, .ref ad_t_told_badColumns, .ref ad_t_told_badBits, .int (t_toldI 4)])), (ad_t_told_badRows, .inl (G.2.1 0, 12, .inl t_told_badRows)), (ad_t_told_badColumns, .inl (G.2.1 0, 12, .inl t_told_badColumns)), (ad_t, .inr (2, [.ref ad_t_told, .int (a36 1), .int (a36 2), .ref ad_t_source, .int (a36 4), .int (a36 5), .int (a36 6), .int (a36 7)]))] := hD
      refine W.eq (g2 := F0 m 32 ls []) rfl ?_
      have hP := hP.sub (ws' := [(ad_t, .inr (2, [.ref ad_t_told, .int (a36 1), .int (a36 2), .ref ad_t_source, .int (a36 4), .int (a36 5), .int (a36 6), .int (a36 7)])), (ad_t_told, .inr (5, [.ref ad_t_told_numbers, .ref ad_t_told_badRows, .ref ad_t_told_badColumns, .ref ad_t_told_badBits, .int (t_toldI 4)])), (ad_t_told_badRows, .inl (G.2.1 0, 12, .inl t_told_badRows)), (ad_t_told_badColumns, .inl (G.2.1 0, 12, .inl t_told_badColumns))]) [3, 0, 1, 2] rfl
      have hD := hD.sub (ws' := [(ad_t, .inr (2, [.ref ad_t_told, .int (a36 1), .int (a36 2), .ref ad_t_source, .int (a36 4), .int (a36 5), .int (a36 6), .int (a36 7)])), (ad_t_told, .inr (5, [.ref ad_t_told_numbers, .ref ad_t_told_badRows, .ref ad_t_told_badColumns, .ref ad_t_told_badBits, .int (t_toldI 4)])), (ad_t_told_badRows, .inl (G.2.1 0, 12, .inl t_told_badRows)), (ad_t_told_badColumns, .inl (G.2.1 0, 12, .inl t_told_badColumns))]) [3, 0, 1, 2] (by decide) rfl
      exact J32_k26 a36 H locs ls (lv_sub hl [0, 3, 4] rfl) hP hD hS hf
  refine lv_icmp_lt (tgt := 13) hx hb dX2_noteBad_4 (by decide) (fun c38 => ?_) (fun c38 => ?_)
  · have hf := if_t hf c38
    exact J13_k22 tI H locs ls (lv_sub hl [0, 1, 2, 3, 4] rfl) hP hD hS hf
  · have hf := if_f hf c38
    refine lv_aload_n hx hb dX2_noteBad_7 rfl (lv_at hl 0 rfl) ?_
    refine lv_iconst (v := 2) hx hb dX2_noteBad_8 (by decide) ?_
    refine lv_iload_n hx hb dX2_noteBad_9 rfl (lv_at hl 2 rfl) ?_
    obtain ⟨a39, h40, hf⟩ := bn_some hf
    refine kEV (tX2_note l G ad_t ad_t_told ad_t_source tI (2 : Int32) p1 a39 h40) ⟨hx, hb, hml, hown, hts⟩ q726 q728 q20 q104 q729 okyX2_note ⟨Nat.le_of_ble_eq_true rfl, Nat.le_of_ble_eq_true rfl⟩ hP hD hG hS hA [0] [1, 2, 3] rfl (wr := [(ad_t_told, .inr (5, [.ref ad_t_told_numbers, .ref ad_t_told_badRows, .ref ad_t_told_badColumns, .ref ad_t_told_badBits, .int (t_toldI 4)])), (ad_t_told_badRows, .inl (G.2.1 0, 12, .inl t_told_badRows)), (ad_t_told_badColumns, .inl (G.2.1 0, 12, .inl t_told_badColumns))]) rfl (by decide) 0 rfl rfl hl.1 rfl (Nat.le_of_ble_eq_true rfl) dX2_noteBad_10 ⟨Nat.zero_le _, Nat.zero_le _⟩ (fun r w H locs hR hP hD hS => ?_)
    obtain ⟨rfl, rfl⟩ := hR
    have hP : va_P G.1 vwCl [(ad_t_told, .inr (5, [.ref ad_t_told_numbers, .ref ad_t_told_badRows, .ref ad_t_told_badColumns, .ref ad_t_told_badBits, .int (t_toldI 4)])), (ad_t_told_badRows, .inl (G.2.1 0, 12, .inl t_told_badRows)), (ad_t_told_badColumns, .inl (G.2.1 0, 12, .inl t_told_badColumns)), (ad_t, .inr (2, [.ref ad_t_told, .int (a39 1), .int (a39 2), .ref ad_t_source, .int (a39 4), .int (a39 5), .int (a39 6), .int (a39 7)]))] H := hP
    have hD : va_D A [(ad_t_told, .inr (5, [.ref ad_t_told_numbers, .ref ad_t_told_badRows, .ref ad_t_told_badColumns, .ref ad_t_told_badBits, .int (t_toldI 4)])), (ad_t_told_badRows, .inl (G.2.1 0, 12, .inl t_told_badRows)), (ad_t_told_badColumns, .inl (G.2.1 0, 12, .inl t_told_badColumns)), (ad_t, .inr (2, [.ref ad_t_told, .int (a39 1), .int (a39 2), .ref ad_t_source, .int (a39 4), .int (a39 5), .int (a39 6), .int (a39 7)]))] := hD
    refine W.eq (g2 := F0 m 13 ls []) rfl ?_
    have hP := hP.sub (ws' := [(ad_t, .inr (2, [.ref ad_t_told, .int (a39 1), .int (a39 2), .ref ad_t_source, .int (a39 4), .int (a39 5), .int (a39 6), .int (a39 7)])), (ad_t_told, .inr (5, [.ref ad_t_told_numbers, .ref ad_t_told_badRows, .ref ad_t_told_badColumns, .ref ad_t_told_badBits, .int (t_toldI 4)])), (ad_t_told_badRows, .inl (G.2.1 0, 12, .inl t_told_badRows)), (ad_t_told_badColumns, .inl (G.2.1 0, 12, .inl t_told_badColumns))]) [3, 0, 1, 2] rfl
    have hD := hD.sub (ws' := [(ad_t, .inr (2, [.ref ad_t_told, .int (a39 1), .int (a39 2), .ref ad_t_source, .int (a39 4), .int (a39 5), .int (a39 6), .int (a39 7)])), (ad_t_told, .inr (5, [.ref ad_t_told_numbers, .ref ad_t_told_badRows, .ref ad_t_told_badColumns, .ref ad_t_told_badBits, .int (t_toldI 4)])), (ad_t_told_badRows, .inl (G.2.1 0, 12, .inl t_told_badRows)), (ad_t_told_badColumns, .inl (G.2.1 0, 12, .inl t_told_badColumns))]) [3, 0, 1, 2] (by decide) rfl
    exact J13_k22 a39 H locs ls (lv_sub hl [0, 1, 2, 3, 4] rfl) hP hD hS hf

def fX2_takeLetters_l0 (t_sourceI : Nat → Int32) (t_source_bytes : Nat → Int32) : Nat → (Nat → Int32) → Option ((Nat → Int32))
  | 0, _ => none
  | n + 1, tI =>
    (if (t_sourceI 1) ≤ (tI 6) then some tI else gd (gi (tI 6) 300) ((if (bi (fX2_isLetter (t_source_bytes (tI 6).toNatClampNeg))) = 0 then some tI else fX2_takeLetters_l0 t_sourceI t_source_bytes n (upd tI 6 ((tI 6) + (1 : Int32))))))
def fX2_takeLetters (tI : Nat → Int32) (t_sourceI : Nat → Int32) (t_source_bytes : Nat → Int32) : Option ((Nat → Int32)) :=
  bn (fX2_takeLetters_l0 t_sourceI t_source_bytes FU tI) fun y4 => some (upd y4 4 (if ((y4 6) - (y4 5)) ≤ (8 : Int32) then (1 : Int32) else (4 : Int32)))
set_option maxRecDepth 100000 in
set_option maxHeartbeats 4000000 in
theorem tX2_takeLetters (l : Launch) (G : gG) (ad_t ad_t_told ad_t_source ad_t_source_bytes : Nat) (tI : Nat → Int32) (t_sourceI : Nat → Int32) (t_source_bytes : Nat → Int32) (o : (Nat → Int32)) (hf : fX2_takeLetters tI t_sourceI t_source_bytes = some o) : mE G l yX2_takeLetters cX2_takeLetters 1 none 1 20 0 0 [.ref ad_t] [(ad_t, .inr (2, [.ref ad_t_told, .int (tI 1), .int (tI 2), .ref ad_t_source, .int (tI 4), .int (tI 5), .int (tI 6), .int (tI 7)])), (ad_t_source, .inr (7, [.ref ad_t_source_bytes, .int (t_sourceI 1)])), (ad_t_source_bytes, .inl (G.2.1 1, 300, .inl t_source_bytes))] (fun r w => r = none ∧ w = [(ad_t, .inr (2, [.ref ad_t_told, .int (o 1), .int (o 2), .ref ad_t_source, .int (o 4), .int (o 5), .int (o 6), .int (o 7)])), (ad_t_source, .inr (7, [.ref ad_t_source_bytes, .int (t_sourceI 1)])), (ad_t_source_bytes, .inl (G.2.1 1, 300, .inl t_source_bytes))]) := by
  refine mE_of (by decide) (Nat.le_of_ble_eq_true rfl) ?_
  intro p e s m below meth cd ls A hx hb hml hown hts hr hlocks hnm hl hA hP hD hS hG
  have hK := hG.1
  have hown : s.vm.findClass RX2 = some m.cls := hown
  have hl : lv_has ls 1 [(0, .ref ad_t)] := hl
  have hS := hS
  unfold fX2_takeLetters at hf
  obtain ⟨H, locs, eH, eL⟩ : ∃ (H : Heap) (locs : List Loc), H = s.heap ∧ locs = [] := ⟨_, _, rfl, rfl⟩
  have hP : va_P G.1 vwCl [(ad_t, .inr (2, [.ref ad_t_told, .int (tI 1), .int (tI 2), .ref ad_t_source, .int (tI 4), .int (tI 5), .int (tI 6), .int (tI 7)])), (ad_t_source, .inr (7, [.ref ad_t_source_bytes, .int (t_sourceI 1)])), (ad_t_source_bytes, .inl (G.2.1 1, 300, .inl t_source_bytes))] H := eH ▸ hP
  have hS : va_S A s.heap H locs := by rw [eH, eL]; exact hS
  suffices hgo : wG p l e 1 20 s m [.ref ad_t] below meth cd H locs (eQ G A (fun r w => r = none ∧ w = [(ad_t, .inr (2, [.ref ad_t_told, .int (o 1), .int (o 2), .ref ad_t_source, .int (o 4), .int (o 5), .int (o 6), .int (o 7)])), (ad_t_source, .inr (7, [.ref ad_t_source_bytes, .int (t_sourceI 1)])), (ad_t_source_bytes, .inl (G.2.1 1, 300, .inl t_source_bytes))])) A (F0 m 0 ls []) by rw [eH, eL] at hgo; exact hgo
  clear eH eL
  obtain ⟨y7, hLy7, hky7⟩ := bn_some hf
  have Ey7 : ∀  (H : Heap) (locs : List Loc) (ls : Array Slot), lv_has ls 1 [(0, .ref ad_t)] → va_P G.1 vwCl [(ad_t, .inr (2, [.ref ad_t_told, .int (y7 1), .int (y7 2), .ref ad_t_source, .int (y7 4), .int (y7 5), .int (y7 6), .int (y7 7)])), (ad_t_source, .inr (7, [.ref ad_t_source_bytes, .int (t_sourceI 1)])), (ad_t_source_bytes, .inl (G.2.1 1, 300, .inl t_source_bytes))] H → va_D A [(ad_t, .inr (2, [.ref ad_t_told, .int (y7 1), .int (y7 2), .ref ad_t_source, .int (y7 4), .int (y7 5), .int (y7 6), .int (y7 7)])), (ad_t_source, .inr (7, [.ref ad_t_source_bytes, .int (t_sourceI 1)])), (ad_t_source_bytes, .inl (G.2.1 1, 300, .inl t_source_bytes))] → va_S A s.heap H locs → wG p l e 1 20 s m [.ref ad_t] below meth cd H locs (eQ G A (fun r w => r = none ∧ w = [(ad_t, .inr (2, [.ref ad_t_told, .int (o 1), .int (o 2), .ref ad_t_source, .int (o 4), .int (o 5), .int (o 6), .int (o 7)])), (ad_t_source, .inr (7, [.ref ad_t_source_bytes, .int (t_sourceI 1)])), (ad_t_source_bytes, .inl (G.2.1 1, 300, .inl t_source_bytes))])) A (F0 m 45 ls []) := by
    intro  H locs ls hl hP hD hS
    have hf := hky7
    refine lv_aload_n hx hb dX2_takeLetters_45 rfl (lv_at hl 0 rfl) ?_
    refine lv_aload_n hx hb dX2_takeLetters_46 rfl (lv_at hl 0 rfl) ?_
    refine va_get (D := G.1) (cl := vwCl) (ci := 2) (v := .int (y7 6)) (C := RX2) (T := TX2) (N := 8) hx hb hts inG2 hown hK hP 0 rfl rfl 6 (Nat.le_of_ble_eq_true rfl) (hts _ q429) (fun _ h9 => h9) rfl dX2_takeLetters_47 ?_
    refine lv_aload_n hx hb dX2_takeLetters_50 rfl (lv_at hl 0 rfl) ?_
    refine va_get (D := G.1) (cl := vwCl) (ci := 2) (v := .int (y7 5)) (C := RX2) (T := TX2) (N := 8) hx hb hts inG2 hown hK hP 0 rfl rfl 5 (Nat.le_of_ble_eq_true rfl) (hts _ q428) (fun _ h9 => h9) rfl dX2_takeLetters_51 ?_
    refine lv_isub hx hb dX2_takeLetters_54 ?_
    refine lv_bipush (v := 8) hx hb dX2_takeLetters_55 (by decide) ?_
    have J8 : wG p l e 1 20 s m [.ref ad_t] below meth cd H locs (eQ G A (fun r w => r = none ∧ w = [(ad_t, .inr (2, [.ref ad_t_told, .int (o 1), .int (o 2), .ref ad_t_source, .int (o 4), .int (o 5), .int (o 6), .int (o 7)])), (ad_t_source, .inr (7, [.ref ad_t_source_bytes, .int (t_sourceI 1)])), (ad_t_source_bytes, .inl (G.2.1 1, 300, .inl t_source_bytes))])) A (F0 m 65 ls [.int (if ((y7 6) - (y7 5)) ≤ (8 : Int32) then (1 : Int32) else (4 : Int32)), .ref ad_t]) := by
      refine va_put (D := G.1) (cl := vwCl) (ci := 2) (v := .int (if ((y7 6) - (y7 5)) ≤ (8 : Int32) then (1 : Int32) else (4 : Int32))) (ty := .int) (C := RX2) (T := TX2) (N := 8) hx hb hts inG2 tyX2 tyX2_ok nmX2 hown hK hP hD hS 0 rfl rfl 4 (Nat.le_of_ble_eq_true rfl) (hts _ q427) (fun _ h9 => h9) rfl (tyX2_ok 4 (Nat.le_of_ble_eq_true rfl)) rfl rfl (Nat.le_of_ble_eq_true rfl) dX2_takeLetters_65 (fun H locs hP hD hS => ?_)
      have hP : va_P G.1 vwCl [(ad_t, .inr (2, [.ref ad_t_told, .int (y7 1), .int (y7 2), .ref ad_t_source, .int (if ((y7 6) - (y7 5)) ≤ (8 : Int32) then (1 : Int32) else (4 : Int32)), .int (y7 5), .int (y7 6), .int (y7 7)])), (ad_t_source, .inr (7, [.ref ad_t_source_bytes, .int (t_sourceI 1)])), (ad_t_source_bytes, .inl (G.2.1 1, 300, .inl t_source_bytes))] H := hP
      have hD : va_D A [(ad_t, .inr (2, [.ref ad_t_told, .int (y7 1), .int (y7 2), .ref ad_t_source, .int (if ((y7 6) - (y7 5)) ≤ (8 : Int32) then (1 : Int32) else (4 : Int32)), .int (y7 5), .int (y7 6), .int (y7 7)])), (ad_t_source, .inr (7, [.ref ad_t_source_bytes, .int (t_sourceI 1)])), (ad_t_source_bytes, .inl (G.2.1 1, 300, .inl t_source_bytes))] := hD
      have hf := Option.some.inj hf
      subst hf
      exact eRetV hx hb hr hlocks hP hD hS ⟨rfl, rfl⟩ dX2_takeLetters_68
    refine lv_icmp_le (tgt := 64) hx hb dX2_takeLetters_57 (by decide) (fun c9 => ?_) (fun c9 => ?_)
    · refine lv_iconst (v := 1) hx hb dX2_takeLetters_64 (by decide) ?_
      exact (mgT c9 J8)
    · refine lv_iconst (v := 4) hx hb dX2_takeLetters_60 (by decide) ?_
      refine lv_goto (tgt := 65) hx hb dX2_takeLetters_61 (by decide) ?_
      exact (mgF c9 J8)
  have Ly7 : ∀ (n : Nat), ∀ (g10 : Nat → Int32) (H : Heap) (locs : List Loc) (ls : Array Slot), lv_has ls 1 [(0, .ref ad_t)] → va_P G.1 vwCl [(ad_t, .inr (2, [.ref ad_t_told, .int (g10 1), .int (g10 2), .ref ad_t_source, .int (g10 4), .int (g10 5), .int (g10 6), .int (g10 7)])), (ad_t_source, .inr (7, [.ref ad_t_source_bytes, .int (t_sourceI 1)])), (ad_t_source_bytes, .inl (G.2.1 1, 300, .inl t_source_bytes))] H → va_D A [(ad_t, .inr (2, [.ref ad_t_told, .int (g10 1), .int (g10 2), .ref ad_t_source, .int (g10 4), .int (g10 5), .int (g10 6), .int (g10 7)])), (ad_t_source, .inr (7, [.ref ad_t_source_bytes, .int (t_sourceI 1)])), (ad_t_source_bytes, .inl (G.2.1 1, 300, .inl t_source_bytes))] → va_S A s.heap H locs → fX2_takeLetters_l0 t_sourceI t_source_bytes n g10 = some y7 → wG p l e 1 20 s m [.ref ad_t] below meth cd H locs (eQ G A (fun r w => r = none ∧ w = [(ad_t, .inr (2, [.ref ad_t_told, .int (o 1), .int (o 2), .ref ad_t_source, .int (o 4), .int (o 5), .int (o 6), .int (o 7)])), (ad_t_source, .inr (7, [.ref ad_t_source_bytes, .int (t_sourceI 1)])), (ad_t_source_bytes, .inl (G.2.1 1, 300, .inl t_source_bytes))])) A (F0 m 0 ls []) := by
    intro n
    induction n with
    | zero =>
      intro g10 H locs ls hl hP hD hS hf
      rw [fX2_takeLetters_l0] at hf
      cases hf
    | succ n ih =>
      intro g10 H locs ls hl hP hD hS hf
      rw [fX2_takeLetters_l0] at hf
      refine lv_aload_n hx hb dX2_takeLetters_0 rfl (lv_at hl 0 rfl) ?_
      refine va_get (D := G.1) (cl := vwCl) (ci := 2) (v := .int (g10 6)) (C := RX2) (T := TX2) (N := 8) hx hb hts inG2 hown hK hP 0 rfl rfl 6 (Nat.le_of_ble_eq_true rfl) (hts _ q429) (fun _ h9 => h9) rfl dX2_takeLetters_1 ?_
      refine lv_aload_n hx hb dX2_takeLetters_4 rfl (lv_at hl 0 rfl) ?_
      refine va_get (D := G.1) (cl := vwCl) (ci := 2) (v := .ref ad_t_source) (C := RX2) (T := TX2) (N := 8) hx hb hts inG2 hown hK hP 0 rfl rfl 3 (Nat.le_of_ble_eq_true rfl) (hts _ q426) (fun _ h9 => h9) rfl dX2_takeLetters_5 ?_
      refine va_get (D := G.1) (cl := vwCl) (ci := 7) (v := .int (t_sourceI 1)) (C := RX7) (T := TX7) (N := 2) hx hb hts inG7 hown hK hP 1 rfl rfl 1 (Nat.le_of_ble_eq_true rfl) (hts _ q210) (fun _ h9 => h9) rfl dX2_takeLetters_8 ?_
      refine lv_icmp_ge (tgt := 45) hx hb dX2_takeLetters_11 (by decide) (fun c11 => ?_) (fun c11 => ?_)
      · have hf := if_t hf c11
        have hf := Option.some.inj hf
        subst hf
        exact Ey7  H locs ls (lv_sub hl [0] rfl) hP hD hS 
      · have hf := if_f hf c11
        refine lv_aload_n hx hb dX2_takeLetters_14 rfl (lv_at hl 0 rfl) ?_
        refine va_get (D := G.1) (cl := vwCl) (ci := 2) (v := .ref ad_t_source) (C := RX2) (T := TX2) (N := 8) hx hb hts inG2 hown hK hP 0 rfl rfl 3 (Nat.le_of_ble_eq_true rfl) (hts _ q426) (fun _ h9 => h9) rfl dX2_takeLetters_15 ?_
        refine va_get (D := G.1) (cl := vwCl) (ci := 7) (v := .ref ad_t_source_bytes) (C := RX7) (T := TX7) (N := 2) hx hb hts inG7 hown hK hP 1 rfl rfl 0 (Nat.le_of_ble_eq_true rfl) (hts _ q206) (fun _ h9 => h9) rfl dX2_takeLetters_18 ?_
        refine lv_aload_n hx hb dX2_takeLetters_21 rfl (lv_at hl 0 rfl) ?_
        refine va_get (D := G.1) (cl := vwCl) (ci := 2) (v := .int (g10 6)) (C := RX2) (T := TX2) (N := 8) hx hb hts inG2 hown hK hP 0 rfl rfl 6 (Nat.le_of_ble_eq_true rfl) (hts _ q429) (fun _ h9 => h9) rfl dX2_takeLetters_22 ?_
        obtain ⟨h12, hf⟩ := gd_some hf
        refine va_bald (D := G.1) (cl := vwCl) hx hb hK hP 2 1 rfl rfl (gi_in h12) dX2_takeLetters_25 ?_
        refine kPS (tX2_isLetter l G (t_source_bytes (g10 6).toNatClampNeg) _ rfl) ⟨hx, hb, hml, hown, hts⟩ q623 q624 q104 q625 okyX2_isLetter ⟨Nat.le_of_ble_eq_true rfl, Nat.le_of_ble_eq_true rfl⟩ hP hG hS [] rfl hl.1 rfl (Nat.le_of_ble_eq_true rfl) dX2_takeLetters_26 ⟨Nat.zero_le _, Nat.zero_le _⟩ (fun locs hS => ?_)
        refine W.eq (g2 := F0 m 29 ls [.int (bi (fX2_isLetter (t_source_bytes (g10 6).toNatClampNeg)))]) rfl ?_
        refine lv_if_eq (tgt := 45) hx hb dX2_takeLetters_29 (by decide) (fun c13 => ?_) (fun c13 => ?_)
        · have hf := if_t hf c13
          have hf := Option.some.inj hf
          subst hf
          exact Ey7  H locs ls (lv_sub hl [0] rfl) hP hD hS 
        · have hf := if_f hf c13
          refine lv_aload_n hx hb dX2_takeLetters_32 rfl (lv_at hl 0 rfl) ?_
          refine lv_dup hx hb dX2_takeLetters_33 rfl ?_
          refine va_get (D := G.1) (cl := vwCl) (ci := 2) (v := .int (g10 6)) (C := RX2) (T := TX2) (N := 8) hx hb hts inG2 hown hK hP 0 rfl rfl 6 (Nat.le_of_ble_eq_true rfl) (hts _ q429) (fun _ h9 => h9) rfl dX2_takeLetters_34 ?_
          refine lv_iconst (v := 1) hx hb dX2_takeLetters_37 (by decide) ?_
          refine lv_iadd hx hb dX2_takeLetters_38 ?_
          refine va_put (D := G.1) (cl := vwCl) (ci := 2) (v := .int ((g10 6) + (1 : Int32))) (ty := .int) (C := RX2) (T := TX2) (N := 8) hx hb hts inG2 tyX2 tyX2_ok nmX2 hown hK hP hD hS 0 rfl rfl 6 (Nat.le_of_ble_eq_true rfl) (hts _ q429) (fun _ h9 => h9) rfl (tyX2_ok 6 (Nat.le_of_ble_eq_true rfl)) rfl rfl (Nat.le_of_ble_eq_true rfl) dX2_takeLetters_39 (fun H locs hP hD hS => ?_)
          have hP : va_P G.1 vwCl [(ad_t, .inr (2, [.ref ad_t_told, .int (g10 1), .int (g10 2), .ref ad_t_source, .int (g10 4), .int (g10 5), .int ((g10 6) + (1 : Int32)), .int (g10 7)])), (ad_t_source, .inr (7, [.ref ad_t_source_bytes, .int (t_sourceI 1)])), (ad_t_source_bytes, .inl (G.2.1 1, 300, .inl t_source_bytes))] H := hP
          have hD : va_D A [(ad_t, .inr (2, [.ref ad_t_told, .int (g10 1), .int (g10 2), .ref ad_t_source, .int (g10 4), .int (g10 5), .int ((g10 6) + (1 : Int32)), .int (g10 7)])), (ad_t_source, .inr (7, [.ref ad_t_source_bytes, .int (t_sourceI 1)])), (ad_t_source_bytes, .inl (G.2.1 1, 300, .inl t_source_bytes))] := hD
          refine lv_goto (tgt := 0) hx hb dX2_takeLetters_42 (by decide) ?_
          exact ih (upd g10 6 ((g10 6) + (1 : Int32))) H locs ls (lv_sub hl [0] rfl) hP hD hS hf
  exact Ly7 FU tI H locs ls (lv_sub hl [0] rfl) hP hD hS hLy7

def fX2_takeDigits_l5 (t_sourceI : Nat → Int32) (t_source_bytes : Nat → Int32) : Nat → (Nat → Int32) → Option ((Nat → Int32))
  | 0, _ => none
  | n + 1, tI =>
    (if (t_sourceI 1) ≤ (tI 6) then some tI else gd (gi (tI 6) 300) ((if (bi (fX2_isDigit (t_source_bytes (tI 6).toNatClampNeg))) = 0 then some tI else (if (6 : Int32) ≤ ((tI 6) - (tI 5)) then fX2_takeDigits_l5 t_sourceI t_source_bytes n (upd (upd tI 6 ((tI 6) + (1 : Int32))) 7 (tI 7)) else gd (gi (tI 6) 300) (fX2_takeDigits_l5 t_sourceI t_source_bytes n (upd (upd tI 6 ((tI 6) + (1 : Int32))) 7 ((((tI 7) * (10 : Int32)) + (t_source_bytes (tI 6).toNatClampNeg)) - (48 : Int32))))))))
def fX2_takeDigits (tI : Nat → Int32) (t_sourceI : Nat → Int32) (t_source_bytes : Nat → Int32) : Option ((Nat → Int32)) :=
  bn (fX2_takeDigits_l5 t_sourceI t_source_bytes FU (upd tI 7 (0 : Int32))) fun y6 => some (upd y6 4 (if ((y6 6) - (y6 5)) ≤ (6 : Int32) then (2 : Int32) else (4 : Int32)))
set_option maxRecDepth 100000 in
set_option maxHeartbeats 4000000 in
theorem tX2_takeDigits (l : Launch) (G : gG) (ad_t ad_t_told ad_t_source ad_t_source_bytes : Nat) (tI : Nat → Int32) (t_sourceI : Nat → Int32) (t_source_bytes : Nat → Int32) (o : (Nat → Int32)) (hf : fX2_takeDigits tI t_sourceI t_source_bytes = some o) : mE G l yX2_takeDigits cX2_takeDigits 1 none 1 20 0 0 [.ref ad_t] [(ad_t, .inr (2, [.ref ad_t_told, .int (tI 1), .int (tI 2), .ref ad_t_source, .int (tI 4), .int (tI 5), .int (tI 6), .int (tI 7)])), (ad_t_source, .inr (7, [.ref ad_t_source_bytes, .int (t_sourceI 1)])), (ad_t_source_bytes, .inl (G.2.1 1, 300, .inl t_source_bytes))] (fun r w => r = none ∧ w = [(ad_t, .inr (2, [.ref ad_t_told, .int (o 1), .int (o 2), .ref ad_t_source, .int (o 4), .int (o 5), .int (o 6), .int (o 7)])), (ad_t_source, .inr (7, [.ref ad_t_source_bytes, .int (t_sourceI 1)])), (ad_t_source_bytes, .inl (G.2.1 1, 300, .inl t_source_bytes))]) := by
  refine mE_of (by decide) (Nat.le_of_ble_eq_true rfl) ?_
  intro p e s m below meth cd ls A hx hb hml hown hts hr hlocks hnm hl hA hP hD hS hG
  have hK := hG.1
  have hown : s.vm.findClass RX2 = some m.cls := hown
  have hl : lv_has ls 1 [(0, .ref ad_t)] := hl
  have hS := hS
  unfold fX2_takeDigits at hf
  obtain ⟨H, locs, eH, eL⟩ : ∃ (H : Heap) (locs : List Loc), H = s.heap ∧ locs = [] := ⟨_, _, rfl, rfl⟩
  have hP : va_P G.1 vwCl [(ad_t, .inr (2, [.ref ad_t_told, .int (tI 1), .int (tI 2), .ref ad_t_source, .int (tI 4), .int (tI 5), .int (tI 6), .int (tI 7)])), (ad_t_source, .inr (7, [.ref ad_t_source_bytes, .int (t_sourceI 1)])), (ad_t_source_bytes, .inl (G.2.1 1, 300, .inl t_source_bytes))] H := eH ▸ hP
  have hS : va_S A s.heap H locs := by rw [eH, eL]; exact hS
  suffices hgo : wG p l e 1 20 s m [.ref ad_t] below meth cd H locs (eQ G A (fun r w => r = none ∧ w = [(ad_t, .inr (2, [.ref ad_t_told, .int (o 1), .int (o 2), .ref ad_t_source, .int (o 4), .int (o 5), .int (o 6), .int (o 7)])), (ad_t_source, .inr (7, [.ref ad_t_source_bytes, .int (t_sourceI 1)])), (ad_t_source_bytes, .inl (G.2.1 1, 300, .inl t_source_bytes))])) A (F0 m 0 ls []) by rw [eH, eL] at hgo; exact hgo
  clear eH eL
  refine lv_aload_n hx hb dX2_takeDigits_0 rfl (lv_at hl 0 rfl) ?_
  refine lv_iconst (v := 0) hx hb dX2_takeDigits_1 (by decide) ?_
  refine va_put (D := G.1) (cl := vwCl) (ci := 2) (v := .int (0 : Int32)) (ty := .int) (C := RX2) (T := TX2) (N := 8) hx hb hts inG2 tyX2 tyX2_ok nmX2 hown hK hP hD hS 0 rfl rfl 7 (Nat.le_of_ble_eq_true rfl) (hts _ q430) (fun _ h9 => h9) rfl (tyX2_ok 7 (Nat.le_of_ble_eq_true rfl)) rfl rfl (Nat.le_of_ble_eq_true rfl) dX2_takeDigits_2 (fun H locs hP hD hS => ?_)
  have hP : va_P G.1 vwCl [(ad_t, .inr (2, [.ref ad_t_told, .int (tI 1), .int (tI 2), .ref ad_t_source, .int (tI 4), .int (tI 5), .int (tI 6), .int (0 : Int32)])), (ad_t_source, .inr (7, [.ref ad_t_source_bytes, .int (t_sourceI 1)])), (ad_t_source_bytes, .inl (G.2.1 1, 300, .inl t_source_bytes))] H := hP
  have hD : va_D A [(ad_t, .inr (2, [.ref ad_t_told, .int (tI 1), .int (tI 2), .ref ad_t_source, .int (tI 4), .int (tI 5), .int (tI 6), .int (0 : Int32)])), (ad_t_source, .inr (7, [.ref ad_t_source_bytes, .int (t_sourceI 1)])), (ad_t_source_bytes, .inl (G.2.1 1, 300, .inl t_source_bytes))] := hD
  obtain ⟨y9, hLy9, hky9⟩ := bn_some hf
  have Ey9 : ∀  (H : Heap) (locs : List Loc) (ls : Array Slot), lv_has ls 1 [(0, .ref ad_t)] → va_P G.1 vwCl [(ad_t, .inr (2, [.ref ad_t_told, .int (y9 1), .int (y9 2), .ref ad_t_source, .int (y9 4), .int (y9 5), .int (y9 6), .int (y9 7)])), (ad_t_source, .inr (7, [.ref ad_t_source_bytes, .int (t_sourceI 1)])), (ad_t_source_bytes, .inl (G.2.1 1, 300, .inl t_source_bytes))] H → va_D A [(ad_t, .inr (2, [.ref ad_t_told, .int (y9 1), .int (y9 2), .ref ad_t_source, .int (y9 4), .int (y9 5), .int (y9 6), .int (y9 7)])), (ad_t_source, .inr (7, [.ref ad_t_source_bytes, .int (t_sourceI 1)])), (ad_t_source_bytes, .inl (G.2.1 1, 300, .inl t_source_bytes))] → va_S A s.heap H locs → wG p l e 1 20 s m [.ref ad_t] below meth cd H locs (eQ G A (fun r w => r = none ∧ w = [(ad_t, .inr (2, [.ref ad_t_told, .int (o 1), .int (o 2), .ref ad_t_source, .int (o 4), .int (o 5), .int (o 6), .int (o 7)])), (ad_t_source, .inr (7, [.ref ad_t_source_bytes, .int (t_sourceI 1)])), (ad_t_source_bytes, .inl (G.2.1 1, 300, .inl t_source_bytes))])) A (F0 m 98 ls []) := by
    intro  H locs ls hl hP hD hS
    have hf := hky9
    refine lv_aload_n hx hb dX2_takeDigits_98 rfl (lv_at hl 0 rfl) ?_
    refine lv_aload_n hx hb dX2_takeDigits_99 rfl (lv_at hl 0 rfl) ?_
    refine va_get (D := G.1) (cl := vwCl) (ci := 2) (v := .int (y9 6)) (C := RX2) (T := TX2) (N := 8) hx hb hts inG2 hown hK hP 0 rfl rfl 6 (Nat.le_of_ble_eq_true rfl) (hts _ q429) (fun _ h9 => h9) rfl dX2_takeDigits_100 ?_
    refine lv_aload_n hx hb dX2_takeDigits_103 rfl (lv_at hl 0 rfl) ?_
    refine va_get (D := G.1) (cl := vwCl) (ci := 2) (v := .int (y9 5)) (C := RX2) (T := TX2) (N := 8) hx hb hts inG2 hown hK hP 0 rfl rfl 5 (Nat.le_of_ble_eq_true rfl) (hts _ q428) (fun _ h9 => h9) rfl dX2_takeDigits_104 ?_
    refine lv_isub hx hb dX2_takeDigits_107 ?_
    refine lv_bipush (v := 6) hx hb dX2_takeDigits_108 (by decide) ?_
    have J10 : wG p l e 1 20 s m [.ref ad_t] below meth cd H locs (eQ G A (fun r w => r = none ∧ w = [(ad_t, .inr (2, [.ref ad_t_told, .int (o 1), .int (o 2), .ref ad_t_source, .int (o 4), .int (o 5), .int (o 6), .int (o 7)])), (ad_t_source, .inr (7, [.ref ad_t_source_bytes, .int (t_sourceI 1)])), (ad_t_source_bytes, .inl (G.2.1 1, 300, .inl t_source_bytes))])) A (F0 m 118 ls [.int (if ((y9 6) - (y9 5)) ≤ (6 : Int32) then (2 : Int32) else (4 : Int32)), .ref ad_t]) := by
      refine va_put (D := G.1) (cl := vwCl) (ci := 2) (v := .int (if ((y9 6) - (y9 5)) ≤ (6 : Int32) then (2 : Int32) else (4 : Int32))) (ty := .int) (C := RX2) (T := TX2) (N := 8) hx hb hts inG2 tyX2 tyX2_ok nmX2 hown hK hP hD hS 0 rfl rfl 4 (Nat.le_of_ble_eq_true rfl) (hts _ q427) (fun _ h9 => h9) rfl (tyX2_ok 4 (Nat.le_of_ble_eq_true rfl)) rfl rfl (Nat.le_of_ble_eq_true rfl) dX2_takeDigits_118 (fun H locs hP hD hS => ?_)
      have hP : va_P G.1 vwCl [(ad_t, .inr (2, [.ref ad_t_told, .int (y9 1), .int (y9 2), .ref ad_t_source, .int (if ((y9 6) - (y9 5)) ≤ (6 : Int32) then (2 : Int32) else (4 : Int32)), .int (y9 5), .int (y9 6), .int (y9 7)])), (ad_t_source, .inr (7, [.ref ad_t_source_bytes, .int (t_sourceI 1)])), (ad_t_source_bytes, .inl (G.2.1 1, 300, .inl t_source_bytes))] H := hP
      have hD : va_D A [(ad_t, .inr (2, [.ref ad_t_told, .int (y9 1), .int (y9 2), .ref ad_t_source, .int (if ((y9 6) - (y9 5)) ≤ (6 : Int32) then (2 : Int32) else (4 : Int32)), .int (y9 5), .int (y9 6), .int (y9 7)])), (ad_t_source, .inr (7, [.ref ad_t_source_bytes, .int (t_sourceI 1)])), (ad_t_source_bytes, .inl (G.2.1 1, 300, .inl t_source_bytes))] := hD
      have hf := Option.some.inj hf
      subst hf
      exact eRetV hx hb hr hlocks hP hD hS ⟨rfl, rfl⟩ dX2_takeDigits_121
    refine lv_icmp_le (tgt := 117) hx hb dX2_takeDigits_110 (by decide) (fun c11 => ?_) (fun c11 => ?_)
    · refine lv_iconst (v := 2) hx hb dX2_takeDigits_117 (by decide) ?_
      exact (mgT c11 J10)
    · refine lv_iconst (v := 4) hx hb dX2_takeDigits_113 (by decide) ?_
      refine lv_goto (tgt := 118) hx hb dX2_takeDigits_114 (by decide) ?_
      exact (mgF c11 J10)
  have Ly9 : ∀ (n : Nat), ∀ (g12 : Nat → Int32) (H : Heap) (locs : List Loc) (ls : Array Slot), lv_has ls 1 [(0, .ref ad_t)] → va_P G.1 vwCl [(ad_t, .inr (2, [.ref ad_t_told, .int (g12 1), .int (g12 2), .ref ad_t_source, .int (g12 4), .int (g12 5), .int (g12 6), .int (g12 7)])), (ad_t_source, .inr (7, [.ref ad_t_source_bytes, .int (t_sourceI 1)])), (ad_t_source_bytes, .inl (G.2.1 1, 300, .inl t_source_bytes))] H → va_D A [(ad_t, .inr (2, [.ref ad_t_told, .int (g12 1), .int (g12 2), .ref ad_t_source, .int (g12 4), .int (g12 5), .int (g12 6), .int (g12 7)])), (ad_t_source, .inr (7, [.ref ad_t_source_bytes, .int (t_sourceI 1)])), (ad_t_source_bytes, .inl (G.2.1 1, 300, .inl t_source_bytes))] → va_S A s.heap H locs → fX2_takeDigits_l5 t_sourceI t_source_bytes n g12 = some y9 → wG p l e 1 20 s m [.ref ad_t] below meth cd H locs (eQ G A (fun r w => r = none ∧ w = [(ad_t, .inr (2, [.ref ad_t_told, .int (o 1), .int (o 2), .ref ad_t_source, .int (o 4), .int (o 5), .int (o 6), .int (o 7)])), (ad_t_source, .inr (7, [.ref ad_t_source_bytes, .int (t_sourceI 1)])), (ad_t_source_bytes, .inl (G.2.1 1, 300, .inl t_source_bytes))])) A (F0 m 5 ls []) := by
    intro n
    induction n with
    | zero =>
      intro g12 H locs ls hl hP hD hS hf
      rw [fX2_takeDigits_l5] at hf
      cases hf
    | succ n ih =>
      intro g12 H locs ls hl hP hD hS hf
      rw [fX2_takeDigits_l5] at hf
      refine lv_aload_n hx hb dX2_takeDigits_5 rfl (lv_at hl 0 rfl) ?_
      refine va_get (D := G.1) (cl := vwCl) (ci := 2) (v := .int (g12 6)) (C := RX2) (T := TX2) (N := 8) hx hb hts inG2 hown hK hP 0 rfl rfl 6 (Nat.le_of_ble_eq_true rfl) (hts _ q429) (fun _ h9 => h9) rfl dX2_takeDigits_6 ?_
      refine lv_aload_n hx hb dX2_takeDigits_9 rfl (lv_at hl 0 rfl) ?_
      refine va_get (D := G.1) (cl := vwCl) (ci := 2) (v := .ref ad_t_source) (C := RX2) (T := TX2) (N := 8) hx hb hts inG2 hown hK hP 0 rfl rfl 3 (Nat.le_of_ble_eq_true rfl) (hts _ q426) (fun _ h9 => h9) rfl dX2_takeDigits_10 ?_
      refine va_get (D := G.1) (cl := vwCl) (ci := 7) (v := .int (t_sourceI 1)) (C := RX7) (T := TX7) (N := 2) hx hb hts inG7 hown hK hP 1 rfl rfl 1 (Nat.le_of_ble_eq_true rfl) (hts _ q210) (fun _ h9 => h9) rfl dX2_takeDigits_13 ?_
      refine lv_icmp_ge (tgt := 98) hx hb dX2_takeDigits_16 (by decide) (fun c13 => ?_) (fun c13 => ?_)
      · have hf := if_t hf c13
        have hf := Option.some.inj hf
        subst hf
        exact Ey9  H locs ls (lv_sub hl [0] rfl) hP hD hS 
      · have hf := if_f hf c13
        refine lv_aload_n hx hb dX2_takeDigits_19 rfl (lv_at hl 0 rfl) ?_
        refine va_get (D := G.1) (cl := vwCl) (ci := 2) (v := .ref ad_t_source) (C := RX2) (T := TX2) (N := 8) hx hb hts inG2 hown hK hP 0 rfl rfl 3 (Nat.le_of_ble_eq_true rfl) (hts _ q426) (fun _ h9 => h9) rfl dX2_takeDigits_20 ?_
        refine va_get (D := G.1) (cl := vwCl) (ci := 7) (v := .ref ad_t_source_bytes) (C := RX7) (T := TX7) (N := 2) hx hb hts inG7 hown hK hP 1 rfl rfl 0 (Nat.le_of_ble_eq_true rfl) (hts _ q206) (fun _ h9 => h9) rfl dX2_takeDigits_23 ?_
        refine lv_aload_n hx hb dX2_takeDigits_26 rfl (lv_at hl 0 rfl) ?_
        refine va_get (D := G.1) (cl := vwCl) (ci := 2) (v := .int (g12 6)) (C := RX2) (T := TX2) (N := 8) hx hb hts inG2 hown hK hP 0 rfl rfl 6 (Nat.le_of_ble_eq_true rfl) (hts _ q429) (fun _ h9 => h9) rfl dX2_takeDigits_27 ?_
        obtain ⟨h14, hf⟩ := gd_some hf
        refine va_bald (D := G.1) (cl := vwCl) hx hb hK hP 2 1 rfl rfl (gi_in h14) dX2_takeDigits_30 ?_
        refine kPS (tX2_isDigit l G (t_source_bytes (g12 6).toNatClampNeg) _ rfl) ⟨hx, hb, hml, hown, hts⟩ q630 q631 q104 q632 okyX2_isDigit ⟨Nat.le_of_ble_eq_true rfl, Nat.le_of_ble_eq_true rfl⟩ hP hG hS [] rfl hl.1 rfl (Nat.le_of_ble_eq_true rfl) dX2_takeDigits_31 ⟨Nat.zero_le _, Nat.zero_le _⟩ (fun locs hS => ?_)
        refine W.eq (g2 := F0 m 34 ls [.int (bi (fX2_isDigit (t_source_bytes (g12 6).toNatClampNeg)))]) rfl ?_
        refine lv_if_eq (tgt := 98) hx hb dX2_takeDigits_34 (by decide) (fun c15 => ?_) (fun c15 => ?_)
        · have hf := if_t hf c15
          have hf := Option.some.inj hf
          subst hf
          exact Ey9  H locs ls (lv_sub hl [0] rfl) hP hD hS 
        · have hf := if_f hf c15
          refine lv_aload_n hx hb dX2_takeDigits_37 rfl (lv_at hl 0 rfl) ?_
          refine lv_aload_n hx hb dX2_takeDigits_38 rfl (lv_at hl 0 rfl) ?_
          refine va_get (D := G.1) (cl := vwCl) (ci := 2) (v := .int (g12 6)) (C := RX2) (T := TX2) (N := 8) hx hb hts inG2 hown hK hP 0 rfl rfl 6 (Nat.le_of_ble_eq_true rfl) (hts _ q429) (fun _ h9 => h9) rfl dX2_takeDigits_39 ?_
          refine lv_aload_n hx hb dX2_takeDigits_42 rfl (lv_at hl 0 rfl) ?_
          refine va_get (D := G.1) (cl := vwCl) (ci := 2) (v := .int (g12 5)) (C := RX2) (T := TX2) (N := 8) hx hb hts inG2 hown hK hP 0 rfl rfl 5 (Nat.le_of_ble_eq_true rfl) (hts _ q428) (fun _ h9 => h9) rfl dX2_takeDigits_43 ?_
          refine lv_isub hx hb dX2_takeDigits_46 ?_
          refine lv_bipush (v := 6) hx hb dX2_takeDigits_47 (by decide) ?_
          refine lv_icmp_ge (tgt := 78) hx hb dX2_takeDigits_49 (by decide) (fun c16 => ?_) (fun c16 => ?_)
          · have hf := if_t hf c16
            refine lv_aload_n hx hb dX2_takeDigits_78 rfl (lv_at hl 0 rfl) ?_
            refine va_get (D := G.1) (cl := vwCl) (ci := 2) (v := .int (g12 7)) (C := RX2) (T := TX2) (N := 8) hx hb hts inG2 hown hK hP 0 rfl rfl 7 (Nat.le_of_ble_eq_true rfl) (hts _ q430) (fun _ h9 => h9) rfl dX2_takeDigits_79 ?_
            refine va_put (D := G.1) (cl := vwCl) (ci := 2) (v := .int (g12 7)) (ty := .int) (C := RX2) (T := TX2) (N := 8) hx hb hts inG2 tyX2 tyX2_ok nmX2 hown hK hP hD hS 0 rfl rfl 7 (Nat.le_of_ble_eq_true rfl) (hts _ q430) (fun _ h9 => h9) rfl (tyX2_ok 7 (Nat.le_of_ble_eq_true rfl)) rfl rfl (Nat.le_of_ble_eq_true rfl) dX2_takeDigits_82 (fun H locs hP hD hS => ?_)
            have hP : va_P G.1 vwCl [(ad_t, .inr (2, [.ref ad_t_told, .int (g12 1), .int (g12 2), .ref ad_t_source, .int (g12 4), .int (g12 5), .int (g12 6), .int (g12 7)])), (ad_t_source, .inr (7, [.ref ad_t_source_bytes, .int (t_sourceI 1)])), (ad_t_source_bytes, .inl (G.2.1 1, 300, .inl t_source_bytes))] H := hP
            have hD : va_D A [(ad_t, .inr (2, [.ref ad_t_told, .int (g12 1), .int (g12 2), .ref ad_t_source, .int (g12 4), .int (g12 5), .int (g12 6), .int (g12 7)])), (ad_t_source, .inr (7, [.ref ad_t_source_bytes, .int (t_sourceI 1)])), (ad_t_source_bytes, .inl (G.2.1 1, 300, .inl t_source_bytes))] := hD
            refine lv_aload_n hx hb dX2_takeDigits_85 rfl (lv_at hl 0 rfl) ?_
            refine lv_dup hx hb dX2_takeDigits_86 rfl ?_
            refine va_get (D := G.1) (cl := vwCl) (ci := 2) (v := .int (g12 6)) (C := RX2) (T := TX2) (N := 8) hx hb hts inG2 hown hK hP 0 rfl rfl 6 (Nat.le_of_ble_eq_true rfl) (hts _ q429) (fun _ h9 => h9) rfl dX2_takeDigits_87 ?_
            refine lv_iconst (v := 1) hx hb dX2_takeDigits_90 (by decide) ?_
            refine lv_iadd hx hb dX2_takeDigits_91 ?_
            refine va_put (D := G.1) (cl := vwCl) (ci := 2) (v := .int ((g12 6) + (1 : Int32))) (ty := .int) (C := RX2) (T := TX2) (N := 8) hx hb hts inG2 tyX2 tyX2_ok nmX2 hown hK hP hD hS 0 rfl rfl 6 (Nat.le_of_ble_eq_true rfl) (hts _ q429) (fun _ h9 => h9) rfl (tyX2_ok 6 (Nat.le_of_ble_eq_true rfl)) rfl rfl (Nat.le_of_ble_eq_true rfl) dX2_takeDigits_92 (fun H locs hP hD hS => ?_)
            have hP : va_P G.1 vwCl [(ad_t, .inr (2, [.ref ad_t_told, .int (g12 1), .int (g12 2), .ref ad_t_source, .int (g12 4), .int (g12 5), .int ((g12 6) + (1 : Int32)), .int (g12 7)])), (ad_t_source, .inr (7, [.ref ad_t_source_bytes, .int (t_sourceI 1)])), (ad_t_source_bytes, .inl (G.2.1 1, 300, .inl t_source_bytes))] H := hP
            have hD : va_D A [(ad_t, .inr (2, [.ref ad_t_told, .int (g12 1), .int (g12 2), .ref ad_t_source, .int (g12 4), .int (g12 5), .int ((g12 6) + (1 : Int32)), .int (g12 7)])), (ad_t_source, .inr (7, [.ref ad_t_source_bytes, .int (t_sourceI 1)])), (ad_t_source_bytes, .inl (G.2.1 1, 300, .inl t_source_bytes))] := hD
            refine lv_goto (tgt := 5) hx hb dX2_takeDigits_95 (by decide) ?_
            exact ih (upd (upd g12 6 ((g12 6) + (1 : Int32))) 7 (g12 7)) H locs ls (lv_sub hl [0] rfl) hP hD hS hf
          · have hf := if_f hf c16
            refine lv_aload_n hx hb dX2_takeDigits_52 rfl (lv_at hl 0 rfl) ?_
            refine va_get (D := G.1) (cl := vwCl) (ci := 2) (v := .int (g12 7)) (C := RX2) (T := TX2) (N := 8) hx hb hts inG2 hown hK hP 0 rfl rfl 7 (Nat.le_of_ble_eq_true rfl) (hts _ q430) (fun _ h9 => h9) rfl dX2_takeDigits_53 ?_
            refine lv_bipush (v := 10) hx hb dX2_takeDigits_56 (by decide) ?_
            refine lv_imul hx hb dX2_takeDigits_58 ?_
            refine lv_aload_n hx hb dX2_takeDigits_59 rfl (lv_at hl 0 rfl) ?_
            refine va_get (D := G.1) (cl := vwCl) (ci := 2) (v := .ref ad_t_source) (C := RX2) (T := TX2) (N := 8) hx hb hts inG2 hown hK hP 0 rfl rfl 3 (Nat.le_of_ble_eq_true rfl) (hts _ q426) (fun _ h9 => h9) rfl dX2_takeDigits_60 ?_
            refine va_get (D := G.1) (cl := vwCl) (ci := 7) (v := .ref ad_t_source_bytes) (C := RX7) (T := TX7) (N := 2) hx hb hts inG7 hown hK hP 1 rfl rfl 0 (Nat.le_of_ble_eq_true rfl) (hts _ q206) (fun _ h9 => h9) rfl dX2_takeDigits_63 ?_
            refine lv_aload_n hx hb dX2_takeDigits_66 rfl (lv_at hl 0 rfl) ?_
            refine va_get (D := G.1) (cl := vwCl) (ci := 2) (v := .int (g12 6)) (C := RX2) (T := TX2) (N := 8) hx hb hts inG2 hown hK hP 0 rfl rfl 6 (Nat.le_of_ble_eq_true rfl) (hts _ q429) (fun _ h9 => h9) rfl dX2_takeDigits_67 ?_
            obtain ⟨h17, hf⟩ := gd_some hf
            refine va_bald (D := G.1) (cl := vwCl) hx hb hK hP 2 1 rfl rfl (gi_in h17) dX2_takeDigits_70 ?_
            refine lv_iadd hx hb dX2_takeDigits_71 ?_
            refine lv_bipush (v := 48) hx hb dX2_takeDigits_72 (by decide) ?_
            refine lv_isub hx hb dX2_takeDigits_74 ?_
            refine lv_goto (tgt := 82) hx hb dX2_takeDigits_75 (by decide) ?_
            refine va_put (D := G.1) (cl := vwCl) (ci := 2) (v := .int ((((g12 7) * (10 : Int32)) + (t_source_bytes (g12 6).toNatClampNeg)) - (48 : Int32))) (ty := .int) (C := RX2) (T := TX2) (N := 8) hx hb hts inG2 tyX2 tyX2_ok nmX2 hown hK hP hD hS 0 rfl rfl 7 (Nat.le_of_ble_eq_true rfl) (hts _ q430) (fun _ h9 => h9) rfl (tyX2_ok 7 (Nat.le_of_ble_eq_true rfl)) rfl rfl (Nat.le_of_ble_eq_true rfl) dX2_takeDigits_82 (fun H locs hP hD hS => ?_)
            have hP : va_P G.1 vwCl [(ad_t, .inr (2, [.ref ad_t_told, .int (g12 1), .int (g12 2), .ref ad_t_source, .int (g12 4), .int (g12 5), .int (g12 6), .int ((((g12 7) * (10 : Int32)) + (t_source_bytes (g12 6).toNatClampNeg)) - (48 : Int32))])), (ad_t_source, .inr (7, [.ref ad_t_source_bytes, .int (t_sourceI 1)])), (ad_t_source_bytes, .inl (G.2.1 1, 300, .inl t_source_bytes))] H := hP
            have hD : va_D A [(ad_t, .inr (2, [.ref ad_t_told, .int (g12 1), .int (g12 2), .ref ad_t_source, .int (g12 4), .int (g12 5), .int (g12 6), .int ((((g12 7) * (10 : Int32)) + (t_source_bytes (g12 6).toNatClampNeg)) - (48 : Int32))])), (ad_t_source, .inr (7, [.ref ad_t_source_bytes, .int (t_sourceI 1)])), (ad_t_source_bytes, .inl (G.2.1 1, 300, .inl t_source_bytes))] := hD
            refine lv_aload_n hx hb dX2_takeDigits_85 rfl (lv_at hl 0 rfl) ?_
            refine lv_dup hx hb dX2_takeDigits_86 rfl ?_
            refine va_get (D := G.1) (cl := vwCl) (ci := 2) (v := .int (g12 6)) (C := RX2) (T := TX2) (N := 8) hx hb hts inG2 hown hK hP 0 rfl rfl 6 (Nat.le_of_ble_eq_true rfl) (hts _ q429) (fun _ h9 => h9) rfl dX2_takeDigits_87 ?_
            refine lv_iconst (v := 1) hx hb dX2_takeDigits_90 (by decide) ?_
            refine lv_iadd hx hb dX2_takeDigits_91 ?_
            refine va_put (D := G.1) (cl := vwCl) (ci := 2) (v := .int ((g12 6) + (1 : Int32))) (ty := .int) (C := RX2) (T := TX2) (N := 8) hx hb hts inG2 tyX2 tyX2_ok nmX2 hown hK hP hD hS 0 rfl rfl 6 (Nat.le_of_ble_eq_true rfl) (hts _ q429) (fun _ h9 => h9) rfl (tyX2_ok 6 (Nat.le_of_ble_eq_true rfl)) rfl rfl (Nat.le_of_ble_eq_true rfl) dX2_takeDigits_92 (fun H locs hP hD hS => ?_)
            have hP : va_P G.1 vwCl [(ad_t, .inr (2, [.ref ad_t_told, .int (g12 1), .int (g12 2), .ref ad_t_source, .int (g12 4), .int (g12 5), .int ((g12 6) + (1 : Int32)), .int ((((g12 7) * (10 : Int32)) + (t_source_bytes (g12 6).toNatClampNeg)) - (48 : Int32))])), (ad_t_source, .inr (7, [.ref ad_t_source_bytes, .int (t_sourceI 1)])), (ad_t_source_bytes, .inl (G.2.1 1, 300, .inl t_source_bytes))] H := hP
            have hD : va_D A [(ad_t, .inr (2, [.ref ad_t_told, .int (g12 1), .int (g12 2), .ref ad_t_source, .int (g12 4), .int (g12 5), .int ((g12 6) + (1 : Int32)), .int ((((g12 7) * (10 : Int32)) + (t_source_bytes (g12 6).toNatClampNeg)) - (48 : Int32))])), (ad_t_source, .inr (7, [.ref ad_t_source_bytes, .int (t_sourceI 1)])), (ad_t_source_bytes, .inl (G.2.1 1, 300, .inl t_source_bytes))] := hD
            refine lv_goto (tgt := 5) hx hb dX2_takeDigits_95 (by decide) ?_
            exact ih (upd (upd g12 6 ((g12 6) + (1 : Int32))) 7 ((((g12 7) * (10 : Int32)) + (t_source_bytes (g12 6).toNatClampNeg)) - (48 : Int32))) H locs ls (lv_sub hl [0] rfl) hP hD hS hf
  exact Ly9 FU (upd tI 7 (0 : Int32)) H locs ls (lv_sub hl [0] rfl) hP hD hS hLy9
