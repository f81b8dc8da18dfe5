def fX10_end (t_now_tapeI : Nat → Int32) (p0 : Int32) : Option (Int32 × (Nat → Int32)) :=
  (if p0 < 0 then some ((-1 : Int32), t_now_tapeI) else (if p0 ≤ (t_now_tapeI 1) then some (p0, (upd t_now_tapeI 1 p0)) else some ((-1 : Int32), t_now_tapeI)))
set_option maxRecDepth 100000 in
set_option maxHeartbeats 4000000 in
theorem tX10_end (l : Launch) (G : gG) (ad_t ad_t_now ad_t_images ad_t_past ad_t_wiring ad_t_form ad_t_trial ad_t_reader ad_t_text ad_t_now_memory ad_t_now_tape ad_t_now_tape_bytes : Nat) (t_nowI : Nat → Int32) (t_now_tapeI : Nat → Int32) (p0 : Int32) (o : Int32 × (Nat → Int32)) (hf : fX10_end t_now_tapeI p0 = some o) : mE G l yX10_end cX10_end 2 (some .int) 0 0 0 0 [.ref ad_t, .int p0] [(ad_t, .inr (10, [.ref ad_t_now, .ref ad_t_images, .ref ad_t_past, .ref ad_t_wiring, .ref ad_t_form, .ref ad_t_trial, .ref ad_t_reader, .ref ad_t_text])), (ad_t_now, .inr (6, [.ref ad_t_now_memory, .ref ad_t_now_tape, .int (t_nowI 2), .int (t_nowI 3), .int (t_nowI 4), .int (t_nowI 5), .int (t_nowI 6)])), (ad_t_now_tape, .inr (7, [.ref ad_t_now_tape_bytes, .int (t_now_tapeI 1)]))] (fun r w => r = (some (.int o.1)) ∧ w = [(ad_t, .inr (10, [.ref ad_t_now, .ref ad_t_images, .ref ad_t_past, .ref ad_t_wiring, .ref ad_t_form, .ref ad_t_trial, .ref ad_t_reader, .ref ad_t_text])), (ad_t_now, .inr (6, [.ref ad_t_now_memory, .ref ad_t_now_tape, .int (t_nowI 2), .int (t_nowI 3), .int (t_nowI 4), .int (t_nowI 5), .int (t_nowI 6)])), (ad_t_now_tape, .inr (7, [.ref ad_t_now_tape_bytes, .int (o.2 1)]))]) := by
  refine mE_of (by decide) (Nat.le_of_ble_eq_true rfl) ?_
  intro p e s m below meth cd ls A hx hb hml hown hts hr hlocks hnm hl hA hP hD hS hG
  have hK := hG.1
  have hown : s.vm.findClass RX10 = some m.cls := hown
  have hl : lv_has ls 2 [(0, .ref ad_t), (1, .int p0)] := hl
  have hS := hS
  unfold fX10_end at hf
  obtain ⟨H, locs, eH, eL⟩ : ∃ (H : Heap) (locs : List Loc), H = s.heap ∧ locs = [] := ⟨_, _, rfl, rfl⟩
  have hP : va_P G.1 vwCl [(ad_t, .inr (10, [.ref ad_t_now, .ref ad_t_images, .ref ad_t_past, .ref ad_t_wiring, .ref ad_t_form, .ref ad_t_trial, .ref ad_t_reader, .ref ad_t_text])), (ad_t_now, .inr (6, [.ref ad_t_now_memory, .ref ad_t_now_tape, .int (t_nowI 2), .int (t_nowI 3), .int (t_nowI 4), .int (t_nowI 5), .int (t_nowI 6)])), (ad_t_now_tape, .inr (7, [.ref ad_t_now_tape_bytes, .int (t_now_tapeI 1)]))] H := eH ▸ hP
  have hS : va_S A s.heap H locs := by rw [eH, eL]; exact hS
  suffices hgo : wG p l e 0 0 s m [.ref ad_t, .int p0] below meth cd H locs (eQ G A (fun r w => r = (some (.int o.1)) ∧ w = [(ad_t, .inr (10, [.ref ad_t_now, .ref ad_t_images, .ref ad_t_past, .ref ad_t_wiring, .ref ad_t_form, .ref ad_t_trial, .ref ad_t_reader, .ref ad_t_text])), (ad_t_now, .inr (6, [.ref ad_t_now_memory, .ref ad_t_now_tape, .int (t_nowI 2), .int (t_nowI 3), .int (t_nowI 4), .int (t_nowI 5), .int (t_nowI 6)])), (ad_t_now_tape, .inr (7, [.ref ad_t_now_tape_bytes, .int (o.2 1)]))])) A (F0 m 0 ls []) by rw [eH, eL] at hgo; exact hgo
  clear eH eL
  refine lv_iload_n hx hb dX10_end_0 rfl (lv_at hl 1 rfl) ?_
  refine lv_if_lt (tgt := 18) hx hb dX10_end_1 (by decide) (fun c3 => ?_) (fun c3 => ?_)
  · have hf := if_t hf c3
    refine lv_iconst (v := -1) hx hb dX10_end_18 (by decide) ?_
    have hf := Option.some.inj hf
    subst hf
    exact eRet hx hb hr hlocks hP hD hS ⟨rfl, rfl⟩ dX10_end_19
  · have hf := if_f hf c3
    refine lv_iload_n hx hb dX10_end_4 rfl (lv_at hl 1 rfl) ?_
    refine lv_aload_n hx hb dX10_end_5 rfl (lv_at hl 0 rfl) ?_
    refine va_get (D := G.1) (cl := vwCl) (ci := 10) (v := .ref ad_t_now) (C := RX10) (T := TX10) (N := 8) hx hb hts inG10 hown hK hP 0 rfl rfl 0 (Nat.le_of_ble_eq_true rfl) (hts _ q560) (fun _ h9 => h9) rfl dX10_end_6 ?_
    refine va_get (D := G.1) (cl := vwCl) (ci := 6) (v := .ref ad_t_now_tape) (C := RX6) (T := TX6) (N := 7) hx hb hts inG6 hown hK hP 1 rfl rfl 1 (Nat.le_of_ble_eq_true rfl) (hts _ q220) (fun _ h9 => h9) rfl dX10_end_9 ?_
    refine va_get (D := G.1) (cl := vwCl) (ci := 7) (v := .int (t_now_tapeI 1)) (C := RX7) (T := TX7) (N := 2) hx hb hts inG7 hown hK hP 2 rfl rfl 1 (Nat.le_of_ble_eq_true rfl) (hts _ q209) (fun _ h9 => h9) rfl dX10_end_12 ?_
    refine lv_icmp_le (tgt := 20) hx hb dX10_end_15 (by decide) (fun c4 => ?_) (fun c4 => ?_)
    · have hf := if_t hf c4
      refine lv_aload_n hx hb dX10_end_20 rfl (lv_at hl 0 rfl) ?_
      refine va_get (D := G.1) (cl := vwCl) (ci := 10) (v := .ref ad_t_now) (C := RX10) (T := TX10) (N := 8) hx hb hts inG10 hown hK hP 0 rfl rfl 0 (Nat.le_of_ble_eq_true rfl) (hts _ q560) (fun _ h9 => h9) rfl dX10_end_21 ?_
      refine va_get (D := G.1) (cl := vwCl) (ci := 6) (v := .ref ad_t_now_tape) (C := RX6) (T := TX6) (N := 7) hx hb hts inG6 hown hK hP 1 rfl rfl 1 (Nat.le_of_ble_eq_true rfl) (hts _ q220) (fun _ h9 => h9) rfl dX10_end_24 ?_
      refine lv_iload_n hx hb dX10_end_27 rfl (lv_at hl 1 rfl) ?_
      refine va_put (D := G.1) (cl := vwCl) (ci := 7) (v := .int p0) (ty := .int) (C := RX7) (T := TX7) (N := 2) hx hb hts inG7 tyX7 tyX7_ok nmX7 hown hK hP hD hS 2 rfl rfl 1 (Nat.le_of_ble_eq_true rfl) (hts _ q209) (fun _ h9 => h9) rfl (tyX7_ok 1 (Nat.le_of_ble_eq_true rfl)) rfl rfl (Nat.le_of_ble_eq_true rfl) dX10_end_28 (fun H locs hP hD hS => ?_)
      have hP : va_P G.1 vwCl [(ad_t, .inr (10, [.ref ad_t_now, .ref ad_t_images, .ref ad_t_past, .ref ad_t_wiring, .ref ad_t_form, .ref ad_t_trial, .ref ad_t_reader, .ref ad_t_text])), (ad_t_now, .inr (6, [.ref ad_t_now_memory, .ref ad_t_now_tape, .int (t_nowI 2), .int (t_nowI 3), .int (t_nowI 4), .int (t_nowI 5), .int (t_nowI 6)])), (ad_t_now_tape, .inr (7, [.ref ad_t_now_tape_bytes, .int p0]))] H := hP
      have hD : va_D A [(ad_t, .inr (10, [.ref ad_t_now, .ref ad_t_images, .ref ad_t_past, .ref ad_t_wiring, .ref ad_t_form, .ref ad_t_trial, .ref ad_t_reader, .ref ad_t_text])), (ad_t_now, .inr (6, [.ref ad_t_now_memory, .ref ad_t_now_tape, .int (t_nowI 2), .int (t_nowI 3), .int (t_nowI 4), .int (t_nowI 5), .int (t_nowI 6)])), (ad_t_now_tape, .inr (7, [.ref ad_t_now_tape_bytes, .int p0]))] := hD
      refine lv_iload_n hx hb dX10_end_31 rfl (lv_at hl 1 rfl) ?_
      have hf := Option.some.inj hf
      subst hf
      exact eRet hx hb hr hlocks hP hD hS ⟨rfl, rfl⟩ dX10_end_32
    · have hf := if_f hf c4
      refine lv_iconst (v := -1) hx hb dX10_end_18 (by decide) ?_
      have hf := Option.some.inj hf
      subst hf
      exact eRet hx hb hr hlocks hP hD hS ⟨rfl, rfl⟩ dX10_end_19

def fX10_fault (t_nowI : Nat → Int32) (p0 : Int32) : Int32 :=
  (if p0 = (0 : Int32) then (t_nowI 2) else (if p0 = (1 : Int32) then (t_nowI 3) else (-1 : Int32)))
set_option maxRecDepth 100000 in
set_option maxHeartbeats 4000000 in
theorem tX10_fault (l : Launch) (G : gG) (ad_t ad_t_now ad_t_images ad_t_past ad_t_wiring ad_t_form ad_t_trial ad_t_reader ad_t_text ad_t_now_memory ad_t_now_tape : Nat) (t_nowI : Nat → Int32) (p0 : Int32) (o : Int32) (hf : fX10_fault t_nowI p0 = o) : mP G l yX10_fault cX10_fault 2 (some .int) 0 0 [.ref ad_t, .int p0] [(ad_t, .inr (10, [.ref ad_t_now, .ref ad_t_images, .ref ad_t_past, .ref ad_t_wiring, .ref ad_t_form, .ref ad_t_trial, .ref ad_t_reader, .ref ad_t_text])), (ad_t_now, .inr (6, [.ref ad_t_now_memory, .ref ad_t_now_tape, .int (t_nowI 2), .int (t_nowI 3), .int (t_nowI 4), .int (t_nowI 5), .int (t_nowI 6)]))] (some (.int o)) := by
  refine mP_of (by decide) (Nat.le_of_ble_eq_true rfl) ?_
  intro p e s m below meth cd ls hx hb hml hown hts hr hlocks hl hP hG
  have hK := hG.1
  have hown : s.vm.findClass RX10 = some m.cls := hown
  have hl : lv_has ls 2 [(0, .ref ad_t), (1, .int p0)] := hl
  have hS : va_S no s.heap s.heap [] := va_S.rf
  generalize ([] : List Loc) = locs at hS ⊢
  unfold fX10_fault at hf
  show wG p l e 0 0 s m [.ref ad_t, .int p0] below meth cd s.heap locs (pQ (some (.int o))) no (F0 m 0 ls [])
  refine lv_iload_n hx hb dX10_fault_0 rfl (lv_at hl 1 rfl) ?_
  by_cases c3 : p0 = (0 : Int32)
  · have hf := if_t hf c3
    refine lv_lookup (off := 27) (tgt := 28) hx hb dX10_fault_1 (by decide) (by rw [c3]; decide) (by decide) ?_
    refine lv_aload_n hx hb dX10_fault_28 rfl (lv_at hl 0 rfl) ?_
    refine va_get (D := G.1) (cl := vwCl) (ci := 10) (v := .ref ad_t_now) (C := RX10) (T := TX10) (N := 8) hx hb hts inG10 hown hK hP 0 rfl rfl 0 (Nat.le_of_ble_eq_true rfl) (hts _ q560) (fun _ h9 => h9) rfl dX10_fault_29 ?_
    refine va_get (D := G.1) (cl := vwCl) (ci := 6) (v := .int (t_nowI 2)) (C := RX6) (T := TX6) (N := 7) hx hb hts inG6 hown hK hP 1 rfl rfl 2 (Nat.le_of_ble_eq_true rfl) (hts _ q222) (fun _ h9 => h9) rfl dX10_fault_32 ?_
    subst hf
    exact pRet hx hb hr hlocks hS dX10_fault_35
  · have hf := if_f hf c3
    by_cases c4 : p0 = (1 : Int32)
    · have hf := if_t hf c4
      refine lv_lookup (off := 35) (tgt := 36) hx hb dX10_fault_1 (by decide) (by rw [c4]; decide) (by decide) ?_
      refine lv_aload_n hx hb dX10_fault_36 rfl (lv_at hl 0 rfl) ?_
      refine va_get (D := G.1) (cl := vwCl) (ci := 10) (v := .ref ad_t_now) (C := RX10) (T := TX10) (N := 8) hx hb hts inG10 hown hK hP 0 rfl rfl 0 (Nat.le_of_ble_eq_true rfl) (hts _ q560) (fun _ h9 => h9) rfl dX10_fault_37 ?_
      refine va_get (D := G.1) (cl := vwCl) (ci := 6) (v := .int (t_nowI 3)) (C := RX6) (T := TX6) (N := 7) hx hb hts inG6 hown hK hP 1 rfl rfl 3 (Nat.le_of_ble_eq_true rfl) (hts _ q224) (fun _ h9 => h9) rfl dX10_fault_40 ?_
      subst hf
      exact pRet hx hb hr hlocks hS dX10_fault_43
    · have hf := if_f hf c4
      refine lv_lookup (off := 43) (tgt := 44) hx hb dX10_fault_1 (by decide) (by have ec3 := sw_ne (k := 0) (by decide) (by decide) c3; have ec4 := sw_ne (k := 1) (by decide) (by decide) c4; simp [Op.lookupswitch.offset, ec3, Ne.symm ec3, ec4, Ne.symm ec4]) (by decide) ?_
      refine lv_iconst (v := -1) hx hb dX10_fault_44 (by decide) ?_
      subst hf
      exact pRet hx hb hr hlocks hS dX10_fault_45

def fX10_why (t_nowI : Nat → Int32) (p0 : Int32) : Int32 :=
  (if p0 = (0 : Int32) then (t_nowI 4) else (if p0 = (1 : Int32) then (t_nowI 5) else (if p0 = (2 : Int32) then (t_nowI 6) else (-1 : Int32))))
set_option maxRecDepth 100000 in
set_option maxHeartbeats 4000000 in
theorem tX10_why (l : Launch) (G : gG) (ad_t ad_t_now ad_t_images ad_t_past ad_t_wiring ad_t_form ad_t_trial ad_t_reader ad_t_text ad_t_now_memory ad_t_now_tape : Nat) (t_nowI : Nat → Int32) (p0 : Int32) (o : Int32) (hf : fX10_why t_nowI p0 = o) : mP G l yX10_why cX10_why 2 (some .int) 0 0 [.ref ad_t, .int p0] [(ad_t, .inr (10, [.ref ad_t_now, .ref ad_t_images, .ref ad_t_past, .ref ad_t_wiring, .ref ad_t_form, .ref ad_t_trial, .ref ad_t_reader, .ref ad_t_text])), (ad_t_now, .inr (6, [.ref ad_t_now_memory, .ref ad_t_now_tape, .int (t_nowI 2), .int (t_nowI 3), .int (t_nowI 4), .int (t_nowI 5), .int (t_nowI 6)]))] (some (.int o)) := by
  refine mP_of (by decide) (Nat.le_of_ble_eq_true rfl) ?_
  intro p e s m below meth cd ls hx hb hml hown hts hr hlocks hl hP hG
  have hK := hG.1
  have hown : s.vm.findClass RX10 = some m.cls := hown
  have hl : lv_has ls 2 [(0, .ref ad_t), (1, .int p0)] := hl
  have hS : va_S no s.heap s.heap [] := va_S.rf
  generalize ([] : List Loc) = locs at hS ⊢
  unfold fX10_why at hf
  show wG p l e 0 0 s m [.ref ad_t, .int p0] below meth cd s.heap locs (pQ (some (.int o))) no (F0 m 0 ls [])
  refine lv_iload_n hx hb dX10_why_0 rfl (lv_at hl 1 rfl) ?_
  by_cases c4 : p0 = (0 : Int32)
  · have hf := if_t hf c4
    refine lv_tableIn (off := 27) (tgt := 28) hx hb dX10_why_1 (by rw [c4]; decide) (by rw [c4]; decide) (by rw [c4]; decide) (by decide) ?_
    refine lv_aload_n hx hb dX10_why_28 rfl (lv_at hl 0 rfl) ?_
    refine va_get (D := G.1) (cl := vwCl) (ci := 10) (v := .ref ad_t_now) (C := RX10) (T := TX10) (N := 8) hx hb hts inG10 hown hK hP 0 rfl rfl 0 (Nat.le_of_ble_eq_true rfl) (hts _ q560) (fun _ h9 => h9) rfl dX10_why_29 ?_
    refine va_get (D := G.1) (cl := vwCl) (ci := 6) (v := .int (t_nowI 4)) (C := RX6) (T := TX6) (N := 7) hx hb hts inG6 hown hK hP 1 rfl rfl 4 (Nat.le_of_ble_eq_true rfl) (hts _ q226) (fun _ h9 => h9) rfl dX10_why_32 ?_
    subst hf
    exact pRet hx hb hr hlocks hS dX10_why_35
  · have hf := if_f hf c4
    by_cases c5 : p0 = (1 : Int32)
    · have hf := if_t hf c5
      refine lv_tableIn (off := 35) (tgt := 36) hx hb dX10_why_1 (by rw [c5]; decide) (by rw [c5]; decide) (by rw [c5]; decide) (by decide) ?_
      refine lv_aload_n hx hb dX10_why_36 rfl (lv_at hl 0 rfl) ?_
      refine va_get (D := G.1) (cl := vwCl) (ci := 10) (v := .ref ad_t_now) (C := RX10) (T := TX10) (N := 8) hx hb hts inG10 hown hK hP 0 rfl rfl 0 (Nat.le_of_ble_eq_true rfl) (hts _ q560) (fun _ h9 => h9) rfl dX10_why_37 ?_
      refine va_get (D := G.1) (cl := vwCl) (ci := 6) (v := .int (t_nowI 5)) (C := RX6) (T := TX6) (N := 7) hx hb hts inG6 hown hK hP 1 rfl rfl 5 (Nat.le_of_ble_eq_true rfl) (hts _ q228) (fun _ h9 => h9) rfl dX10_why_40 ?_
      subst hf
      exact pRet hx hb hr hlocks hS dX10_why_43
    · have hf := if_f hf c5
      by_cases c6 : p0 = (2 : Int32)
      · have hf := if_t hf c6
        refine lv_tableIn (off := 43) (tgt := 44) hx hb dX10_why_1 (by rw [c6]; decide) (by rw [c6]; decide) (by rw [c6]; decide) (by decide) ?_
        refine lv_aload_n hx hb dX10_why_44 rfl (lv_at hl 0 rfl) ?_
        refine va_get (D := G.1) (cl := vwCl) (ci := 10) (v := .ref ad_t_now) (C := RX10) (T := TX10) (N := 8) hx hb hts inG10 hown hK hP 0 rfl rfl 0 (Nat.le_of_ble_eq_true rfl) (hts _ q560) (fun _ h9 => h9) rfl dX10_why_45 ?_
        refine va_get (D := G.1) (cl := vwCl) (ci := 6) (v := .int (t_nowI 6)) (C := RX6) (T := TX6) (N := 7) hx hb hts inG6 hown hK hP 1 rfl rfl 6 (Nat.le_of_ble_eq_true rfl) (hts _ q230) (fun _ h9 => h9) rfl dX10_why_48 ?_
        subst hf
        exact pRet hx hb hr hlocks hS dX10_why_51
      · have hf := if_f hf c6
        refine lv_tableOut (tgt := 52) hx hb dX10_why_1 (by have ec4 := sw_ne (k := 0) (by decide) (by decide) c4; have ec5 := sw_ne (k := 1) (by decide) (by decide) c5; have ec6 := sw_ne (k := 2) (by decide) (by decide) c6; omega) (by decide) ?_
        refine lv_iconst (v := -1) hx hb dX10_why_52 (by decide) ?_
        subst hf
        exact pRet hx hb hr hlocks hS dX10_why_53

def fX10_given (t_wiring_repairI : Nat → Int32) (t_wiring_repair_rows : Nat → Int32) (t_wiring_repair_columns : Nat → Int32) (p0 : Int32) (p1 : Int32) : Option (Int32) :=
  (if p0 < 0 then some (-1 : Int32) else (if p0 < (if p1 = 0 then (t_wiring_repairI 2) else (t_wiring_repairI 3)) then (if p1 = 0 then gd (gi p0 4) (some (t_wiring_repair_rows p0.toNatClampNeg)) else gd (gi p0 2) (some (t_wiring_repair_columns p0.toNatClampNeg))) else some (-1 : Int32)))
set_option maxRecDepth 100000 in
set_option maxHeartbeats 4000000 in
theorem tX10_given (l : Launch) (G : gG) (ad_t ad_t_now ad_t_images ad_t_past ad_t_wiring ad_t_form ad_t_trial ad_t_reader ad_t_text ad_t_wiring_repair ad_t_wiring_repair_rows ad_t_wiring_repair_columns ad_t_wiring_repair_candidates ad_t_wiring_repair_left : Nat) (t_wiringI : Nat → Int32) (t_wiring_repairI : Nat → Int32) (t_wiring_repair_rows : Nat → Int32) (t_wiring_repair_columns : Nat → Int32) (p0 : Int32) (p1 : Int32) (o : Int32) (hf : fX10_given t_wiring_repairI t_wiring_repair_rows t_wiring_repair_columns p0 p1 = some o) : mP G l yX10_given cX10_given 4 (some .int) 0 0 [.ref ad_t, .int p0, .int p1] [(ad_t, .inr (10, [.ref ad_t_now, .ref ad_t_images, .ref ad_t_past, .ref ad_t_wiring, .ref ad_t_form, .ref ad_t_trial, .ref ad_t_reader, .ref ad_t_text])), (ad_t_wiring, .inr (9, [.ref ad_t_wiring_repair, .int (t_wiringI 1), .int (t_wiringI 2), .int (t_wiringI 3), .int (t_wiringI 4)])), (ad_t_wiring_repair, .inr (3, [.ref ad_t_wiring_repair_rows, .ref ad_t_wiring_repair_columns, .int (t_wiring_repairI 2), .int (t_wiring_repairI 3), .int (t_wiring_repairI 4), .int (t_wiring_repairI 5), .ref ad_t_wiring_repair_candidates, .ref ad_t_wiring_repair_left, .int (t_wiring_repairI 8)])), (ad_t_wiring_repair_rows, .inl (G.2.1 0, 4, .inl t_wiring_repair_rows)), (ad_t_wiring_repair_columns, .inl (G.2.1 0, 2, .inl t_wiring_repair_columns))] (some (.int o)) := by
  refine mP_of (by decide) (Nat.le_of_ble_eq_true rfl) ?_
  intro p e s m below meth cd ls hx hb hml hown hts hr hlocks hl hP hG
  have hK := hG.1
  have hown : s.vm.findClass RX10 = some m.cls := hown
  have hl : lv_has ls 4 [(0, .ref ad_t), (1, .int p0), (2, .int p1)] := hl
  have hS : va_S no s.heap s.heap [] := va_S.rf
  generalize ([] : List Loc) = locs at hS ⊢
  unfold fX10_given at hf
  show wG p l e 0 0 s m [.ref ad_t, .int p0, .int p1] below meth cd s.heap locs (pQ (some (.int o))) no (F0 m 0 ls [])
  refine lv_aload_n hx hb dX10_given_0 rfl (lv_at hl 0 rfl) ?_
  refine va_get (D := G.1) (cl := vwCl) (ci := 10) (v := .ref ad_t_wiring) (C := RX10) (T := TX10) (N := 8) hx hb hts inG10 hown hK hP 0 rfl rfl 3 (Nat.le_of_ble_eq_true rfl) (hts _ q563) (fun _ h9 => h9) rfl dX10_given_1 ?_
  refine va_get (D := G.1) (cl := vwCl) (ci := 9) (v := .ref ad_t_wiring_repair) (C := RX9) (T := TX9) (N := 5) hx hb hts inG9 hown hK hP 1 rfl rfl 0 (Nat.le_of_ble_eq_true rfl) (hts _ q320) (fun _ h9 => h9) rfl dX10_given_4 ?_
  refine lv_astore_n (lv' := [(3, .ref ad_t_wiring_repair), (0, .ref ad_t), (1, .int p0), (2, .int p1)]) hx hb dX10_given_7 rfl hl (by decide) rfl (fun ls hl => ?_)
  refine lv_iload_n hx hb dX10_given_8 rfl (lv_at hl 2 rfl) ?_
  refine lv_if_lt (tgt := 31) hx hb dX10_given_9 (by decide) (fun c15 => ?_) (fun c15 => ?_)
  · have hf := if_t hf c15
    refine lv_iconst (v := -1) hx hb dX10_given_31 (by decide) ?_
    have hf := Option.some.inj hf
    subst hf
    exact pRet hx hb hr hlocks hS dX10_given_32
  · have hf := if_f hf c15
    refine lv_iload_n hx hb dX10_given_12 rfl (lv_at hl 2 rfl) ?_
    refine lv_iload_n hx hb dX10_given_13 rfl (lv_at hl 3 rfl) ?_
    have J20 : wG p l e 0 0 s m [.ref ad_t, .int p0, .int p1] below meth cd s.heap locs (pQ (some (.int o))) no (F0 m 28 ls [.int (if p1 = 0 then (t_wiring_repairI 2) else (t_wiring_repairI 3)), .int p0]) := by
      refine lv_icmp_lt (tgt := 33) hx hb dX10_given_28 (by decide) (fun c16 => ?_) (fun c16 => ?_)
      · have hf := if_t hf c16
        refine lv_iload_n hx hb dX10_given_33 rfl (lv_at hl 3 rfl) ?_
        refine lv_if_eq (tgt := 46) hx hb dX10_given_34 (by decide) (fun c17 => ?_) (fun c17 => ?_)
        · have hf := if_t hf c17
          refine lv_aload_n hx hb dX10_given_46 rfl (lv_at hl 0 rfl) ?_
          refine va_get (D := G.1) (cl := vwCl) (ci := 3) (v := .ref ad_t_wiring_repair_rows) (C := RX3) (T := TX3) (N := 9) hx hb hts inG3 hown hK hP 2 rfl rfl 0 (Nat.le_of_ble_eq_true rfl) (hts _ q280) (fun _ h9 => h9) rfl dX10_given_47 ?_
          refine lv_iload_n hx hb dX10_given_50 rfl (lv_at hl 2 rfl) ?_
          obtain ⟨h18, hf⟩ := gd_some hf
          refine va_iald (D := G.1) (cl := vwCl) hx hb hK hP 3 0 rfl rfl (gi_in h18) dX10_given_51 ?_
          have hf := Option.some.inj hf
          subst hf
          exact pRet hx hb hr hlocks hS dX10_given_52
        · have hf := if_f hf c17
          refine lv_aload_n hx hb dX10_given_37 rfl (lv_at hl 0 rfl) ?_
          refine va_get (D := G.1) (cl := vwCl) (ci := 3) (v := .ref ad_t_wiring_repair_columns) (C := RX3) (T := TX3) (N := 9) hx hb hts inG3 hown hK hP 2 rfl rfl 1 (Nat.le_of_ble_eq_true rfl) (hts _ q283) (fun _ h9 => h9) rfl dX10_given_38 ?_
          refine lv_iload_n hx hb dX10_given_41 rfl (lv_at hl 2 rfl) ?_
          obtain ⟨h19, hf⟩ := gd_some hf
          refine va_iald (D := G.1) (cl := vwCl) hx hb hK hP 4 0 rfl rfl (gi_in h19) dX10_given_42 ?_
          refine lv_goto (tgt := 52) hx hb dX10_given_43 (by decide) ?_
          have hf := Option.some.inj hf
          subst hf
          exact pRet hx hb hr hlocks hS dX10_given_52
      · have hf := if_f hf c16
        refine lv_iconst (v := -1) hx hb dX10_given_31 (by decide) ?_
        have hf := Option.some.inj hf
        subst hf
        exact pRet hx hb hr hlocks hS dX10_given_32
    refine lv_if_eq (tgt := 24) hx hb dX10_given_14 (by decide) (fun c21 => ?_) (fun c21 => ?_)
    · refine lv_aload_n hx hb dX10_given_24 rfl (lv_at hl 0 rfl) ?_
      refine va_get (D := G.1) (cl := vwCl) (ci := 3) (v := .int (t_wiring_repairI 2)) (C := RX3) (T := TX3) (N := 9) hx hb hts inG3 hown hK hP 2 rfl rfl 2 (Nat.le_of_ble_eq_true rfl) (hts _ q287) (fun _ h9 => h9) rfl dX10_given_25 ?_
      exact (mgT c21 J20)
    · refine lv_aload_n hx hb dX10_given_17 rfl (lv_at hl 0 rfl) ?_
      refine va_get (D := G.1) (cl := vwCl) (ci := 3) (v := .int (t_wiring_repairI 3)) (C := RX3) (T := TX3) (N := 9) hx hb hts inG3 hown hK hP 2 rfl rfl 3 (Nat.le_of_ble_eq_true rfl) (hts _ q291) (fun _ h9 => h9) rfl dX10_given_18 ?_
      refine lv_goto (tgt := 28) hx hb dX10_given_21 (by decide) ?_
      exact (mgF c21 J20)

def fX10_cell (t_now_memory_specI : Nat → Int32) (t_now_memory_spec_badRows : Nat → Int32) (t_now_memory_spec_badColumns : Nat → Int32) (t_now_memory_spec_badBits : Nat → Int32) (t_wiring_repairI : Nat → Int32) (p0 : Int32) (p1 : Int32) : Option (Int32) :=
  (if p0 < 0 then some (-1 : Int32) else (if p0 < (t_now_memory_specI 4) then (if p1 = (0 : Int32) then gd (gi p0 12) (some (t_now_memory_spec_badRows p0.toNatClampNeg)) else (if p1 = (1 : Int32) then gd (gi p0 12) (some (t_now_memory_spec_badColumns p0.toNatClampNeg)) else (if p1 = (2 : Int32) then gd (gi p0 12) (some (t_now_memory_spec_badBits p0.toNatClampNeg)) else (if p1 = (3 : Int32) then some (if (t_wiring_repairI 4) = 0 then (0 : Int32) else (1 : Int32)) else some (-1 : Int32))))) else some (-1 : Int32)))
set_option maxRecDepth 100000 in
set_option maxHeartbeats 4000000 in
theorem tX10_cell (l : Launch) (G : gG) (ad_t ad_t_now ad_t_images ad_t_past ad_t_wiring ad_t_form ad_t_trial ad_t_reader ad_t_text ad_t_now_memory ad_t_now_tape ad_t_now_memory_spec ad_t_now_memory_words ad_t_now_memory_spares ad_t_now_memory_spec_numbers ad_t_now_memory_spec_badRows ad_t_now_memory_spec_badColumns ad_t_now_memory_spec_badBits ad_t_wiring_repair ad_t_wiring_repair_rows ad_t_wiring_repair_columns ad_t_wiring_repair_candidates ad_t_wiring_repair_left : Nat) (t_nowI : Nat → Int32) (t_now_memory_specI : Nat → Int32) (t_now_memory_spec_badRows : Nat → Int32) (t_now_memory_spec_badColumns : Nat → Int32) (t_now_memory_spec_badBits : Nat → Int32) (t_wiringI : Nat → Int32) (t_wiring_repairI : Nat → Int32) (p0 : Int32) (p1 : Int32) (o : Int32) (hf : fX10_cell t_now_memory_specI t_now_memory_spec_badRows t_now_memory_spec_badColumns t_now_memory_spec_badBits t_wiring_repairI p0 p1 = some o) : mP G l yX10_cell cX10_cell 4 (some .int) 0 0 [.ref ad_t, .int p0, .int p1] [(ad_t, .inr (10, [.ref ad_t_now, .ref ad_t_images, .ref ad_t_past, .ref ad_t_wiring, .ref ad_t_form, .ref ad_t_trial, .ref ad_t_reader, .ref ad_t_text])), (ad_t_now, .inr (6, [.ref ad_t_now_memory, .ref ad_t_now_tape, .int (t_nowI 2), .int (t_nowI 3), .int (t_nowI 4), .int (t_nowI 5), .int (t_nowI 6)])), (ad_t_now_memory, .inr (0, [.ref ad_t_now_memory_spec, .ref ad_t_now_memory_words, .ref ad_t_now_memory_spares])), (ad_t_now_memory_spec, .inr (5, [.ref ad_t_now_memory_spec_numbers, .ref ad_t_now_memory_spec_badRows, .ref ad_t_now_memory_spec_badColumns, .ref ad_t_now_memory_spec_badBits, .int (t_now_memory_specI 4)])), (ad_t_now_memory_spec_badRows, .inl (G.2.1 0, 12, .inl t_now_memory_spec_badRows)), (ad_t_now_memory_spec_badColumns, .inl (G.2.1 0, 12, .inl t_now_memory_spec_badColumns)), (ad_t_now_memory_spec_badBits, .inl (G.2.1 0, 12, .inl t_now_memory_spec_badBits)), (ad_t_wiring, .inr (9, [.ref ad_t_wiring_repair, .int (t_wiringI 1), .int (t_wiringI 2), .int (t_wiringI 3), .int (t_wiringI 4)])), (ad_t_wiring_repair, .inr (3, [.ref ad_t_wiring_repair_rows, .ref ad_t_wiring_repair_columns, .int (t_wiring_repairI 2), .int (t_wiring_repairI 3), .int (t_wiring_repairI 4), .int (t_wiring_repairI 5), .ref ad_t_wiring_repair_candidates, .ref ad_t_wiring_repair_left, .int (t_wiring_repairI 8)]))] (some (.int o)) := by
  refine mP_of (by decide) (Nat.le_of_ble_eq_true rfl) ?_
  intro p e s m below meth cd ls hx hb hml hown hts hr hlocks hl hP hG
  have hK := hG.1
  have hown : s.vm.findClass RX10 = some m.cls := hown
  have hl : lv_has ls 4 [(0, .ref ad_t), (1, .int p0), (2, .int p1)] := hl
  have hS : va_S no s.heap s.heap [] := va_S.rf
  generalize ([] : List Loc) = locs at hS ⊢
  unfold fX10_cell at hf
  show wG p l e 0 0 s m [.ref ad_t, .int p0, .int p1] below meth cd s.heap locs (pQ (some (.int o))) no (F0 m 0 ls [])
  refine lv_aload_n hx hb dX10_cell_0 rfl (lv_at hl 0 rfl) ?_
  refine va_get (D := G.1) (cl := vwCl) (ci := 10) (v := .ref ad_t_now) (C := RX10) (T := TX10) (N := 8) hx hb hts inG10 hown hK hP 0 rfl rfl 0 (Nat.le_of_ble_eq_true rfl) (hts _ q560) (fun _ h9 => h9) rfl dX10_cell_1 ?_
  refine va_get (D := G.1) (cl := vwCl) (ci := 6) (v := .ref ad_t_now_memory) (C := RX6) (T := TX6) (N := 7) hx hb hts inG6 hown hK hP 1 rfl rfl 0 (Nat.le_of_ble_eq_true rfl) (hts _ q218) (fun _ h9 => h9) rfl dX10_cell_4 ?_
  refine va_get (D := G.1) (cl := vwCl) (ci := 0) (v := .ref ad_t_now_memory_spec) (C := RX0) (T := TX0) (N := 3) hx hb hts inG0 hown hK hP 2 rfl rfl 0 (Nat.le_of_ble_eq_true rfl) (hts _ q188) (fun _ h9 => h9) rfl dX10_cell_7 ?_
  refine lv_astore_n (lv' := [(3, .ref ad_t_now_memory_spec), (0, .ref ad_t), (1, .int p0), (2, .int p1)]) hx hb dX10_cell_10 rfl hl (by decide) rfl (fun ls hl => ?_)
  refine lv_iload_n hx hb dX10_cell_11 rfl (lv_at hl 2 rfl) ?_
  refine lv_if_lt (tgt := 23) hx hb dX10_cell_12 (by decide) (fun c23 => ?_) (fun c23 => ?_)
  · have hf := if_t hf c23
    refine lv_iconst (v := -1) hx hb dX10_cell_23 (by decide) ?_
    have hf := Option.some.inj hf
    subst hf
    exact pRet hx hb hr hlocks hS dX10_cell_24
  · have hf := if_f hf c23
    refine lv_iload_n hx hb dX10_cell_15 rfl (lv_at hl 2 rfl) ?_
    refine lv_aload_n hx hb dX10_cell_16 rfl (lv_at hl 0 rfl) ?_
    refine va_get (D := G.1) (cl := vwCl) (ci := 5) (v := .int (t_now_memory_specI 4)) (C := RX5) (T := TX5) (N := 5) hx hb hts inG5 hown hK hP 3 rfl rfl 4 (Nat.le_of_ble_eq_true rfl) (hts _ q173) (fun _ h9 => h9) rfl dX10_cell_17 ?_
    refine lv_icmp_lt (tgt := 25) hx hb dX10_cell_20 (by decide) (fun c24 => ?_) (fun c24 => ?_)
    · have hf := if_t hf c24
      refine lv_iload_n hx hb dX10_cell_25 rfl (lv_at hl 3 rfl) ?_
      by_cases c25 : p1 = (0 : Int32)
      · have hf := if_t hf c25
        refine lv_tableIn (off := 30) (tgt := 56) hx hb dX10_cell_26 (by rw [c25]; decide) (by rw [c25]; decide) (by rw [c25]; decide) (by decide) ?_
        refine lv_aload_n hx hb dX10_cell_56 rfl (lv_at hl 0 rfl) ?_
        refine va_get (D := G.1) (cl := vwCl) (ci := 5) (v := .ref ad_t_now_memory_spec_badRows) (C := RX5) (T := TX5) (N := 5) hx hb hts inG5 hown hK hP 3 rfl rfl 1 (Nat.le_of_ble_eq_true rfl) (hts _ q159) (fun _ h9 => h9) rfl dX10_cell_57 ?_
        refine lv_iload_n hx hb dX10_cell_60 rfl (lv_at hl 2 rfl) ?_
        obtain ⟨h26, hf⟩ := gd_some hf
        refine va_iald (D := G.1) (cl := vwCl) hx hb hK hP 4 0 rfl rfl (gi_in h26) dX10_cell_61 ?_
        have hf := Option.some.inj hf
        subst hf
        exact pRet hx hb hr hlocks hS dX10_cell_62
      · have hf := if_f hf c25
        by_cases c27 : p1 = (1 : Int32)
        · have hf := if_t hf c27
          refine lv_tableIn (off := 37) (tgt := 63) hx hb dX10_cell_26 (by rw [c27]; decide) (by rw [c27]; decide) (by rw [c27]; decide) (by decide) ?_
          refine lv_aload_n hx hb dX10_cell_63 rfl (lv_at hl 0 rfl) ?_
          refine va_get (D := G.1) (cl := vwCl) (ci := 5) (v := .ref ad_t_now_memory_spec_badColumns) (C := RX5) (T := TX5) (N := 5) hx hb hts inG5 hown hK hP 3 rfl rfl 2 (Nat.le_of_ble_eq_true rfl) (hts _ q164) (fun _ h9 => h9) rfl dX10_cell_64 ?_
          refine lv_iload_n hx hb dX10_cell_67 rfl (lv_at hl 2 rfl) ?_
          obtain ⟨h28, hf⟩ := gd_some hf
          refine va_iald (D := G.1) (cl := vwCl) hx hb hK hP 5 0 rfl rfl (gi_in h28) dX10_cell_68 ?_
          have hf := Option.some.inj hf
          subst hf
          exact pRet hx hb hr hlocks hS dX10_cell_69
        · have hf := if_f hf c27
          by_cases c29 : p1 = (2 : Int32)
          · have hf := if_t hf c29
            refine lv_tableIn (off := 44) (tgt := 70) hx hb dX10_cell_26 (by rw [c29]; decide) (by rw [c29]; decide) (by rw [c29]; decide) (by decide) ?_
            refine lv_aload_n hx hb dX10_cell_70 rfl (lv_at hl 0 rfl) ?_
            refine va_get (D := G.1) (cl := vwCl) (ci := 5) (v := .ref ad_t_now_memory_spec_badBits) (C := RX5) (T := TX5) (N := 5) hx hb hts inG5 hown hK hP 3 rfl rfl 3 (Nat.le_of_ble_eq_true rfl) (hts _ q168) (fun _ h9 => h9) rfl dX10_cell_71 ?_
            refine lv_iload_n hx hb dX10_cell_74 rfl (lv_at hl 2 rfl) ?_
            obtain ⟨h30, hf⟩ := gd_some hf
            refine va_iald (D := G.1) (cl := vwCl) hx hb hK hP 6 0 rfl rfl (gi_in h30) dX10_cell_75 ?_
            have hf := Option.some.inj hf
            subst hf
            exact pRet hx hb hr hlocks hS dX10_cell_76
          · have hf := if_f hf c29
            by_cases c31 : p1 = (3 : Int32)
            · have hf := if_t hf c31
              refine lv_tableIn (off := 51) (tgt := 77) hx hb dX10_cell_26 (by rw [c31]; decide) (by rw [c31]; decide) (by rw [c31]; decide) (by decide) ?_
              refine lv_aload_n hx hb dX10_cell_77 rfl (lv_at hl 1 rfl) ?_
              refine va_get (D := G.1) (cl := vwCl) (ci := 10) (v := .ref ad_t_wiring) (C := RX10) (T := TX10) (N := 8) hx hb hts inG10 hown hK hP 0 rfl rfl 3 (Nat.le_of_ble_eq_true rfl) (hts _ q563) (fun _ h9 => h9) rfl dX10_cell_78 ?_
              refine va_get (D := G.1) (cl := vwCl) (ci := 9) (v := .ref ad_t_wiring_repair) (C := RX9) (T := TX9) (N := 5) hx hb hts inG9 hown hK hP 7 rfl rfl 0 (Nat.le_of_ble_eq_true rfl) (hts _ q320) (fun _ h9 => h9) rfl dX10_cell_81 ?_
              refine va_get (D := G.1) (cl := vwCl) (ci := 3) (v := .int (t_wiring_repairI 4)) (C := RX3) (T := TX3) (N := 9) hx hb hts inG3 hown hK hP 8 rfl rfl 4 (Nat.le_of_ble_eq_true rfl) (hts _ q294) (fun _ h9 => h9) rfl dX10_cell_84 ?_
              have J32 : wG p l e 0 0 s m [.ref ad_t, .int p0, .int p1] below meth cd s.heap locs (pQ (some (.int o))) no (F0 m 95 ls [.int (if (t_wiring_repairI 4) = 0 then (0 : Int32) else (1 : Int32))]) := by
                have hf := Option.some.inj hf
                subst hf
                exact pRet hx hb hr hlocks hS dX10_cell_95
              refine lv_if_eq (tgt := 94) hx hb dX10_cell_87 (by decide) (fun c33 => ?_) (fun c33 => ?_)
              · refine lv_iconst (v := 0) hx hb dX10_cell_94 (by decide) ?_
                exact (mgT c33 J32)
              · refine lv_iconst (v := 1) hx hb dX10_cell_90 (by decide) ?_
                refine lv_goto (tgt := 95) hx hb dX10_cell_91 (by decide) ?_
                exact (mgF c33 J32)
            · have hf := if_f hf c31
              refine lv_tableOut (tgt := 96) hx hb dX10_cell_26 (by have ec25 := sw_ne (k := 0) (by decide) (by decide) c25; have ec27 := sw_ne (k := 1) (by decide) (by decide) c27; have ec29 := sw_ne (k := 2) (by decide) (by decide) c29; have ec31 := sw_ne (k := 3) (by decide) (by decide) c31; omega) (by decide) ?_
              refine lv_iconst (v := -1) hx hb dX10_cell_96 (by decide) ?_
              have hf := Option.some.inj hf
              subst hf
              exact pRet hx hb hr hlocks hS dX10_cell_97
    · have hf := if_f hf c24
      refine lv_iconst (v := -1) hx hb dX10_cell_23 (by decide) ?_
      have hf := Option.some.inj hf
      subst hf
      exact pRet hx hb hr hlocks hS dX10_cell_24

def fX10_fewest (t_wiring_repairI : Nat → Int32) : Int32 :=
  (if (4 : Int32) < (t_wiring_repairI 5) then (-1 : Int32) else (t_wiring_repairI 5))
set_option maxRecDepth 100000 in
set_option maxHeartbeats 4000000 in
theorem tX10_fewest (l : Launch) (G : gG) (ad_t ad_t_now ad_t_images ad_t_past ad_t_wiring ad_t_form ad_t_trial ad_t_reader ad_t_text ad_t_wiring_repair ad_t_wiring_repair_rows ad_t_wiring_repair_columns ad_t_wiring_repair_candidates ad_t_wiring_repair_left : Nat) (t_wiringI : Nat → Int32) (t_wiring_repairI : Nat → Int32) (o : Int32) (hf : fX10_fewest t_wiring_repairI = o) : mP G l yX10_fewest cX10_fewest 2 (some .int) 0 0 [.ref ad_t] [(ad_t, .inr (10, [.ref ad_t_now, .ref ad_t_images, .ref ad_t_past, .ref ad_t_wiring, .ref ad_t_form, .ref ad_t_trial, .ref ad_t_reader, .ref ad_t_text])), (ad_t_wiring, .inr (9, [.ref ad_t_wiring_repair, .int (t_wiringI 1), .int (t_wiringI 2), .int (t_wiringI 3), .int (t_wiringI 4)])), (ad_t_wiring_repair, .inr (3, [.ref ad_t_wiring_repair_rows, .ref ad_t_wiring_repair_columns, .int (t_wiring_repairI 2), .int (t_wiring_repairI 3), .int (t_wiring_repairI 4), .int (t_wiring_repairI 5), .ref ad_t_wiring_repair_candidates, .ref ad_t_wiring_repair_left, .int (t_wiring_repairI 8)]))] (some (.int o)) := by
  refine mP_of (by decide) (Nat.le_of_ble_eq_true rfl) ?_
  intro p e s m below meth cd ls hx hb hml hown hts hr hlocks hl hP hG
  have hK := hG.1
  have hown : s.vm.findClass RX10 = some m.cls := hown
  have hl : lv_has ls 2 [(0, .ref ad_t)] := hl
  have hS : va_S no s.heap s.heap [] := va_S.rf
  generalize ([] : List Loc) = locs at hS ⊢
  unfold fX10_fewest at hf
  show wG p l e 0 0 s m [.ref ad_t] below meth cd s.heap locs (pQ (some (.int o))) no (F0 m 0 ls [])
  refine lv_aload_n hx hb dX10_fewest_0 rfl (lv_at hl 0 rfl) ?_
  refine va_get (D := G.1) (cl := vwCl) (ci := 10) (v := .ref ad_t_wiring) (C := RX10) (T := TX10) (N := 8) hx hb hts inG10 hown hK hP 0 rfl rfl 3 (Nat.le_of_ble_eq_true rfl) (hts _ q563) (fun _ h9 => h9) rfl dX10_fewest_1 ?_
  refine va_get (D := G.1) (cl := vwCl) (ci := 9) (v := .ref ad_t_wiring_repair) (C := RX9) (T := TX9) (N := 5) hx hb hts inG9 hown hK hP 1 rfl rfl 0 (Nat.le_of_ble_eq_true rfl) (hts _ q320) (fun _ h9 => h9) rfl dX10_fewest_4 ?_
  refine va_get (D := G.1) (cl := vwCl) (ci := 3) (v := .int (t_wiring_repairI 5)) (C := RX3) (T := TX3) (N := 9) hx hb hts inG3 hown hK hP 2 rfl rfl 5 (Nat.le_of_ble_eq_true rfl) (hts _ q296) (fun _ h9 => h9) rfl dX10_fewest_7 ?_
  refine lv_istore_n (lv' := [(1, .int (t_wiring_repairI 5)), (0, .ref ad_t)]) hx hb dX10_fewest_10 rfl hl (by decide) rfl (fun ls hl => ?_)
  refine lv_iload_n hx hb dX10_fewest_11 rfl (lv_at hl 0 rfl) ?_
  refine lv_iconst (v := 4) hx hb dX10_fewest_12 (by decide) ?_
  have J3 : wG p l e 0 0 s m [.ref ad_t] below meth cd s.heap locs (pQ (some (.int o))) no (F0 m 21 ls [.int (if (4 : Int32) < (t_wiring_repairI 5) then (-1 : Int32) else (t_wiring_repairI 5))]) := by
    subst hf
    exact pRet hx hb hr hlocks hS dX10_fewest_21
  refine lv_icmp_gt (tgt := 20) hx hb dX10_fewest_13 (by decide) (fun c4 => ?_) (fun c4 => ?_)
  · refine lv_iconst (v := -1) hx hb dX10_fewest_20 (by decide) ?_
    exact (mgT c4 J3)
  · refine lv_iload_n hx hb dX10_fewest_16 rfl (lv_at hl 0 rfl) ?_
    refine lv_goto (tgt := 21) hx hb dX10_fewest_17 (by decide) ?_
    exact (mgF c4 J3)

def fX10_accept (t_nowI : Nat → Int32) : Option (Int32 × (Nat → Int32)) :=
  some ((0 : Int32), (upd (upd (upd t_nowI 4 (0 : Int32)) 5 (0 : Int32)) 6 (0 : Int32)))
set_option maxRecDepth 100000 in
set_option maxHeartbeats 4000000 in
theorem tX10_accept (l : Launch) (G : gG) (ad_t ad_t_now ad_t_images ad_t_past ad_t_wiring ad_t_form ad_t_trial ad_t_reader ad_t_text ad_t_now_memory ad_t_now_tape : Nat) (t_nowI : Nat → Int32) (o : Int32 × (Nat → Int32)) (hf : fX10_accept t_nowI = some o) : mE G l yX10_accept cX10_accept 1 (some .int) 0 0 0 0 [.ref ad_t] [(ad_t, .inr (10, [.ref ad_t_now, .ref ad_t_images, .ref ad_t_past, .ref ad_t_wiring, .ref ad_t_form, .ref ad_t_trial, .ref ad_t_reader, .ref ad_t_text])), (ad_t_now, .inr (6, [.ref ad_t_now_memory, .ref ad_t_now_tape, .int (t_nowI 2), .int (t_nowI 3), .int (t_nowI 4), .int (t_nowI 5), .int (t_nowI 6)]))] (fun r w => r = (some (.int o.1)) ∧ w = [(ad_t, .inr (10, [.ref ad_t_now, .ref ad_t_images, .ref ad_t_past, .ref ad_t_wiring, .ref ad_t_form, .ref ad_t_trial, .ref ad_t_reader, .ref ad_t_text])), (ad_t_now, .inr (6, [.ref ad_t_now_memory, .ref ad_t_now_tape, .int (o.2 2), .int (o.2 3), .int (o.2 4), .int (o.2 5), .int (o.2 6)]))]) := by
  refine mE_of (by decide) (Nat.le_of_ble_eq_true rfl) ?_
  intro p e s m below meth cd ls A hx hb hml hown hts hr hlocks hnm hl hA hP hD hS hG
  have hK := hG.1
  have hown : s.vm.findClass RX10 = some m.cls := hown
  have hl : lv_has ls 1 [(0, .ref ad_t)] := hl
  have hS := hS
  unfold fX10_accept at hf
  obtain ⟨H, locs, eH, eL⟩ : ∃ (H : Heap) (locs : List Loc), H = s.heap ∧ locs = [] := ⟨_, _, rfl, rfl⟩
  have hP : va_P G.1 vwCl [(ad_t, .inr (10, [.ref ad_t_now, .ref ad_t_images, .ref ad_t_past, .ref ad_t_wiring, .ref ad_t_form, .ref ad_t_trial, .ref ad_t_reader, .ref ad_t_text])), (ad_t_now, .inr (6, [.ref ad_t_now_memory, .ref ad_t_now_tape, .int (t_nowI 2), .int (t_nowI 3), .int (t_nowI 4), .int (t_nowI 5), .int (t_nowI 6)]))] H := eH ▸ hP
  have hS : va_S A s.heap H locs := by rw [eH, eL]; exact hS
  suffices hgo : wG p l e 0 0 s m [.ref ad_t] below meth cd H locs (eQ G A (fun r w => r = (some (.int o.1)) ∧ w = [(ad_t, .inr (10, [.ref ad_t_now, .ref ad_t_images, .ref ad_t_past, .ref ad_t_wiring, .ref ad_t_form, .ref ad_t_trial, .ref ad_t_reader, .ref ad_t_text])), (ad_t_now, .inr (6, [.ref ad_t_now_memory, .ref ad_t_now_tape, .int (o.2 2), .int (o.2 3), .int (o.2 4), .int (o.2 5), .int (o.2 6)]))])) A (F0 m 0 ls []) by rw [eH, eL] at hgo; exact hgo
  clear eH eL
  refine lv_aload_n hx hb dX10_accept_0 rfl (lv_at hl 0 rfl) ?_
  refine va_get (D := G.1) (cl := vwCl) (ci := 10) (v := .ref ad_t_now) (C := RX10) (T := TX10) (N := 8) hx hb hts inG10 hown hK hP 0 rfl rfl 0 (Nat.le_of_ble_eq_true rfl) (hts _ q560) (fun _ h9 => h9) rfl dX10_accept_1 ?_
  refine lv_iconst (v := 0) hx hb dX10_accept_4 (by decide) ?_
  refine va_put (D := G.1) (cl := vwCl) (ci := 6) (v := .int (0 : Int32)) (ty := .int) (C := RX6) (T := TX6) (N := 7) hx hb hts inG6 tyX6 tyX6_ok nmX6 hown hK hP hD hS 1 rfl rfl 4 (Nat.le_of_ble_eq_true rfl) (hts _ q226) (fun _ h9 => h9) rfl (tyX6_ok 4 (Nat.le_of_ble_eq_true rfl)) rfl rfl (Nat.le_of_ble_eq_true rfl) dX10_accept_5 (fun H locs hP hD hS => ?_)
  have hP : va_P G.1 vwCl [(ad_t, .inr (10, [.ref ad_t_now, .ref ad_t_images, .ref ad_t_past, .ref ad_t_wiring, .ref ad_t_form, .ref ad_t_trial, .ref ad_t_reader, .ref ad_t_text])), (ad_t_now, .inr (6, [.ref ad_t_now_memory, .ref ad_t_now_tape, .int (t_nowI 2), .int (t_nowI 3), .int (0 : Int32), .int (t_nowI 5), .int (t_nowI 6)]))] H := hP
  have hD : va_D A [(ad_t, .inr (10, [.ref ad_t_now, .ref ad_t_images, .ref ad_t_past, .ref ad_t_wiring, .ref ad_t_form, .ref ad_t_trial, .ref ad_t_reader, .ref ad_t_text])), (ad_t_now, .inr (6, [.ref ad_t_now_memory, .ref ad_t_now_tape, .int (t_nowI 2), .int (t_nowI 3), .int (0 : Int32), .int (t_nowI 5), .int (t_nowI 6)]))] := hD
  refine lv_aload_n hx hb dX10_accept_8 rfl (lv_at hl 0 rfl) ?_
  refine va_get (D := G.1) (cl := vwCl) (ci := 10) (v := .ref ad_t_now) (C := RX10) (T := TX10) (N := 8) hx hb hts inG10 hown hK hP 0 rfl rfl 0 (Nat.le_of_ble_eq_true rfl) (hts _ q560) (fun _ h9 => h9) rfl dX10_accept_9 ?_
  refine lv_iconst (v := 0) hx hb dX10_accept_12 (by decide) ?_
  refine va_put (D := G.1) (cl := vwCl) (ci := 6) (v := .int (0 : Int32)) (ty := .int) (C := RX6) (T := TX6) (N := 7) hx hb hts inG6 tyX6 tyX6_ok nmX6 hown hK hP hD hS 1 rfl rfl 5 (Nat.le_of_ble_eq_true rfl) (hts _ q228) (fun _ h9 => h9) rfl (tyX6_ok 5 (Nat.le_of_ble_eq_true rfl)) rfl rfl (Nat.le_of_ble_eq_true rfl) dX10_accept_13 (fun H locs hP hD hS => ?_)
  have hP : va_P G.1 vwCl [(ad_t, .inr (10, [.ref ad_t_now, .ref ad_t_images, .ref ad_t_past, .ref ad_t_wiring, .ref ad_t_form, .ref ad_t_trial, .ref ad_t_reader, .ref ad_t_text])), (ad_t_now, .inr (6, [.ref ad_t_now_memory, .ref ad_t_now_tape, .int (t_nowI 2), .int (t_nowI 3), .int (0 : Int32), .int (0 : Int32), .int (t_nowI 6)]))] H := hP
  have hD : va_D A [(ad_t, .inr (10, [.ref ad_t_now, .ref ad_t_images, .ref ad_t_past, .ref ad_t_wiring, .ref ad_t_form, .ref ad_t_trial, .ref ad_t_reader, .ref ad_t_text])), (ad_t_now, .inr (6, [.ref ad_t_now_memory, .ref ad_t_now_tape, .int (t_nowI 2), .int (t_nowI 3), .int (0 : Int32), .int (0 : Int32), .int (t_nowI 6)]))] := hD
  refine lv_aload_n hx hb dX10_accept_16 rfl (lv_at hl 0 rfl) ?_
  refine va_get (D := G.1) (cl := vwCl) (ci := 10) (v := .ref ad_t_now) (C := RX10) (T := TX10) (N := 8) hx hb hts inG10 hown hK hP 0 rfl rfl 0 (Nat.le_of_ble_eq_true rfl) (hts _ q560) (fun _ h9 => h9) rfl dX10_accept_17 ?_
  refine lv_iconst (v := 0) hx hb dX10_accept_20 (by decide) ?_
  refine va_put (D := G.1) (cl := vwCl) (ci := 6) (v := .int (0 : Int32)) (ty := .int) (C := RX6) (T := TX6) (N := 7) hx hb hts inG6 tyX6 tyX6_ok nmX6 hown hK hP hD hS 1 rfl rfl 6 (Nat.le_of_ble_eq_true rfl) (hts _ q230) (fun _ h9 => h9) rfl (tyX6_ok 6 (Nat.le_of_ble_eq_true rfl)) rfl rfl (Nat.le_of_ble_eq_true rfl) dX10_accept_21 (fun H locs hP hD hS => ?_)
  have hP : va_P G.1 vwCl [(ad_t, .inr (10, [.ref ad_t_now, .ref ad_t_images, .ref ad_t_past, .ref ad_t_wiring, .ref ad_t_form, .ref ad_t_trial, .ref ad_t_reader, .ref ad_t_text])), (ad_t_now, .inr (6, [.ref ad_t_now_memory, .ref ad_t_now_tape, .int (t_nowI 2), .int (t_nowI 3), .int (0 : Int32), .int (0 : Int32), .int (0 : Int32)]))] H := hP
  have hD : va_D A [(ad_t, .inr (10, [.ref ad_t_now, .ref ad_t_images, .ref ad_t_past, .ref ad_t_wiring, .ref ad_t_form, .ref ad_t_trial, .ref ad_t_reader, .ref ad_t_text])), (ad_t_now, .inr (6, [.ref ad_t_now_memory, .ref ad_t_now_tape, .int (t_nowI 2), .int (t_nowI 3), .int (0 : Int32), .int (0 : Int32), .int (0 : Int32)]))] := hD
  refine lv_iconst (v := 0) hx hb dX10_accept_24 (by decide) ?_
  have hf := Option.some.inj hf
  subst hf
  exact eRet hx hb hr hlocks hP hD hS ⟨rfl, rfl⟩ dX10_accept_25

def fX10_refuse (t_nowI : Nat → Int32) (p0 : Int32) : Option (Int32 × (Nat → Int32)) :=
  bn (fX10_accept t_nowI) fun a1 => some (p0, (upd a1.2 4 p0))
set_option maxRecDepth 100000 in
set_option maxHeartbeats 4000000 in
theorem tX10_refuse (l : Launch) (G : gG) (ad_t ad_t_now ad_t_images ad_t_past ad_t_wiring ad_t_form ad_t_trial ad_t_reader ad_t_text ad_t_now_memory ad_t_now_tape : Nat) (t_nowI : Nat → Int32) (p0 : Int32) (o : Int32 × (Nat → Int32)) (hf : fX10_refuse t_nowI p0 = some o) : mE G l yX10_refuse cX10_refuse 2 (some .int) 1 20 0 0 [.ref ad_t, .int p0] [(ad_t, .inr (10, [.ref ad_t_now, .ref ad_t_images, .ref ad_t_past, .ref ad_t_wiring, .ref ad_t_form, .ref ad_t_trial, .ref ad_t_reader, .ref ad_t_text])), (ad_t_now, .inr (6, [.ref ad_t_now_memory, .ref ad_t_now_tape, .int (t_nowI 2), .int (t_nowI 3), .int (t_nowI 4), .int (t_nowI 5), .int (t_nowI 6)]))] (fun r w => r = (some (.int o.1)) ∧ w = [(ad_t, .inr (10, [.ref ad_t_now, .ref ad_t_images, .ref ad_t_past, .ref ad_t_wiring, .ref ad_t_form, .ref ad_t_trial, .ref ad_t_reader, .ref ad_t_text])), (ad_t_now, .inr (6, [.ref ad_t_now_memory, .ref ad_t_now_tape, .int (o.2 2), .int (o.2 3), .int (o.2 4), .int (o.2 5), .int (o.2 6)]))]) := by
  refine mE_of (by decide) (Nat.le_of_ble_eq_true rfl) ?_
  intro p e s m below meth cd ls A hx hb hml hown hts hr hlocks hnm hl hA hP hD hS hG
  have hK := hG.1
  have hown : s.vm.findClass RX10 = some m.cls := hown
  have hl : lv_has ls 2 [(0, .ref ad_t), (1, .int p0)] := hl
  have hS := hS
  unfold fX10_refuse at hf
  obtain ⟨H, locs, eH, eL⟩ : ∃ (H : Heap) (locs : List Loc), H = s.heap ∧ locs = [] := ⟨_, _, rfl, rfl⟩
  have hP : va_P G.1 vwCl [(ad_t, .inr (10, [.ref ad_t_now, .ref ad_t_images, .ref ad_t_past, .ref ad_t_wiring, .ref ad_t_form, .ref ad_t_trial, .ref ad_t_reader, .ref ad_t_text])), (ad_t_now, .inr (6, [.ref ad_t_now_memory, .ref ad_t_now_tape, .int (t_nowI 2), .int (t_nowI 3), .int (t_nowI 4), .int (t_nowI 5), .int (t_nowI 6)]))] H := eH ▸ hP
  have hS : va_S A s.heap H locs := by rw [eH, eL]; exact hS
  suffices hgo : wG p l e 1 20 s m [.ref ad_t, .int p0] below meth cd H locs (eQ G A (fun r w => r = (some (.int o.1)) ∧ w = [(ad_t, .inr (10, [.ref ad_t_now, .ref ad_t_images, .ref ad_t_past, .ref ad_t_wiring, .ref ad_t_form, .ref ad_t_trial, .ref ad_t_reader, .ref ad_t_text])), (ad_t_now, .inr (6, [.ref ad_t_now_memory, .ref ad_t_now_tape, .int (o.2 2), .int (o.2 3), .int (o.2 4), .int (o.2 5), .int (o.2 6)]))])) A (F0 m 0 ls []) by rw [eH, eL] at hgo; exact hgo
  clear eH eL
  refine lv_aload_n hx hb dX10_refuse_0 rfl (lv_at hl 0 rfl) ?_
  obtain ⟨a3, h4, hf⟩ := bn_some hf
  refine kEV (tX10_accept l G ad_t ad_t_now ad_t_images ad_t_past ad_t_wiring ad_t_form ad_t_trial ad_t_reader ad_t_text ad_t_now_memory ad_t_now_tape t_nowI a3 h4) ⟨hx, hb, hml, hown, hts⟩ q788 q790 q26 q94 q791 okyX10_accept ⟨Nat.le_of_ble_eq_true rfl, Nat.le_of_ble_eq_true rfl⟩ hP hD hG hS hA [0, 1] [] rfl (wr := []) rfl (by decide) 0 rfl rfl hl.1 rfl (Nat.le_of_ble_eq_true rfl) dX10_refuse_1 ⟨Nat.zero_le _, Nat.zero_le _⟩ (fun r w H locs hR hP hD hS => ?_)
  obtain ⟨rfl, rfl⟩ := hR
  have hP : va_P G.1 vwCl [(ad_t, .inr (10, [.ref ad_t_now, .ref ad_t_images, .ref ad_t_past, .ref ad_t_wiring, .ref ad_t_form, .ref ad_t_trial, .ref ad_t_reader, .ref ad_t_text])), (ad_t_now, .inr (6, [.ref ad_t_now_memory, .ref ad_t_now_tape, .int (a3.2 2), .int (a3.2 3), .int (a3.2 4), .int (a3.2 5), .int (a3.2 6)]))] H := hP
  have hD : va_D A [(ad_t, .inr (10, [.ref ad_t_now, .ref ad_t_images, .ref ad_t_past, .ref ad_t_wiring, .ref ad_t_form, .ref ad_t_trial, .ref ad_t_reader, .ref ad_t_text])), (ad_t_now, .inr (6, [.ref ad_t_now_memory, .ref ad_t_now_tape, .int (a3.2 2), .int (a3.2 3), .int (a3.2 4), .int (a3.2 5), .int (a3.2 6)]))] := hD
  refine W.eq (g2 := F0 m 4 ls [.int a3.1]) rfl ?_
  refine lv_pop hx hb dX10_refuse_4 rfl ?_
  refine lv_aload_n hx hb dX10_refuse_5 rfl (lv_at hl 0 rfl) ?_
  refine va_get (D := G.1) (cl := vwCl) (ci := 10) (v := .ref ad_t_now) (C := RX10) (T := TX10) (N := 8) hx hb hts inG10 hown hK hP 0 rfl rfl 0 (Nat.le_of_ble_eq_true rfl) (hts _ q560) (fun _ h9 => h9) rfl dX10_refuse_6 ?_
  refine lv_iload_n hx hb dX10_refuse_9 rfl (lv_at hl 1 rfl) ?_
  refine va_put (D := G.1) (cl := vwCl) (ci := 6) (v := .int p0) (ty := .int) (C := RX6) (T := TX6) (N := 7) hx hb hts inG6 tyX6 tyX6_ok nmX6 hown hK hP hD hS 1 rfl rfl 4 (Nat.le_of_ble_eq_true rfl) (hts _ q226) (fun _ h9 => h9) rfl (tyX6_ok 4 (Nat.le_of_ble_eq_true rfl)) rfl rfl (Nat.le_of_ble_eq_true rfl) dX10_refuse_10 (fun H locs hP hD hS => ?_)
  have hP : va_P G.1 vwCl [(ad_t, .inr (10, [.ref ad_t_now, .ref ad_t_images, .ref ad_t_past, .ref ad_t_wiring, .ref ad_t_form, .ref ad_t_trial, .ref ad_t_reader, .ref ad_t_text])), (ad_t_now, .inr (6, [.ref ad_t_now_memory, .ref ad_t_now_tape, .int (a3.2 2), .int (a3.2 3), .int p0, .int (a3.2 5), .int (a3.2 6)]))] H := hP
  have hD : va_D A [(ad_t, .inr (10, [.ref ad_t_now, .ref ad_t_images, .ref ad_t_past, .ref ad_t_wiring, .ref ad_t_form, .ref ad_t_trial, .ref ad_t_reader, .ref ad_t_text])), (ad_t_now, .inr (6, [.ref ad_t_now_memory, .ref ad_t_now_tape, .int (a3.2 2), .int (a3.2 3), .int p0, .int (a3.2 5), .int (a3.2 6)]))] := hD
  refine lv_iload_n hx hb dX10_refuse_13 rfl (lv_at hl 1 rfl) ?_
  have hf := Option.some.inj hf
  subst hf
  exact eRet hx hb hr hlocks hP hD hS ⟨rfl, rfl⟩ dX10_refuse_14

def fX10_refuseUnfit (t_nowI : Nat → Int32) (p0 : Int32) : Option (Int32 × (Nat → Int32)) :=
  bn (fX10_accept t_nowI) fun a1 => (if p0 = (6 : Int32) then some ((4 : Int32), (upd (upd a1.2 4 (4 : Int32)) 5 (6 : Int32))) else some ((4 : Int32), (upd (upd (upd a1.2 4 (4 : Int32)) 5 (5 : Int32)) 6 p0)))
set_option maxRecDepth 100000 in
set_option maxHeartbeats 4000000 in
theorem tX10_refuseUnfit (l : Launch) (G : gG) (ad_t ad_t_now ad_t_images ad_t_past ad_t_wiring ad_t_form ad_t_trial ad_t_reader ad_t_text ad_t_now_memory ad_t_now_tape : Nat) (t_nowI : Nat → Int32) (p0 : Int32) (o : Int32 × (Nat → Int32)) (hf : fX10_refuseUnfit t_nowI p0 = some o) : mE G l yX10_refuseUnfit cX10_refuseUnfit 2 (some .int) 1 20 0 0 [.ref ad_t, .int p0] [(ad_t, .inr (10, [.ref ad_t_now, .ref ad_t_images, .ref ad_t_past, .ref ad_t_wiring, .ref ad_t_form, .ref ad_t_trial, .ref ad_t_reader, .ref ad_t_text])), (ad_t_now, .inr (6, [.ref ad_t_now_memory, .ref ad_t_now_tape, .int (t_nowI 2), .int (t_nowI 3), .int (t_nowI 4), .int (t_nowI 5), .int (t_nowI 6)]))] (fun r w => r = (some (.int o.1)) ∧ w = [(ad_t, .inr (10, [.ref ad_t_now, .ref ad_t_images, .ref ad_t_past, .ref ad_t_wiring, .ref ad_t_form, .ref ad_t_trial, .ref ad_t_reader, .ref ad_t_text])), (ad_t_now, .inr (6, [.ref ad_t_now_memory, .ref ad_t_now_tape, .int (o.2 2), .int (o.2 3), .int (o.2 4), .int (o.2 5), .int (o.2 6)]))]) := by
  refine mE_of (by decide) (Nat.le_of_ble_eq_true rfl) ?_
  intro p e s m below meth cd ls A hx hb hml hown hts hr hlocks hnm hl hA hP hD hS hG
  have hK := hG.1
  have hown : s.vm.findClass RX10 = some m.cls := hown
  have hl : lv_has ls 2 [(0, .ref ad_t), (1, .int p0)] := hl
  have hS := hS
  unfold fX10_refuseUnfit at hf
  obtain ⟨H, locs, eH, eL⟩ : ∃ (H : Heap) (locs : List Loc), H = s.heap ∧ locs = [] := ⟨_, _, rfl, rfl⟩
  have hP : va_P G.1 vwCl [(ad_t, .inr (10, [.ref ad_t_now, .ref ad_t_images, .ref ad_t_past, .ref ad_t_wiring, .ref ad_t_form, .ref ad_t_trial, .ref ad_t_reader, .ref ad_t_text])), (ad_t_now, .inr (6, [.ref ad_t_now_memory, .ref ad_t_now_tape, .int (t_nowI 2), .int (t_nowI 3), .int (t_nowI 4), .int (t_nowI 5), .int (t_nowI 6)]))] H := eH ▸ hP
  have hS : va_S A s.heap H locs := by rw [eH, eL]; exact hS
  suffices hgo : wG p l e 1 20 s m [.ref ad_t, .int p0] below meth cd H locs (eQ G A (fun r w => r = (some (.int o.1)) ∧ w = [(ad_t, .inr (10, [.ref ad_t_now, .ref ad_t_images, .ref ad_t_past, .ref ad_t_wiring, .ref ad_t_form, .ref ad_t_trial, .ref ad_t_reader, .ref ad_t_text])), (ad_t_now, .inr (6, [.ref ad_t_now_memory, .ref ad_t_now_tape, .int (o.2 2), .int (o.2 3), .int (o.2 4), .int (o.2 5), .int (o.2 6)]))])) A (F0 m 0 ls []) by rw [eH, eL] at hgo; exact hgo
  clear eH eL
  refine lv_aload_n hx hb dX10_refuseUnfit_0 rfl (lv_at hl 0 rfl) ?_
  obtain ⟨a4, h5, hf⟩ := bn_some hf
  refine kEV (tX10_accept l G ad_t ad_t_now ad_t_images ad_t_past ad_t_wiring ad_t_form ad_t_trial ad_t_reader ad_t_text ad_t_now_memory ad_t_now_tape t_nowI a4 h5) ⟨hx, hb, hml, hown, hts⟩ q788 q790 q26 q94 q791 okyX10_accept ⟨Nat.le_of_ble_eq_true rfl, Nat.le_of_ble_eq_true rfl⟩ hP hD hG hS hA [0, 1] [] rfl (wr := []) rfl (by decide) 0 rfl rfl hl.1 rfl (Nat.le_of_ble_eq_true rfl) dX10_refuseUnfit_1 ⟨Nat.zero_le _, Nat.zero_le _⟩ (fun r w H locs hR hP hD hS => ?_)
  obtain ⟨rfl, rfl⟩ := hR
  have hP : va_P G.1 vwCl [(ad_t, .inr (10, [.ref ad_t_now, .ref ad_t_images, .ref ad_t_past, .ref ad_t_wiring, .ref ad_t_form, .ref ad_t_trial, .ref ad_t_reader, .ref ad_t_text])), (ad_t_now, .inr (6, [.ref ad_t_now_memory, .ref ad_t_now_tape, .int (a4.2 2), .int (a4.2 3), .int (a4.2 4), .int (a4.2 5), .int (a4.2 6)]))] H := hP
  have hD : va_D A [(ad_t, .inr (10, [.ref ad_t_now, .ref ad_t_images, .ref ad_t_past, .ref ad_t_wiring, .ref ad_t_form, .ref ad_t_trial, .ref ad_t_reader, .ref ad_t_text])), (ad_t_now, .inr (6, [.ref ad_t_now_memory, .ref ad_t_now_tape, .int (a4.2 2), .int (a4.2 3), .int (a4.2 4), .int (a4.2 5), .int (a4.2 6)]))] := hD
  refine W.eq (g2 := F0 m 4 ls [.int a4.1]) rfl ?_
  refine lv_pop hx hb dX10_refuseUnfit_4 rfl ?_
  refine lv_aload_n hx hb dX10_refuseUnfit_5 rfl (lv_at hl 0 rfl) ?_
  refine va_get (D := G.1) (cl := vwCl) (ci := 10) (v := .ref ad_t_now) (C := RX10) (T := TX10) (N := 8) hx hb hts inG10 hown hK hP 0 rfl rfl 0 (Nat.le_of_ble_eq_true rfl) (hts _ q560) (fun _ h9 => h9) rfl dX10_refuseUnfit_6 ?_
  refine lv_iconst (v := 4) hx hb dX10_refuseUnfit_9 (by decide) ?_
  refine va_put (D := G.1) (cl := vwCl) (ci := 6) (v := .int (4 : Int32)) (ty := .int) (C := RX6) (T := TX6) (N := 7) hx hb hts inG6 tyX6 tyX6_ok nmX6 hown hK hP hD hS 1 rfl rfl 4 (Nat.le_of_ble_eq_true rfl) (hts _ q226) (fun _ h9 => h9) rfl (tyX6_ok 4 (Nat.le_of_ble_eq_true rfl)) rfl rfl (Nat.le_of_ble_eq_true rfl) dX10_refuseUnfit_10 (fun H locs hP hD hS => ?_)
  have hP : va_P G.1 vwCl [(ad_t, .inr (10, [.ref ad_t_now, .ref ad_t_images, .ref ad_t_past, .ref ad_t_wiring, .ref ad_t_form, .ref ad_t_trial, .ref ad_t_reader, .ref ad_t_text])), (ad_t_now, .inr (6, [.ref ad_t_now_memory, .ref ad_t_now_tape, .int (a4.2 2), .int (a4.2 3), .int (4 : Int32), .int (a4.2 5), .int (a4.2 6)]))] H := hP
  have hD : va_D A [(ad_t, .inr (10, [.ref ad_t_now, .ref ad_t_images, .ref ad_t_past, .ref ad_t_wiring, .ref ad_t_form, .ref ad_t_trial, .ref ad_t_reader, .ref ad_t_text])), (ad_t_now, .inr (6, [.ref ad_t_now_memory, .ref ad_t_now_tape, .int (a4.2 2), .int (a4.2 3), .int (4 : Int32), .int (a4.2 5), .int (a4.2 6)]))] := hD
  refine lv_iload_n hx hb dX10_refuseUnfit_13 rfl (lv_at hl 1 rfl) ?_
  refine lv_bipush (v := 6) hx hb dX10_refuseUnfit_14 (by decide) ?_
  refine lv_icmp_ne (tgt := 31) hx hb dX10_refuseUnfit_16 (by decide) (fun c6 => ?_) (fun c6 => ?_)
  · have hf := if_f hf c6
    refine lv_aload_n hx hb dX10_refuseUnfit_31 rfl (lv_at hl 0 rfl) ?_
    refine va_get (D := G.1) (cl := vwCl) (ci := 10) (v := .ref ad_t_now) (C := RX10) (T := TX10) (N := 8) hx hb hts inG10 hown hK hP 0 rfl rfl 0 (Nat.le_of_ble_eq_true rfl) (hts _ q560) (fun _ h9 => h9) rfl dX10_refuseUnfit_32 ?_
    refine lv_iconst (v := 5) hx hb dX10_refuseUnfit_35 (by decide) ?_
    refine va_put (D := G.1) (cl := vwCl) (ci := 6) (v := .int (5 : Int32)) (ty := .int) (C := RX6) (T := TX6) (N := 7) hx hb hts inG6 tyX6 tyX6_ok nmX6 hown hK hP hD hS 1 rfl rfl 5 (Nat.le_of_ble_eq_true rfl) (hts _ q228) (fun _ h9 => h9) rfl (tyX6_ok 5 (Nat.le_of_ble_eq_true rfl)) rfl rfl (Nat.le_of_ble_eq_true rfl) dX10_refuseUnfit_36 (fun H locs hP hD hS => ?_)
    have hP : va_P G.1 vwCl [(ad_t, .inr (10, [.ref ad_t_now, .ref ad_t_images, .ref ad_t_past, .ref ad_t_wiring, .ref ad_t_form, .ref ad_t_trial, .ref ad_t_reader, .ref ad_t_text])), (ad_t_now, .inr (6, [.ref ad_t_now_memory, .ref ad_t_now_tape, .int (a4.2 2), .int (a4.2 3), .int (4 : Int32), .int (5 : Int32), .int (a4.2 6)]))] H := hP
    have hD : va_D A [(ad_t, .inr (10, [.ref ad_t_now, .ref ad_t_images, .ref ad_t_past, .ref ad_t_wiring, .ref ad_t_form, .ref ad_t_trial, .ref ad_t_reader, .ref ad_t_text])), (ad_t_now, .inr (6, [.ref ad_t_now_memory, .ref ad_t_now_tape, .int (a4.2 2), .int (a4.2 3), .int (4 : Int32), .int (5 : Int32), .int (a4.2 6)]))] := hD
    refine lv_aload_n hx hb dX10_refuseUnfit_39 rfl (lv_at hl 0 rfl) ?_
    refine va_get (D := G.1) (cl := vwCl) (ci := 10) (v := .ref ad_t_now) (C := RX10) (T := TX10) (N := 8) hx hb hts inG10 hown hK hP 0 rfl rfl 0 (Nat.le_of_ble_eq_true rfl) (hts _ q560) (fun _ h9 => h9) rfl dX10_refuseUnfit_40 ?_
    refine lv_iload_n hx hb dX10_refuseUnfit_43 rfl (lv_at hl 1 rfl) ?_
    refine va_put (D := G.1) (cl := vwCl) (ci := 6) (v := .int p0) (ty := .int) (C := RX6) (T := TX6) (N := 7) hx hb hts inG6 tyX6 tyX6_ok nmX6 hown hK hP hD hS 1 rfl rfl 6 (Nat.le_of_ble_eq_true rfl) (hts _ q230) (fun _ h9 => h9) rfl (tyX6_ok 6 (Nat.le_of_ble_eq_true rfl)) rfl rfl (Nat.le_of_ble_eq_true rfl) dX10_refuseUnfit_44 (fun H locs hP hD hS => ?_)
    have hP : va_P G.1 vwCl [(ad_t, .inr (10, [.ref ad_t_now, .ref ad_t_images, .ref ad_t_past, .ref ad_t_wiring, .ref ad_t_form, .ref ad_t_trial, .ref ad_t_reader, .ref ad_t_text])), (ad_t_now, .inr (6, [.ref ad_t_now_memory, .ref ad_t_now_tape, .int (a4.2 2), .int (a4.2 3), .int (4 : Int32), .int (5 : Int32), .int p0]))] H := hP
    have hD : va_D A [(ad_t, .inr (10, [.ref ad_t_now, .ref ad_t_images, .ref ad_t_past, .ref ad_t_wiring, .ref ad_t_form, .ref ad_t_trial, .ref ad_t_reader, .ref ad_t_text])), (ad_t_now, .inr (6, [.ref ad_t_now_memory, .ref ad_t_now_tape, .int (a4.2 2), .int (a4.2 3), .int (4 : Int32), .int (5 : Int32), .int p0]))] := hD
    refine lv_iconst (v := 4) hx hb dX10_refuseUnfit_47 (by decide) ?_
    have hf := Option.some.inj hf
    subst hf
    exact eRet hx hb hr hlocks hP hD hS ⟨rfl, rfl⟩ dX10_refuseUnfit_48
  · have hf := if_t hf c6
    refine lv_aload_n hx hb dX10_refuseUnfit_19 rfl (lv_at hl 0 rfl) ?_
    refine va_get (D := G.1) (cl := vwCl) (ci := 10) (v := .ref ad_t_now) (C := RX10) (T := TX10) (N := 8) hx hb hts inG10 hown hK hP 0 rfl rfl 0 (Nat.le_of_ble_eq_true rfl) (hts _ q560) (fun _ h9 => h9) rfl dX10_refuseUnfit_20 ?_
    refine lv_bipush (v := 6) hx hb dX10_refuseUnfit_23 (by decide) ?_
    refine va_put (D := G.1) (cl := vwCl) (ci := 6) (v := .int (6 : Int32)) (ty := .int) (C := RX6) (T := TX6) (N := 7) hx hb hts inG6 tyX6 tyX6_ok nmX6 hown hK hP hD hS 1 rfl rfl 5 (Nat.le_of_ble_eq_true rfl) (hts _ q228) (fun _ h9 => h9) rfl (tyX6_ok 5 (Nat.le_of_ble_eq_true rfl)) rfl rfl (Nat.le_of_ble_eq_true rfl) dX10_refuseUnfit_25 (fun H locs hP hD hS => ?_)
    have hP : va_P G.1 vwCl [(ad_t, .inr (10, [.ref ad_t_now, .ref ad_t_images, .ref ad_t_past, .ref ad_t_wiring, .ref ad_t_form, .ref ad_t_trial, .ref ad_t_reader, .ref ad_t_text])), (ad_t_now, .inr (6, [.ref ad_t_now_memory, .ref ad_t_now_tape, .int (a4.2 2), .int (a4.2 3), .int (4 : Int32), .int (6 : Int32), .int (a4.2 6)]))] H := hP
    have hD : va_D A [(ad_t, .inr (10, [.ref ad_t_now, .ref ad_t_images, .ref ad_t_past, .ref ad_t_wiring, .ref ad_t_form, .ref ad_t_trial, .ref ad_t_reader, .ref ad_t_text])), (ad_t_now, .inr (6, [.ref ad_t_now_memory, .ref ad_t_now_tape, .int (a4.2 2), .int (a4.2 3), .int (4 : Int32), .int (6 : Int32), .int (a4.2 6)]))] := hD
    refine lv_goto (tgt := 47) hx hb dX10_refuseUnfit_28 (by decide) ?_
    refine lv_iconst (v := 4) hx hb dX10_refuseUnfit_47 (by decide) ?_
    have hf := Option.some.inj hf
    subst hf
    exact eRet hx hb hr hlocks hP hD hS ⟨rfl, rfl⟩ dX10_refuseUnfit_48

def fX10_isAddress (t_now_memory_spec_numbers : Nat → Int32) (p0 : Int32) : Bool :=
  (if p0 < 0 then false else (if (t_now_memory_spec_numbers 0) ≤ p0 then false else true))
set_option maxRecDepth 100000 in
set_option maxHeartbeats 4000000 in
theorem tX10_isAddress (l : Launch) (G : gG) (ad_t ad_t_now ad_t_images ad_t_past ad_t_wiring ad_t_form ad_t_trial ad_t_reader ad_t_text ad_t_now_memory ad_t_now_tape ad_t_now_memory_spec ad_t_now_memory_words ad_t_now_memory_spares ad_t_now_memory_spec_numbers ad_t_now_memory_spec_badRows ad_t_now_memory_spec_badColumns ad_t_now_memory_spec_badBits : Nat) (t_nowI : Nat → Int32) (t_now_memory_specI : Nat → Int32) (t_now_memory_spec_numbers : Nat → Int32) (p0 : Int32) (o : Bool) (hf : fX10_isAddress t_now_memory_spec_numbers p0 = o) : mP G l yX10_isAddress cX10_isAddress 2 (some .boolean) 0 0 [.ref ad_t, .int p0] [(ad_t, .inr (10, [.ref ad_t_now, .ref ad_t_images, .ref ad_t_past, .ref ad_t_wiring, .ref ad_t_form, .ref ad_t_trial, .ref ad_t_reader, .ref ad_t_text])), (ad_t_now, .inr (6, [.ref ad_t_now_memory, .ref ad_t_now_tape, .int (t_nowI 2), .int (t_nowI 3), .int (t_nowI 4), .int (t_nowI 5), .int (t_nowI 6)])), (ad_t_now_memory, .inr (0, [.ref ad_t_now_memory_spec, .ref ad_t_now_memory_words, .ref ad_t_now_memory_spares])), (ad_t_now_memory_spec, .inr (5, [.ref ad_t_now_memory_spec_numbers, .ref ad_t_now_memory_spec_badRows, .ref ad_t_now_memory_spec_badColumns, .ref ad_t_now_memory_spec_badBits, .int (t_now_memory_specI 4)])), (ad_t_now_memory_spec_numbers, .inl (G.2.1 0, 9, .inl t_now_memory_spec_numbers))] (some (.int (bi o))) := by
  refine mP_of (by decide) (Nat.le_of_ble_eq_true rfl) ?_
  intro p e s m below meth cd ls hx hb hml hown hts hr hlocks hl hP hG
  have hK := hG.1
  have hown : s.vm.findClass RX10 = some m.cls := hown
  have hl : lv_has ls 2 [(0, .ref ad_t), (1, .int p0)] := hl
  have hS : va_S no s.heap s.heap [] := va_S.rf
  generalize ([] : List Loc) = locs at hS ⊢
  unfold fX10_isAddress at hf
  show wG p l e 0 0 s m [.ref ad_t, .int p0] below meth cd s.heap locs (pQ (some (.int (bi o)))) no (F0 m 0 ls [])
  refine lv_iload_n hx hb dX10_isAddress_0 rfl (lv_at hl 1 rfl) ?_
  refine lv_if_lt (tgt := 27) hx hb dX10_isAddress_1 (by decide) (fun c3 => ?_) (fun c3 => ?_)
  · have hf := if_t hf c3
    refine lv_iconst (v := 0) hx hb dX10_isAddress_27 (by decide) ?_
    subst hf
    exact pRetZ (v := false) hx hb hr hlocks hS dX10_isAddress_28
  · have hf := if_f hf c3
    refine lv_iload_n hx hb dX10_isAddress_4 rfl (lv_at hl 1 rfl) ?_
    refine lv_aload_n hx hb dX10_isAddress_5 rfl (lv_at hl 0 rfl) ?_
    refine va_get (D := G.1) (cl := vwCl) (ci := 10) (v := .ref ad_t_now) (C := RX10) (T := TX10) (N := 8) hx hb hts inG10 hown hK hP 0 rfl rfl 0 (Nat.le_of_ble_eq_true rfl) (hts _ q560) (fun _ h9 => h9) rfl dX10_isAddress_6 ?_
    refine va_get (D := G.1) (cl := vwCl) (ci := 6) (v := .ref ad_t_now_memory) (C := RX6) (T := TX6) (N := 7) hx hb hts inG6 hown hK hP 1 rfl rfl 0 (Nat.le_of_ble_eq_true rfl) (hts _ q218) (fun _ h9 => h9) rfl dX10_isAddress_9 ?_
    refine va_get (D := G.1) (cl := vwCl) (ci := 0) (v := .ref ad_t_now_memory_spec) (C := RX0) (T := TX0) (N := 3) hx hb hts inG0 hown hK hP 2 rfl rfl 0 (Nat.le_of_ble_eq_true rfl) (hts _ q188) (fun _ h9 => h9) rfl dX10_isAddress_12 ?_
    refine va_get (D := G.1) (cl := vwCl) (ci := 5) (v := .ref ad_t_now_memory_spec_numbers) (C := RX5) (T := TX5) (N := 5) hx hb hts inG5 hown hK hP 3 rfl rfl 0 (Nat.le_of_ble_eq_true rfl) (hts _ q154) (fun _ h9 => h9) rfl dX10_isAddress_15 ?_
    refine lv_iconst (v := 0) hx hb dX10_isAddress_18 (by decide) ?_
    refine va_iald (D := G.1) (cl := vwCl) hx hb hK hP 4 0 rfl rfl (vin (by decide)) dX10_isAddress_19 ?_
    refine lv_ti (v := (t_now_memory_spec_numbers 0)) (congrArg (t_now_memory_spec_numbers) (tn 0)) ?_
    refine lv_icmp_ge (tgt := 27) hx hb dX10_isAddress_20 (by decide) (fun c4 => ?_) (fun c4 => ?_)
    · have hf := if_t hf c4
      refine lv_iconst (v := 0) hx hb dX10_isAddress_27 (by decide) ?_
      subst hf
      exact pRetZ (v := false) hx hb hr hlocks hS dX10_isAddress_28
    · have hf := if_f hf c4
      refine lv_iconst (v := 1) hx hb dX10_isAddress_23 (by decide) ?_
      refine lv_goto (tgt := 28) hx hb dX10_isAddress_24 (by decide) ?_
      subst hf
      exact pRetZ (v := true) hx hb hr hlocks hS dX10_isAddress_28
