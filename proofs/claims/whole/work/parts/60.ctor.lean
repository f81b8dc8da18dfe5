def fX5_init : Option ((Nat → Int32) × (Nat → Int32) × (Nat → Int32) × (Nat → Int32) × (Nat → Int32)) :=
  bn (fX5_toFirst (upd (fun _ => (0 : Int32)) 4 (0 : Int32)) (fun _ => 0)) fun a5 => some (a5.1, a5.2, (fun _ => 0), (fun _ => 0), (fun _ => 0))
set_option maxRecDepth 100000 in
set_option maxHeartbeats 4000000 in
theorem tX5_init (l : Launch) (G : gG) (ad_t : Nat) (o : (Nat → Int32) × (Nat → Int32) × (Nat → Int32) × (Nat → Int32) × (Nat → Int32)) (hf : fX5_init = some o) : mE G l yX5_init cX5_init 1 none 2 46 4 45 [.ref ad_t] [(ad_t, .inr (5, [.null, .null, .null, .null, .int 0]))] (fun r w => r = none ∧ ∃ (ad_t_numbers ad_t_badRows ad_t_badColumns ad_t_badBits : Nat), w = [(ad_t, .inr (5, [.ref ad_t_numbers, .ref ad_t_badRows, .ref ad_t_badColumns, .ref ad_t_badBits, .int (o.1 4)])), (ad_t_numbers, .inl (G.2.1 0, 9, .inl o.2.1)), (ad_t_badRows, .inl (G.2.1 0, 12, .inl o.2.2.1)), (ad_t_badColumns, .inl (G.2.1 0, 12, .inl o.2.2.2.1)), (ad_t_badBits, .inl (G.2.1 0, 12, .inl o.2.2.2.2))]) := by
  refine mE_of (by decide) (Nat.le_of_ble_eq_true rfl) ?_
  intro p e s m below meth cd ls A hx hb hml hown hts hr hlocks hnm hl hA hP hD hS hG
  have hK := hG.1
  have hown : s.vm.findClass RX5 = some m.cls := hown
  have hl : lv_has ls 1 [(0, .ref ad_t)] := hl
  unfold fX5_init at hf
  refine lv_aload_n hx hb dX5_init_0 rfl (lv_at hl 0 rfl) ?_
  refine W.objInit hx hb hown (hts _ q139) (hts _ q120) (hts _ q121) rfl (hl.1.trans hml.symm) rfl dX5_init_1 (Nat.le_of_ble_eq_true rfl) (Nat.le_of_ble_eq_true rfl) ?_
  refine W.eq (g2 := F0 m 4 ls []) rfl ?_
  refine lv_aload_n hx hb dX5_init_4 rfl (lv_at hl 0 rfl) ?_
  refine lv_bipush (v := 9) hx hb dX5_init_5 (by decide) ?_
  refine ga_newa (D := G.1) (cl := vwCl) (atype := .int) (ty := .int) (N' := 9) (a0 := (9, .inl (fun _ => 0))) hx hb (hts _ q186) rfl hK hP hD hS hA 0 rfl (fun _ => rfl) (by decide) (by decide) (Nat.le_of_ble_eq_true rfl) (Nat.le_of_ble_eq_true rfl) (Nat.le_of_ble_eq_true rfl) dX5_init_7 (fun q7 H hP hD hS => ?_)
  have hP : va_P G.1 vwCl [(ad_t, .inr (5, [.null, .null, .null, .null, .int (0 : Int32)])), (q7, .inl (G.2.1 0, 9, .inl (fun _ => 0)))] H := hP
  have hD : va_D A [(ad_t, .inr (5, [.null, .null, .null, .null, .int (0 : Int32)])), (q7, .inl (G.2.1 0, 9, .inl (fun _ => 0)))] := hD
  refine va_putF (D := G.1) (cl := vwCl) (ci := 5) (v := .ref q7) (ty := tyX5 0) (C := RX5) (T := TX5) (N := 5) hx hb hts inG5 tyX5 tyX5_ok nmX5 hown hK hP hD hS 0 rfl rfl 0 (Nat.le_of_ble_eq_true rfl) (hts _ q149) (fun _ h9 => h9) rfl hnm rfl (tyX5_ok 0 (Nat.le_of_ble_eq_true rfl)) rfl rfl (Nat.le_of_ble_eq_true rfl) dX5_init_9 (fun H locs hP hD hS => ?_)
  have hP : va_P G.1 vwCl [(ad_t, .inr (5, [.ref q7, .null, .null, .null, .int (0 : Int32)])), (q7, .inl (G.2.1 0, 9, .inl (fun _ => 0)))] H := hP
  have hD : va_D A [(ad_t, .inr (5, [.ref q7, .null, .null, .null, .int (0 : Int32)])), (q7, .inl (G.2.1 0, 9, .inl (fun _ => 0)))] := hD
  refine lv_aload_n hx hb dX5_init_12 rfl (lv_at hl 0 rfl) ?_
  refine lv_bipush (v := 12) hx hb dX5_init_13 (by decide) ?_
  refine ga_newa (D := G.1) (cl := vwCl) (atype := .int) (ty := .int) (N' := 12) (a0 := (12, .inl (fun _ => 0))) hx hb (hts _ q186) rfl hK hP hD hS hA 0 rfl (fun _ => rfl) (by decide) (by decide) (Nat.le_of_ble_eq_true rfl) (Nat.le_of_ble_eq_true rfl) (Nat.le_of_ble_eq_true rfl) dX5_init_15 (fun q8 H hP hD hS => ?_)
  have hP : va_P G.1 vwCl [(ad_t, .inr (5, [.ref q7, .null, .null, .null, .int (0 : Int32)])), (q7, .inl (G.2.1 0, 9, .inl (fun _ => 0))), (q8, .inl (G.2.1 0, 12, .inl (fun _ => 0)))] H := hP
  have hD : va_D A [(ad_t, .inr (5, [.ref q7, .null, .null, .null, .int (0 : Int32)])), (q7, .inl (G.2.1 0, 9, .inl (fun _ => 0))), (q8, .inl (G.2.1 0, 12, .inl (fun _ => 0)))] := hD
  refine va_putF (D := G.1) (cl := vwCl) (ci := 5) (v := .ref q8) (ty := tyX5 1) (C := RX5) (T := TX5) (N := 5) hx hb hts inG5 tyX5 tyX5_ok nmX5 hown hK hP hD hS 0 rfl rfl 1 (Nat.le_of_ble_eq_true rfl) (hts _ q155) (fun _ h9 => h9) rfl hnm rfl (tyX5_ok 1 (Nat.le_of_ble_eq_true rfl)) rfl rfl (Nat.le_of_ble_eq_true rfl) dX5_init_17 (fun H locs hP hD hS => ?_)
  have hP : va_P G.1 vwCl [(ad_t, .inr (5, [.ref q7, .ref q8, .null, .null, .int (0 : Int32)])), (q7, .inl (G.2.1 0, 9, .inl (fun _ => 0))), (q8, .inl (G.2.1 0, 12, .inl (fun _ => 0)))] H := hP
  have hD : va_D A [(ad_t, .inr (5, [.ref q7, .ref q8, .null, .null, .int (0 : Int32)])), (q7, .inl (G.2.1 0, 9, .inl (fun _ => 0))), (q8, .inl (G.2.1 0, 12, .inl (fun _ => 0)))] := hD
  refine lv_aload_n hx hb dX5_init_20 rfl (lv_at hl 0 rfl) ?_
  refine lv_bipush (v := 12) hx hb dX5_init_21 (by decide) ?_
  refine ga_newa (D := G.1) (cl := vwCl) (atype := .int) (ty := .int) (N' := 12) (a0 := (12, .inl (fun _ => 0))) hx hb (hts _ q186) rfl hK hP hD hS hA 0 rfl (fun _ => rfl) (by decide) (by decide) (Nat.le_of_ble_eq_true rfl) (Nat.le_of_ble_eq_true rfl) (Nat.le_of_ble_eq_true rfl) dX5_init_23 (fun q9 H hP hD hS => ?_)
  have hP : va_P G.1 vwCl [(ad_t, .inr (5, [.ref q7, .ref q8, .null, .null, .int (0 : Int32)])), (q7, .inl (G.2.1 0, 9, .inl (fun _ => 0))), (q8, .inl (G.2.1 0, 12, .inl (fun _ => 0))), (q9, .inl (G.2.1 0, 12, .inl (fun _ => 0)))] H := hP
  have hD : va_D A [(ad_t, .inr (5, [.ref q7, .ref q8, .null, .null, .int (0 : Int32)])), (q7, .inl (G.2.1 0, 9, .inl (fun _ => 0))), (q8, .inl (G.2.1 0, 12, .inl (fun _ => 0))), (q9, .inl (G.2.1 0, 12, .inl (fun _ => 0)))] := hD
  refine va_putF (D := G.1) (cl := vwCl) (ci := 5) (v := .ref q9) (ty := tyX5 2) (C := RX5) (T := TX5) (N := 5) hx hb hts inG5 tyX5 tyX5_ok nmX5 hown hK hP hD hS 0 rfl rfl 2 (Nat.le_of_ble_eq_true rfl) (hts _ q160) (fun _ h9 => h9) rfl hnm rfl (tyX5_ok 2 (Nat.le_of_ble_eq_true rfl)) rfl rfl (Nat.le_of_ble_eq_true rfl) dX5_init_25 (fun H locs hP hD hS => ?_)
  have hP : va_P G.1 vwCl [(ad_t, .inr (5, [.ref q7, .ref q8, .ref q9, .null, .int (0 : Int32)])), (q7, .inl (G.2.1 0, 9, .inl (fun _ => 0))), (q8, .inl (G.2.1 0, 12, .inl (fun _ => 0))), (q9, .inl (G.2.1 0, 12, .inl (fun _ => 0)))] H := hP
  have hD : va_D A [(ad_t, .inr (5, [.ref q7, .ref q8, .ref q9, .null, .int (0 : Int32)])), (q7, .inl (G.2.1 0, 9, .inl (fun _ => 0))), (q8, .inl (G.2.1 0, 12, .inl (fun _ => 0))), (q9, .inl (G.2.1 0, 12, .inl (fun _ => 0)))] := hD
  refine lv_aload_n hx hb dX5_init_28 rfl (lv_at hl 0 rfl) ?_
  refine lv_bipush (v := 12) hx hb dX5_init_29 (by decide) ?_
  refine ga_newa (D := G.1) (cl := vwCl) (atype := .int) (ty := .int) (N' := 12) (a0 := (12, .inl (fun _ => 0))) hx hb (hts _ q186) rfl hK hP hD hS hA 0 rfl (fun _ => rfl) (by decide) (by decide) (Nat.le_of_ble_eq_true rfl) (Nat.le_of_ble_eq_true rfl) (Nat.le_of_ble_eq_true rfl) dX5_init_31 (fun q10 H hP hD hS => ?_)
  have hP : va_P G.1 vwCl [(ad_t, .inr (5, [.ref q7, .ref q8, .ref q9, .null, .int (0 : Int32)])), (q7, .inl (G.2.1 0, 9, .inl (fun _ => 0))), (q8, .inl (G.2.1 0, 12, .inl (fun _ => 0))), (q9, .inl (G.2.1 0, 12, .inl (fun _ => 0))), (q10, .inl (G.2.1 0, 12, .inl (fun _ => 0)))] H := hP
  have hD : va_D A [(ad_t, .inr (5, [.ref q7, .ref q8, .ref q9, .null, .int (0 : Int32)])), (q7, .inl (G.2.1 0, 9, .inl (fun _ => 0))), (q8, .inl (G.2.1 0, 12, .inl (fun _ => 0))), (q9, .inl (G.2.1 0, 12, .inl (fun _ => 0))), (q10, .inl (G.2.1 0, 12, .inl (fun _ => 0)))] := hD
  refine va_putF (D := G.1) (cl := vwCl) (ci := 5) (v := .ref q10) (ty := tyX5 3) (C := RX5) (T := TX5) (N := 5) hx hb hts inG5 tyX5 tyX5_ok nmX5 hown hK hP hD hS 0 rfl rfl 3 (Nat.le_of_ble_eq_true rfl) (hts _ q165) (fun _ h9 => h9) rfl hnm rfl (tyX5_ok 3 (Nat.le_of_ble_eq_true rfl)) rfl rfl (Nat.le_of_ble_eq_true rfl) dX5_init_33 (fun H locs hP hD hS => ?_)
  have hP : va_P G.1 vwCl [(ad_t, .inr (5, [.ref q7, .ref q8, .ref q9, .ref q10, .int (0 : Int32)])), (q7, .inl (G.2.1 0, 9, .inl (fun _ => 0))), (q8, .inl (G.2.1 0, 12, .inl (fun _ => 0))), (q9, .inl (G.2.1 0, 12, .inl (fun _ => 0))), (q10, .inl (G.2.1 0, 12, .inl (fun _ => 0)))] H := hP
  have hD : va_D A [(ad_t, .inr (5, [.ref q7, .ref q8, .ref q9, .ref q10, .int (0 : Int32)])), (q7, .inl (G.2.1 0, 9, .inl (fun _ => 0))), (q8, .inl (G.2.1 0, 12, .inl (fun _ => 0))), (q9, .inl (G.2.1 0, 12, .inl (fun _ => 0))), (q10, .inl (G.2.1 0, 12, .inl (fun _ => 0)))] := hD
  refine lv_aload_n hx hb dX5_init_36 rfl (lv_at hl 0 rfl) ?_
  obtain ⟨a11, h12, hf⟩ := bn_some hf
  refine kEV (tX5_toFirst l G ad_t q7 q8 q9 q10 (upd (fun _ => (0 : Int32)) 4 (0 : Int32)) (fun _ => 0) a11 h12) ⟨hx, hb, hml, hown, hts⟩ q140 q142 q0 q97 q143 okyX5_toFirst ⟨Nat.le_of_ble_eq_true rfl, Nat.le_of_ble_eq_true rfl⟩ hP hD hG hS hA [0, 1] [2, 3, 4] rfl (wr := [(q8, .inl (G.2.1 0, 12, .inl (fun _ => 0))), (q9, .inl (G.2.1 0, 12, .inl (fun _ => 0))), (q10, .inl (G.2.1 0, 12, .inl (fun _ => 0)))]) rfl (by decide) 0 rfl rfl hl.1 rfl (Nat.le_of_ble_eq_true rfl) dX5_init_37 ⟨Nat.le_of_ble_eq_true rfl, Nat.le_of_ble_eq_true rfl⟩ (fun r w H locs hR hP hD hS => ?_)
  obtain ⟨rfl, rfl⟩ := hR
  have hP : va_P G.1 vwCl [(q8, .inl (G.2.1 0, 12, .inl (fun _ => 0))), (q9, .inl (G.2.1 0, 12, .inl (fun _ => 0))), (q10, .inl (G.2.1 0, 12, .inl (fun _ => 0))), (ad_t, .inr (5, [.ref q7, .ref q8, .ref q9, .ref q10, .int (a11.1 4)])), (q7, .inl (G.2.1 0, 9, .inl a11.2))] H := hP
  have hD : va_D A [(q8, .inl (G.2.1 0, 12, .inl (fun _ => 0))), (q9, .inl (G.2.1 0, 12, .inl (fun _ => 0))), (q10, .inl (G.2.1 0, 12, .inl (fun _ => 0))), (ad_t, .inr (5, [.ref q7, .ref q8, .ref q9, .ref q10, .int (a11.1 4)])), (q7, .inl (G.2.1 0, 9, .inl a11.2))] := hD
  refine W.eq (g2 := F0 m 40 ls []) rfl ?_
  have hf := Option.some.inj hf
  subst hf
  have hP := hP.sub (ws' := [(ad_t, .inr (5, [.ref q7, .ref q8, .ref q9, .ref q10, .int (a11.1 4)])), (q7, .inl (G.2.1 0, 9, .inl a11.2)), (q8, .inl (G.2.1 0, 12, .inl (fun _ => 0))), (q9, .inl (G.2.1 0, 12, .inl (fun _ => 0))), (q10, .inl (G.2.1 0, 12, .inl (fun _ => 0)))]) [3, 4, 0, 1, 2] rfl
  have hD := hD.sub (ws' := [(ad_t, .inr (5, [.ref q7, .ref q8, .ref q9, .ref q10, .int (a11.1 4)])), (q7, .inl (G.2.1 0, 9, .inl a11.2)), (q8, .inl (G.2.1 0, 12, .inl (fun _ => 0))), (q9, .inl (G.2.1 0, 12, .inl (fun _ => 0))), (q10, .inl (G.2.1 0, 12, .inl (fun _ => 0)))]) [3, 4, 0, 1, 2] (by decide) rfl
  exact eRetV hx hb hr hlocks hP hD hS ⟨rfl, q7, q8, q9, q10, rfl⟩ dX5_init_40

def fX7_init : Option ((Nat → Int32) × (Nat → Int32)) :=
  some ((upd (fun _ => (0 : Int32)) 1 (0 : Int32)), (fun _ => 0))
set_option maxRecDepth 100000 in
set_option maxHeartbeats 4000000 in
theorem tX7_init (l : Launch) (G : gG) (ad_t : Nat) (o : (Nat → Int32) × (Nat → Int32)) (hf : fX7_init = some o) : mE G l yX7_init cX7_init 1 none 1 20 1 300 [.ref ad_t] [(ad_t, .inr (7, [.null, .int 0]))] (fun r w => r = none ∧ ∃ (ad_t_bytes : Nat), w = [(ad_t, .inr (7, [.ref ad_t_bytes, .int (o.1 1)])), (ad_t_bytes, .inl (G.2.1 1, 300, .inl o.2))]) := by
  refine mE_of (by decide) (Nat.le_of_ble_eq_true rfl) ?_
  intro p e s m below meth cd ls A hx hb hml hown hts hr hlocks hnm hl hA hP hD hS hG
  have hK := hG.1
  have hown : s.vm.findClass RX7 = some m.cls := hown
  have hl : lv_has ls 1 [(0, .ref ad_t)] := hl
  unfold fX7_init at hf
  refine lv_aload_n hx hb dX7_init_0 rfl (lv_at hl 0 rfl) ?_
  refine W.objInit hx hb hown (hts _ q204) (hts _ q120) (hts _ q121) rfl (hl.1.trans hml.symm) rfl dX7_init_1 (Nat.le_of_ble_eq_true rfl) (Nat.le_of_ble_eq_true rfl) ?_
  refine W.eq (g2 := F0 m 4 ls []) rfl ?_
  refine lv_aload_n hx hb dX7_init_4 rfl (lv_at hl 0 rfl) ?_
  refine lv_sipush (v := 300) hx hb dX7_init_5 (by decide) ?_
  refine ga_newa (D := G.1) (cl := vwCl) (atype := .byte) (ty := .byte) (N' := 300) (a0 := (300, .inl (fun _ => 0))) hx hb (hts _ q216) rfl hK hP hD hS hA 1 rfl (fun _ => rfl) (by decide) (by decide) (Nat.le_of_ble_eq_true rfl) (Nat.le_of_ble_eq_true rfl) (Nat.le_of_ble_eq_true rfl) dX7_init_8 (fun q2 H hP hD hS => ?_)
  have hP : va_P G.1 vwCl [(ad_t, .inr (7, [.null, .int (0 : Int32)])), (q2, .inl (G.2.1 1, 300, .inl (fun _ => 0)))] H := hP
  have hD : va_D A [(ad_t, .inr (7, [.null, .int (0 : Int32)])), (q2, .inl (G.2.1 1, 300, .inl (fun _ => 0)))] := hD
  refine va_putF (D := G.1) (cl := vwCl) (ci := 7) (v := .ref q2) (ty := tyX7 0) (C := RX7) (T := TX7) (N := 2) hx hb hts inG7 tyX7 tyX7_ok nmX7 hown hK hP hD hS 0 rfl rfl 0 (Nat.le_of_ble_eq_true rfl) (hts _ q205) (fun _ h9 => h9) rfl hnm rfl (tyX7_ok 0 (Nat.le_of_ble_eq_true rfl)) rfl rfl (Nat.le_of_ble_eq_true rfl) dX7_init_10 (fun H locs hP hD hS => ?_)
  have hP : va_P G.1 vwCl [(ad_t, .inr (7, [.ref q2, .int (0 : Int32)])), (q2, .inl (G.2.1 1, 300, .inl (fun _ => 0)))] H := hP
  have hD : va_D A [(ad_t, .inr (7, [.ref q2, .int (0 : Int32)])), (q2, .inl (G.2.1 1, 300, .inl (fun _ => 0)))] := hD
  have hf := Option.some.inj hf
  subst hf
  exact eRetV hx hb hr hlocks hP hD hS ⟨rfl, q2, rfl⟩ dX7_init_13

def fX0_init : Option ((Nat → Int32) × (Nat → Int32) × (Nat → Int32) × (Nat → Int32) × (Nat → Int32) × (Nat → Int32) × (Nat → Int32)) :=
  bn fX5_init fun a2 => some (a2.1, a2.2.1, a2.2.2.1, a2.2.2.2.1, a2.2.2.2.2, (fun _ => 0), (fun _ => 0))
set_option maxRecDepth 100000 in
set_option maxHeartbeats 4000000 in
theorem tX0_init (l : Launch) (G : gG) (ad_t : Nat) (o : (Nat → Int32) × (Nat → Int32) × (Nat → Int32) × (Nat → Int32) × (Nat → Int32) × (Nat → Int32) × (Nat → Int32)) (hf : fX0_init = some o) : mE G l yX0_init cX0_init 1 none 3 66 7 1139 [.ref ad_t] [(ad_t, .inr (0, [.null, .null, .null]))] (fun r w => r = none ∧ ∃ (ad_t_spec ad_t_spec_numbers ad_t_spec_badRows ad_t_spec_badColumns ad_t_spec_badBits ad_t_words ad_t_spares : Nat), w = [(ad_t, .inr (0, [.ref ad_t_spec, .ref ad_t_words, .ref ad_t_spares])), (ad_t_spec, .inr (5, [.ref ad_t_spec_numbers, .ref ad_t_spec_badRows, .ref ad_t_spec_badColumns, .ref ad_t_spec_badBits, .int (o.1 4)])), (ad_t_spec_numbers, .inl (G.2.1 0, 9, .inl o.2.1)), (ad_t_spec_badRows, .inl (G.2.1 0, 12, .inl o.2.2.1)), (ad_t_spec_badColumns, .inl (G.2.1 0, 12, .inl o.2.2.2.1)), (ad_t_spec_badBits, .inl (G.2.1 0, 12, .inl o.2.2.2.2.1)), (ad_t_words, .inl (G.2.1 0, 1056, .inl o.2.2.2.2.2.1)), (ad_t_spares, .inl (G.2.1 0, 33, .inl o.2.2.2.2.2.2))]) := by
  refine mE_of (by decide) (Nat.le_of_ble_eq_true rfl) ?_
  intro p e s m below meth cd ls A hx hb hml hown hts hr hlocks hnm hl hA hP hD hS hG
  have hK := hG.1
  have hown : s.vm.findClass RX0 = some m.cls := hown
  have hl : lv_has ls 1 [(0, .ref ad_t)] := hl
  unfold fX0_init at hf
  refine lv_aload_n hx hb dX0_init_0 rfl (lv_at hl 0 rfl) ?_
  refine W.objInit hx hb hown (hts _ q133) (hts _ q120) (hts _ q121) rfl (hl.1.trans hml.symm) rfl dX0_init_1 (Nat.le_of_ble_eq_true rfl) (Nat.le_of_ble_eq_true rfl) ?_
  refine W.eq (g2 := F0 m 4 ls []) rfl ?_
  refine lv_aload_n hx hb dX0_init_4 rfl (lv_at hl 0 rfl) ?_
  refine va_new (D := G.1) (cl := vwCl) (ci := 5) (fs := [.null, .null, .null, .null, .int 0]) (C := RX5) (T := TX5) (N := 5) hx hb hts inG5 tyX5 tyX5_ok hown (hts _ q134) (hts _ q135) (hts _ q97) hK hP hD hS hA rfl dfX5 (Nat.le_of_ble_eq_true rfl) (Nat.le_of_ble_eq_true rfl) dX0_init_5 (fun q10 H hP hD hS => ?_)
  have hP : va_P G.1 vwCl [(ad_t, .inr (0, [.null, .null, .null])), (q10, .inr (5, [.null, .null, .null, .null, .int (0 : Int32)]))] H := hP
  have hD : va_D A [(ad_t, .inr (0, [.null, .null, .null])), (q10, .inr (5, [.null, .null, .null, .null, .int (0 : Int32)]))] := hD
  refine lv_dup hx hb dX0_init_8 rfl ?_
  obtain ⟨a11, h12, hf⟩ := bn_some hf
  refine kEI (tX5_init l G q10 a11 h12) ⟨hx, hb, hml, hown, hts⟩ q136 q137 q97 q138 rfl okyX5_init ⟨Nat.le_of_ble_eq_true rfl, Nat.le_of_ble_eq_true rfl⟩ hP hD hG hS hA [1] [0] rfl (wr := [(ad_t, .inr (0, [.null, .null, .null]))]) rfl (by decide) hl.1 rfl (Nat.le_of_ble_eq_true rfl) dX0_init_9 ⟨Nat.le_of_ble_eq_true rfl, Nat.le_of_ble_eq_true rfl⟩ (fun r w H locs hR hP hD hS => ?_)
  obtain ⟨rfl, b13, b14, b15, b16, rfl⟩ := hR
  have hP : va_P G.1 vwCl [(ad_t, .inr (0, [.null, .null, .null])), (q10, .inr (5, [.ref b13, .ref b14, .ref b15, .ref b16, .int (a11.1 4)])), (b13, .inl (G.2.1 0, 9, .inl a11.2.1)), (b14, .inl (G.2.1 0, 12, .inl a11.2.2.1)), (b15, .inl (G.2.1 0, 12, .inl a11.2.2.2.1)), (b16, .inl (G.2.1 0, 12, .inl a11.2.2.2.2))] H := hP
  have hD : va_D A [(ad_t, .inr (0, [.null, .null, .null])), (q10, .inr (5, [.ref b13, .ref b14, .ref b15, .ref b16, .int (a11.1 4)])), (b13, .inl (G.2.1 0, 9, .inl a11.2.1)), (b14, .inl (G.2.1 0, 12, .inl a11.2.2.1)), (b15, .inl (G.2.1 0, 12, .inl a11.2.2.2.1)), (b16, .inl (G.2.1 0, 12, .inl a11.2.2.2.2))] := hD
  refine W.eq (g2 := F0 m 12 ls [.ref q10, .ref ad_t]) rfl ?_
  refine va_putF (D := G.1) (cl := vwCl) (ci := 0) (v := .ref q10) (ty := tyX0 0) (C := RX0) (T := TX0) (N := 3) hx hb hts inG0 tyX0 tyX0_ok nmX0 hown hK hP hD hS 0 rfl rfl 0 (Nat.le_of_ble_eq_true rfl) (hts _ q187) (fun _ h9 => h9) rfl hnm rfl (tyX0_ok 0 (Nat.le_of_ble_eq_true rfl)) rfl rfl (Nat.le_of_ble_eq_true rfl) dX0_init_12 (fun H locs hP hD hS => ?_)
  have hP : va_P G.1 vwCl [(ad_t, .inr (0, [.ref q10, .null, .null])), (q10, .inr (5, [.ref b13, .ref b14, .ref b15, .ref b16, .int (a11.1 4)])), (b13, .inl (G.2.1 0, 9, .inl a11.2.1)), (b14, .inl (G.2.1 0, 12, .inl a11.2.2.1)), (b15, .inl (G.2.1 0, 12, .inl a11.2.2.2.1)), (b16, .inl (G.2.1 0, 12, .inl a11.2.2.2.2))] H := hP
  have hD : va_D A [(ad_t, .inr (0, [.ref q10, .null, .null])), (q10, .inr (5, [.ref b13, .ref b14, .ref b15, .ref b16, .int (a11.1 4)])), (b13, .inl (G.2.1 0, 9, .inl a11.2.1)), (b14, .inl (G.2.1 0, 12, .inl a11.2.2.1)), (b15, .inl (G.2.1 0, 12, .inl a11.2.2.2.1)), (b16, .inl (G.2.1 0, 12, .inl a11.2.2.2.2))] := hD
  refine lv_aload_n hx hb dX0_init_15 rfl (lv_at hl 0 rfl) ?_
  refine lv_sipush (v := 1056) hx hb dX0_init_16 (by decide) ?_
  refine ga_newa (D := G.1) (cl := vwCl) (atype := .int) (ty := .int) (N' := 1056) (a0 := (1056, .inl (fun _ => 0))) hx hb (hts _ q186) rfl hK hP hD hS hA 0 rfl (fun _ => rfl) (by decide) (by decide) (Nat.le_of_ble_eq_true rfl) (Nat.le_of_ble_eq_true rfl) (Nat.le_of_ble_eq_true rfl) dX0_init_19 (fun q17 H hP hD hS => ?_)
  have hP : va_P G.1 vwCl [(ad_t, .inr (0, [.ref q10, .null, .null])), (q10, .inr (5, [.ref b13, .ref b14, .ref b15, .ref b16, .int (a11.1 4)])), (b13, .inl (G.2.1 0, 9, .inl a11.2.1)), (b14, .inl (G.2.1 0, 12, .inl a11.2.2.1)), (b15, .inl (G.2.1 0, 12, .inl a11.2.2.2.1)), (b16, .inl (G.2.1 0, 12, .inl a11.2.2.2.2)), (q17, .inl (G.2.1 0, 1056, .inl (fun _ => 0)))] H := hP
  have hD : va_D A [(ad_t, .inr (0, [.ref q10, .null, .null])), (q10, .inr (5, [.ref b13, .ref b14, .ref b15, .ref b16, .int (a11.1 4)])), (b13, .inl (G.2.1 0, 9, .inl a11.2.1)), (b14, .inl (G.2.1 0, 12, .inl a11.2.2.1)), (b15, .inl (G.2.1 0, 12, .inl a11.2.2.2.1)), (b16, .inl (G.2.1 0, 12, .inl a11.2.2.2.2)), (q17, .inl (G.2.1 0, 1056, .inl (fun _ => 0)))] := hD
  refine va_putF (D := G.1) (cl := vwCl) (ci := 0) (v := .ref q17) (ty := tyX0 1) (C := RX0) (T := TX0) (N := 3) hx hb hts inG0 tyX0 tyX0_ok nmX0 hown hK hP hD hS 0 rfl rfl 1 (Nat.le_of_ble_eq_true rfl) (hts _ q190) (fun _ h9 => h9) rfl hnm rfl (tyX0_ok 1 (Nat.le_of_ble_eq_true rfl)) rfl rfl (Nat.le_of_ble_eq_true rfl) dX0_init_21 (fun H locs hP hD hS => ?_)
  have hP : va_P G.1 vwCl [(ad_t, .inr (0, [.ref q10, .ref q17, .null])), (q10, .inr (5, [.ref b13, .ref b14, .ref b15, .ref b16, .int (a11.1 4)])), (b13, .inl (G.2.1 0, 9, .inl a11.2.1)), (b14, .inl (G.2.1 0, 12, .inl a11.2.2.1)), (b15, .inl (G.2.1 0, 12, .inl a11.2.2.2.1)), (b16, .inl (G.2.1 0, 12, .inl a11.2.2.2.2)), (q17, .inl (G.2.1 0, 1056, .inl (fun _ => 0)))] H := hP
  have hD : va_D A [(ad_t, .inr (0, [.ref q10, .ref q17, .null])), (q10, .inr (5, [.ref b13, .ref b14, .ref b15, .ref b16, .int (a11.1 4)])), (b13, .inl (G.2.1 0, 9, .inl a11.2.1)), (b14, .inl (G.2.1 0, 12, .inl a11.2.2.1)), (b15, .inl (G.2.1 0, 12, .inl a11.2.2.2.1)), (b16, .inl (G.2.1 0, 12, .inl a11.2.2.2.2)), (q17, .inl (G.2.1 0, 1056, .inl (fun _ => 0)))] := hD
  refine lv_aload_n hx hb dX0_init_24 rfl (lv_at hl 0 rfl) ?_
  refine lv_bipush (v := 33) hx hb dX0_init_25 (by decide) ?_
  refine ga_newa (D := G.1) (cl := vwCl) (atype := .int) (ty := .int) (N' := 33) (a0 := (33, .inl (fun _ => 0))) hx hb (hts _ q186) rfl hK hP hD hS hA 0 rfl (fun _ => rfl) (by decide) (by decide) (Nat.le_of_ble_eq_true rfl) (Nat.le_of_ble_eq_true rfl) (Nat.le_of_ble_eq_true rfl) dX0_init_27 (fun q18 H hP hD hS => ?_)
  have hP : va_P G.1 vwCl [(ad_t, .inr (0, [.ref q10, .ref q17, .null])), (q10, .inr (5, [.ref b13, .ref b14, .ref b15, .ref b16, .int (a11.1 4)])), (b13, .inl (G.2.1 0, 9, .inl a11.2.1)), (b14, .inl (G.2.1 0, 12, .inl a11.2.2.1)), (b15, .inl (G.2.1 0, 12, .inl a11.2.2.2.1)), (b16, .inl (G.2.1 0, 12, .inl a11.2.2.2.2)), (q17, .inl (G.2.1 0, 1056, .inl (fun _ => 0))), (q18, .inl (G.2.1 0, 33, .inl (fun _ => 0)))] H := hP
  have hD : va_D A [(ad_t, .inr (0, [.ref q10, .ref q17, .null])), (q10, .inr (5, [.ref b13, .ref b14, .ref b15, .ref b16, .int (a11.1 4)])), (b13, .inl (G.2.1 0, 9, .inl a11.2.1)), (b14, .inl (G.2.1 0, 12, .inl a11.2.2.1)), (b15, .inl (G.2.1 0, 12, .inl a11.2.2.2.1)), (b16, .inl (G.2.1 0, 12, .inl a11.2.2.2.2)), (q17, .inl (G.2.1 0, 1056, .inl (fun _ => 0))), (q18, .inl (G.2.1 0, 33, .inl (fun _ => 0)))] := hD
  refine va_putF (D := G.1) (cl := vwCl) (ci := 0) (v := .ref q18) (ty := tyX0 2) (C := RX0) (T := TX0) (N := 3) hx hb hts inG0 tyX0 tyX0_ok nmX0 hown hK hP hD hS 0 rfl rfl 2 (Nat.le_of_ble_eq_true rfl) (hts _ q191) (fun _ h9 => h9) rfl hnm rfl (tyX0_ok 2 (Nat.le_of_ble_eq_true rfl)) rfl rfl (Nat.le_of_ble_eq_true rfl) dX0_init_29 (fun H locs hP hD hS => ?_)
  have hP : va_P G.1 vwCl [(ad_t, .inr (0, [.ref q10, .ref q17, .ref q18])), (q10, .inr (5, [.ref b13, .ref b14, .ref b15, .ref b16, .int (a11.1 4)])), (b13, .inl (G.2.1 0, 9, .inl a11.2.1)), (b14, .inl (G.2.1 0, 12, .inl a11.2.2.1)), (b15, .inl (G.2.1 0, 12, .inl a11.2.2.2.1)), (b16, .inl (G.2.1 0, 12, .inl a11.2.2.2.2)), (q17, .inl (G.2.1 0, 1056, .inl (fun _ => 0))), (q18, .inl (G.2.1 0, 33, .inl (fun _ => 0)))] H := hP
  have hD : va_D A [(ad_t, .inr (0, [.ref q10, .ref q17, .ref q18])), (q10, .inr (5, [.ref b13, .ref b14, .ref b15, .ref b16, .int (a11.1 4)])), (b13, .inl (G.2.1 0, 9, .inl a11.2.1)), (b14, .inl (G.2.1 0, 12, .inl a11.2.2.1)), (b15, .inl (G.2.1 0, 12, .inl a11.2.2.2.1)), (b16, .inl (G.2.1 0, 12, .inl a11.2.2.2.2)), (q17, .inl (G.2.1 0, 1056, .inl (fun _ => 0))), (q18, .inl (G.2.1 0, 33, .inl (fun _ => 0)))] := hD
  have hf := Option.some.inj hf
  subst hf
  exact eRetV hx hb hr hlocks hP hD hS ⟨rfl, q10, b13, b14, b15, b16, q17, q18, rfl⟩ dX0_init_32

def fX1_init : Option ((Nat → Int32)) :=
  some (upd (upd (fun _ => (0 : Int32)) 1 (0 : Int32)) 2 (0 : Int32))
set_option maxRecDepth 100000 in
set_option maxHeartbeats 4000000 in
theorem tX1_init (l : Launch) (G : gG) (ad_t : Nat) (o : (Nat → Int32)) (hf : fX1_init = some o) : mE G l yX1_init cX1_init 1 none 1 20 1 6 [.ref ad_t] [(ad_t, .inr (1, [.null, .int 0, .int 0]))] (fun r w => r = none ∧ ∃ (ad_t_ring : Nat), w = [(ad_t, .inr (1, [.ref ad_t_ring, .int (o 1), .int (o 2)])), (ad_t_ring, .inl (G.2.1 3, 6, .inr (.inr (.inr (.inr (fun _ => none))))))]) := by
  refine mE_of (by decide) (Nat.le_of_ble_eq_true rfl) ?_
  intro p e s m below meth cd ls A hx hb hml hown hts hr hlocks hnm hl hA hP hD hS hG
  have hK := hG.1
  have hown : s.vm.findClass RX1 = some m.cls := hown
  have hl : lv_has ls 1 [(0, .ref ad_t)] := hl
  unfold fX1_init at hf
  refine lv_aload_n hx hb dX1_init_0 rfl (lv_at hl 0 rfl) ?_
  refine W.objInit hx hb hown (hts _ q252) (hts _ q120) (hts _ q121) rfl (hl.1.trans hml.symm) rfl dX1_init_1 (Nat.le_of_ble_eq_true rfl) (Nat.le_of_ble_eq_true rfl) ?_
  refine W.eq (g2 := F0 m 4 ls []) rfl ?_
  refine lv_aload_n hx hb dX1_init_4 rfl (lv_at hl 0 rfl) ?_
  refine lv_bipush (v := 6) hx hb dX1_init_5 (by decide) ?_
  refine ga_newq (D := G.1) (cl := vwCl) (N' := 6) hx hb hown (hts _ q253) hG.2.2.2.2.2.1 hK hP hD hS hA 3 rfl (by decide) (by decide) (Nat.le_of_ble_eq_true rfl) (Nat.le_of_ble_eq_true rfl) (Nat.le_of_ble_eq_true rfl) dX1_init_7 (fun q2 H hP hD hS => ?_)
  have hP : va_P G.1 vwCl [(ad_t, .inr (1, [.null, .int (0 : Int32), .int (0 : Int32)])), (q2, .inl (G.2.1 3, 6, .inr (.inr (.inr (.inr (fun _ => none))))))] H := hP
  have hD : va_D A [(ad_t, .inr (1, [.null, .int (0 : Int32), .int (0 : Int32)])), (q2, .inl (G.2.1 3, 6, .inr (.inr (.inr (.inr (fun _ => none))))))] := hD
  refine va_putF (D := G.1) (cl := vwCl) (ci := 1) (v := .ref q2) (ty := tyX1 0) (C := RX1) (T := TX1) (N := 3) hx hb hts inG1 tyX1 tyX1_ok nmX1 hown hK hP hD hS 0 rfl rfl 0 (Nat.le_of_ble_eq_true rfl) (hts _ q255) (fun _ h9 => h9) rfl hnm rfl (tyX1_ok 0 (Nat.le_of_ble_eq_true rfl)) rfl rfl (Nat.le_of_ble_eq_true rfl) dX1_init_10 (fun H locs hP hD hS => ?_)
  have hP : va_P G.1 vwCl [(ad_t, .inr (1, [.ref q2, .int (0 : Int32), .int (0 : Int32)])), (q2, .inl (G.2.1 3, 6, .inr (.inr (.inr (.inr (fun _ => none))))))] H := hP
  have hD : va_D A [(ad_t, .inr (1, [.ref q2, .int (0 : Int32), .int (0 : Int32)])), (q2, .inl (G.2.1 3, 6, .inr (.inr (.inr (.inr (fun _ => none))))))] := hD
  have hf := Option.some.inj hf
  subst hf
  exact eRetV hx hb hr hlocks hP hD hS ⟨rfl, q2, rfl⟩ dX1_init_13

def fX6_init : Option ((Nat → Int32) × (Nat → Int32) × (Nat → Int32) × (Nat → Int32) × (Nat → Int32) × (Nat → Int32) × (Nat → Int32) × (Nat → Int32) × (Nat → Int32) × (Nat → Int32)) :=
  bn fX0_init fun a2 => bn fX7_init fun a12 => some ((upd (upd (upd (upd (upd (fun _ => (0 : Int32)) 2 (0 : Int32)) 3 (-1 : Int32)) 4 (0 : Int32)) 5 (0 : Int32)) 6 (0 : Int32)), a2.1, a2.2.1, a2.2.2.1, a2.2.2.2.1, a2.2.2.2.2.1, a2.2.2.2.2.2.1, a2.2.2.2.2.2.2, a12.1, a12.2)
set_option maxRecDepth 100000 in
set_option maxHeartbeats 4000000 in
theorem tX6_init (l : Launch) (G : gG) (ad_t : Nat) (o : (Nat → Int32) × (Nat → Int32) × (Nat → Int32) × (Nat → Int32) × (Nat → Int32) × (Nat → Int32) × (Nat → Int32) × (Nat → Int32) × (Nat → Int32) × (Nat → Int32)) (hf : fX6_init = some o) : mE G l yX6_init cX6_init 1 none 4 86 10 1444 [.ref ad_t] [(ad_t, .inr (6, [.null, .null, .int 0, .int 0, .int 0, .int 0, .int 0]))] (fun r w => r = none ∧ ∃ (ad_t_memory ad_t_memory_spec ad_t_memory_spec_numbers ad_t_memory_spec_badRows ad_t_memory_spec_badColumns ad_t_memory_spec_badBits ad_t_memory_words ad_t_memory_spares ad_t_tape ad_t_tape_bytes : Nat), w = [(ad_t, .inr (6, [.ref ad_t_memory, .ref ad_t_tape, .int (o.1 2), .int (o.1 3), .int (o.1 4), .int (o.1 5), .int (o.1 6)])), (ad_t_memory, .inr (0, [.ref ad_t_memory_spec, .ref ad_t_memory_words, .ref ad_t_memory_spares])), (ad_t_memory_spec, .inr (5, [.ref ad_t_memory_spec_numbers, .ref ad_t_memory_spec_badRows, .ref ad_t_memory_spec_badColumns, .ref ad_t_memory_spec_badBits, .int (o.2.1 4)])), (ad_t_memory_spec_numbers, .inl (G.2.1 0, 9, .inl o.2.2.1)), (ad_t_memory_spec_badRows, .inl (G.2.1 0, 12, .inl o.2.2.2.1)), (ad_t_memory_spec_badColumns, .inl (G.2.1 0, 12, .inl o.2.2.2.2.1)), (ad_t_memory_spec_badBits, .inl (G.2.1 0, 12, .inl o.2.2.2.2.2.1)), (ad_t_memory_words, .inl (G.2.1 0, 1056, .inl o.2.2.2.2.2.2.1)), (ad_t_memory_spares, .inl (G.2.1 0, 33, .inl o.2.2.2.2.2.2.2.1)), (ad_t_tape, .inr (7, [.ref ad_t_tape_bytes, .int (o.2.2.2.2.2.2.2.2.1 1)])), (ad_t_tape_bytes, .inl (G.2.1 1, 300, .inl o.2.2.2.2.2.2.2.2.2))]) := by
  refine mE_of (by decide) (Nat.le_of_ble_eq_true rfl) ?_
  intro p e s m below meth cd ls A hx hb hml hown hts hr hlocks hnm hl hA hP hD hS hG
  have hK := hG.1
  have hown : s.vm.findClass RX6 = some m.cls := hown
  have hl : lv_has ls 1 [(0, .ref ad_t)] := hl
  unfold fX6_init at hf
  refine lv_aload_n hx hb dX6_init_0 rfl (lv_at hl 0 rfl) ?_
  refine W.objInit hx hb hown (hts _ q127) (hts _ q120) (hts _ q121) rfl (hl.1.trans hml.symm) rfl dX6_init_1 (Nat.le_of_ble_eq_true rfl) (Nat.le_of_ble_eq_true rfl) ?_
  refine W.eq (g2 := F0 m 4 ls []) rfl ?_
  refine lv_aload_n hx hb dX6_init_4 rfl (lv_at hl 0 rfl) ?_
  refine va_new (D := G.1) (cl := vwCl) (ci := 0) (fs := [.null, .null, .null]) (C := RX0) (T := TX0) (N := 3) hx hb hts inG0 tyX0 tyX0_ok hown (hts _ q128) (hts _ q129) (hts _ q96) hK hP hD hS hA rfl dfX0 (Nat.le_of_ble_eq_true rfl) (Nat.le_of_ble_eq_true rfl) dX6_init_5 (fun q15 H hP hD hS => ?_)
  have hP : va_P G.1 vwCl [(ad_t, .inr (6, [.null, .null, .int (0 : Int32), .int (0 : Int32), .int (0 : Int32), .int (0 : Int32), .int (0 : Int32)])), (q15, .inr (0, [.null, .null, .null]))] H := hP
  have hD : va_D A [(ad_t, .inr (6, [.null, .null, .int (0 : Int32), .int (0 : Int32), .int (0 : Int32), .int (0 : Int32), .int (0 : Int32)])), (q15, .inr (0, [.null, .null, .null]))] := hD
  refine lv_dup hx hb dX6_init_8 rfl ?_
  obtain ⟨a16, h17, hf⟩ := bn_some hf
  refine kEIN (tX0_init l G q15 a16 h17) ⟨hx, hb, hml, hown, hts⟩ n_mn_X6_11 q131 q96 q132 rfl okyX0_init ⟨Nat.le_of_ble_eq_true rfl, Nat.le_of_ble_eq_true rfl⟩ hP hD hG hS hA [1] [0] rfl (wr := [(ad_t, .inr (6, [.null, .null, .int (0 : Int32), .int (0 : Int32), .int (0 : Int32), .int (0 : Int32), .int (0 : Int32)]))]) rfl (by decide) hl.1 rfl (Nat.le_of_ble_eq_true rfl) dX6_init_9 ⟨Nat.le_of_ble_eq_true rfl, Nat.le_of_ble_eq_true rfl⟩ (fun r w H locs hR hP hD hS => ?_)
  obtain ⟨rfl, b18, b19, b20, b21, b22, b23, b24, rfl⟩ := hR
  have hP : va_P G.1 vwCl [(ad_t, .inr (6, [.null, .null, .int (0 : Int32), .int (0 : Int32), .int (0 : Int32), .int (0 : Int32), .int (0 : Int32)])), (q15, .inr (0, [.ref b18, .ref b23, .ref b24])), (b18, .inr (5, [.ref b19, .ref b20, .ref b21, .ref b22, .int (a16.1 4)])), (b19, .inl (G.2.1 0, 9, .inl a16.2.1)), (b20, .inl (G.2.1 0, 12, .inl a16.2.2.1)), (b21, .inl (G.2.1 0, 12, .inl a16.2.2.2.1)), (b22, .inl (G.2.1 0, 12, .inl a16.2.2.2.2.1)), (b23, .inl (G.2.1 0, 1056, .inl a16.2.2.2.2.2.1)), (b24, .inl (G.2.1 0, 33, .inl a16.2.2.2.2.2.2))] H := hP
  have hD : va_D A [(ad_t, .inr (6, [.null, .null, .int (0 : Int32), .int (0 : Int32), .int (0 : Int32), .int (0 : Int32), .int (0 : Int32)])), (q15, .inr (0, [.ref b18, .ref b23, .ref b24])), (b18, .inr (5, [.ref b19, .ref b20, .ref b21, .ref b22, .int (a16.1 4)])), (b19, .inl (G.2.1 0, 9, .inl a16.2.1)), (b20, .inl (G.2.1 0, 12, .inl a16.2.2.1)), (b21, .inl (G.2.1 0, 12, .inl a16.2.2.2.1)), (b22, .inl (G.2.1 0, 12, .inl a16.2.2.2.2.1)), (b23, .inl (G.2.1 0, 1056, .inl a16.2.2.2.2.2.1)), (b24, .inl (G.2.1 0, 33, .inl a16.2.2.2.2.2.2))] := hD
  refine W.eq (g2 := F0 m 12 ls [.ref q15, .ref ad_t]) rfl ?_
  refine va_putF (D := G.1) (cl := vwCl) (ci := 6) (v := .ref q15) (ty := tyX6 0) (C := RX6) (T := TX6) (N := 7) hx hb hts inG6 tyX6 tyX6_ok nmX6 hown hK hP hD hS 0 rfl rfl 0 (Nat.le_of_ble_eq_true rfl) (hts _ q217) (fun _ h9 => h9) rfl hnm rfl (tyX6_ok 0 (Nat.le_of_ble_eq_true rfl)) rfl rfl (Nat.le_of_ble_eq_true rfl) dX6_init_12 (fun H locs hP hD hS => ?_)
  have hP : va_P G.1 vwCl [(ad_t, .inr (6, [.ref q15, .null, .int (0 : Int32), .int (0 : Int32), .int (0 : Int32), .int (0 : Int32), .int (0 : Int32)])), (q15, .inr (0, [.ref b18, .ref b23, .ref b24])), (b18, .inr (5, [.ref b19, .ref b20, .ref b21, .ref b22, .int (a16.1 4)])), (b19, .inl (G.2.1 0, 9, .inl a16.2.1)), (b20, .inl (G.2.1 0, 12, .inl a16.2.2.1)), (b21, .inl (G.2.1 0, 12, .inl a16.2.2.2.1)), (b22, .inl (G.2.1 0, 12, .inl a16.2.2.2.2.1)), (b23, .inl (G.2.1 0, 1056, .inl a16.2.2.2.2.2.1)), (b24, .inl (G.2.1 0, 33, .inl a16.2.2.2.2.2.2))] H := hP
  have hD : va_D A [(ad_t, .inr (6, [.ref q15, .null, .int (0 : Int32), .int (0 : Int32), .int (0 : Int32), .int (0 : Int32), .int (0 : Int32)])), (q15, .inr (0, [.ref b18, .ref b23, .ref b24])), (b18, .inr (5, [.ref b19, .ref b20, .ref b21, .ref b22, .int (a16.1 4)])), (b19, .inl (G.2.1 0, 9, .inl a16.2.1)), (b20, .inl (G.2.1 0, 12, .inl a16.2.2.1)), (b21, .inl (G.2.1 0, 12, .inl a16.2.2.2.1)), (b22, .inl (G.2.1 0, 12, .inl a16.2.2.2.2.1)), (b23, .inl (G.2.1 0, 1056, .inl a16.2.2.2.2.2.1)), (b24, .inl (G.2.1 0, 33, .inl a16.2.2.2.2.2.2))] := hD
  refine lv_aload_n hx hb dX6_init_15 rfl (lv_at hl 0 rfl) ?_
  refine va_new (D := G.1) (cl := vwCl) (ci := 7) (fs := [.null, .int 0]) (C := RX7) (T := TX7) (N := 2) hx hb hts inG7 tyX7 tyX7_ok hown (hts _ q199) (hts _ q200) (hts _ q99) hK hP hD hS hA rfl dfX7 (Nat.le_of_ble_eq_true rfl) (Nat.le_of_ble_eq_true rfl) dX6_init_16 (fun q25 H hP hD hS => ?_)
  have hP : va_P G.1 vwCl [(ad_t, .inr (6, [.ref q15, .null, .int (0 : Int32), .int (0 : Int32), .int (0 : Int32), .int (0 : Int32), .int (0 : Int32)])), (q15, .inr (0, [.ref b18, .ref b23, .ref b24])), (b18, .inr (5, [.ref b19, .ref b20, .ref b21, .ref b22, .int (a16.1 4)])), (b19, .inl (G.2.1 0, 9, .inl a16.2.1)), (b20, .inl (G.2.1 0, 12, .inl a16.2.2.1)), (b21, .inl (G.2.1 0, 12, .inl a16.2.2.2.1)), (b22, .inl (G.2.1 0, 12, .inl a16.2.2.2.2.1)), (b23, .inl (G.2.1 0, 1056, .inl a16.2.2.2.2.2.1)), (b24, .inl (G.2.1 0, 33, .inl a16.2.2.2.2.2.2)), (q25, .inr (7, [.null, .int (0 : Int32)]))] H := hP
  have hD : va_D A [(ad_t, .inr (6, [.ref q15, .null, .int (0 : Int32), .int (0 : Int32), .int (0 : Int32), .int (0 : Int32), .int (0 : Int32)])), (q15, .inr (0, [.ref b18, .ref b23, .ref b24])), (b18, .inr (5, [.ref b19, .ref b20, .ref b21, .ref b22, .int (a16.1 4)])), (b19, .inl (G.2.1 0, 9, .inl a16.2.1)), (b20, .inl (G.2.1 0, 12, .inl a16.2.2.1)), (b21, .inl (G.2.1 0, 12, .inl a16.2.2.2.1)), (b22, .inl (G.2.1 0, 12, .inl a16.2.2.2.2.1)), (b23, .inl (G.2.1 0, 1056, .inl a16.2.2.2.2.2.1)), (b24, .inl (G.2.1 0, 33, .inl a16.2.2.2.2.2.2)), (q25, .inr (7, [.null, .int (0 : Int32)]))] := hD
  refine lv_dup hx hb dX6_init_19 rfl ?_
  obtain ⟨a26, h27, hf⟩ := bn_some hf
  refine kEIN (tX7_init l G q25 a26 h27) ⟨hx, hb, hml, hown, hts⟩ n_mn_X6_20 q202 q99 q203 rfl okyX7_init ⟨Nat.le_of_ble_eq_true rfl, Nat.le_of_ble_eq_true rfl⟩ hP hD hG hS hA [9] [0, 1, 2, 3, 4, 5, 6, 7, 8] rfl (wr := [(ad_t, .inr (6, [.ref q15, .null, .int (0 : Int32), .int (0 : Int32), .int (0 : Int32), .int (0 : Int32), .int (0 : Int32)])), (q15, .inr (0, [.ref b18, .ref b23, .ref b24])), (b18, .inr (5, [.ref b19, .ref b20, .ref b21, .ref b22, .int (a16.1 4)])), (b19, .inl (G.2.1 0, 9, .inl a16.2.1)), (b20, .inl (G.2.1 0, 12, .inl a16.2.2.1)), (b21, .inl (G.2.1 0, 12, .inl a16.2.2.2.1)), (b22, .inl (G.2.1 0, 12, .inl a16.2.2.2.2.1)), (b23, .inl (G.2.1 0, 1056, .inl a16.2.2.2.2.2.1)), (b24, .inl (G.2.1 0, 33, .inl a16.2.2.2.2.2.2))]) rfl (by decide) hl.1 rfl (Nat.le_of_ble_eq_true rfl) dX6_init_20 ⟨Nat.le_of_ble_eq_true rfl, Nat.le_of_ble_eq_true rfl⟩ (fun r w H locs hR hP hD hS => ?_)
  obtain ⟨rfl, b28, rfl⟩ := hR
  have hP : va_P G.1 vwCl [(ad_t, .inr (6, [.ref q15, .null, .int (0 : Int32), .int (0 : Int32), .int (0 : Int32), .int (0 : Int32), .int (0 : Int32)])), (q15, .inr (0, [.ref b18, .ref b23, .ref b24])), (b18, .inr (5, [.ref b19, .ref b20, .ref b21, .ref b22, .int (a16.1 4)])), (b19, .inl (G.2.1 0, 9, .inl a16.2.1)), (b20, .inl (G.2.1 0, 12, .inl a16.2.2.1)), (b21, .inl (G.2.1 0, 12, .inl a16.2.2.2.1)), (b22, .inl (G.2.1 0, 12, .inl a16.2.2.2.2.1)), (b23, .inl (G.2.1 0, 1056, .inl a16.2.2.2.2.2.1)), (b24, .inl (G.2.1 0, 33, .inl a16.2.2.2.2.2.2)), (q25, .inr (7, [.ref b28, .int (a26.1 1)])), (b28, .inl (G.2.1 1, 300, .inl a26.2))] H := hP
  have hD : va_D A [(ad_t, .inr (6, [.ref q15, .null, .int (0 : Int32), .int (0 : Int32), .int (0 : Int32), .int (0 : Int32), .int (0 : Int32)])), (q15, .inr (0, [.ref b18, .ref b23, .ref b24])), (b18, .inr (5, [.ref b19, .ref b20, .ref b21, .ref b22, .int (a16.1 4)])), (b19, .inl (G.2.1 0, 9, .inl a16.2.1)), (b20, .inl (G.2.1 0, 12, .inl a16.2.2.1)), (b21, .inl (G.2.1 0, 12, .inl a16.2.2.2.1)), (b22, .inl (G.2.1 0, 12, .inl a16.2.2.2.2.1)), (b23, .inl (G.2.1 0, 1056, .inl a16.2.2.2.2.2.1)), (b24, .inl (G.2.1 0, 33, .inl a16.2.2.2.2.2.2)), (q25, .inr (7, [.ref b28, .int (a26.1 1)])), (b28, .inl (G.2.1 1, 300, .inl a26.2))] := hD
  refine W.eq (g2 := F0 m 23 ls [.ref q25, .ref ad_t]) rfl ?_
  refine va_putF (D := G.1) (cl := vwCl) (ci := 6) (v := .ref q25) (ty := tyX6 1) (C := RX6) (T := TX6) (N := 7) hx hb hts inG6 tyX6 tyX6_ok nmX6 hown hK hP hD hS 0 rfl rfl 1 (Nat.le_of_ble_eq_true rfl) (hts _ q219) (fun _ h9 => h9) rfl hnm rfl (tyX6_ok 1 (Nat.le_of_ble_eq_true rfl)) rfl rfl (Nat.le_of_ble_eq_true rfl) dX6_init_23 (fun H locs hP hD hS => ?_)
  have hP : va_P G.1 vwCl [(ad_t, .inr (6, [.ref q15, .ref q25, .int (0 : Int32), .int (0 : Int32), .int (0 : Int32), .int (0 : Int32), .int (0 : Int32)])), (q15, .inr (0, [.ref b18, .ref b23, .ref b24])), (b18, .inr (5, [.ref b19, .ref b20, .ref b21, .ref b22, .int (a16.1 4)])), (b19, .inl (G.2.1 0, 9, .inl a16.2.1)), (b20, .inl (G.2.1 0, 12, .inl a16.2.2.1)), (b21, .inl (G.2.1 0, 12, .inl a16.2.2.2.1)), (b22, .inl (G.2.1 0, 12, .inl a16.2.2.2.2.1)), (b23, .inl (G.2.1 0, 1056, .inl a16.2.2.2.2.2.1)), (b24, .inl (G.2.1 0, 33, .inl a16.2.2.2.2.2.2)), (q25, .inr (7, [.ref b28, .int (a26.1 1)])), (b28, .inl (G.2.1 1, 300, .inl a26.2))] H := hP
  have hD : va_D A [(ad_t, .inr (6, [.ref q15, .ref q25, .int (0 : Int32), .int (0 : Int32), .int (0 : Int32), .int (0 : Int32), .int (0 : Int32)])), (q15, .inr (0, [.ref b18, .ref b23, .ref b24])), (b18, .inr (5, [.ref b19, .ref b20, .ref b21, .ref b22, .int (a16.1 4)])), (b19, .inl (G.2.1 0, 9, .inl a16.2.1)), (b20, .inl (G.2.1 0, 12, .inl a16.2.2.1)), (b21, .inl (G.2.1 0, 12, .inl a16.2.2.2.1)), (b22, .inl (G.2.1 0, 12, .inl a16.2.2.2.2.1)), (b23, .inl (G.2.1 0, 1056, .inl a16.2.2.2.2.2.1)), (b24, .inl (G.2.1 0, 33, .inl a16.2.2.2.2.2.2)), (q25, .inr (7, [.ref b28, .int (a26.1 1)])), (b28, .inl (G.2.1 1, 300, .inl a26.2))] := hD
  refine lv_aload_n hx hb dX6_init_26 rfl (lv_at hl 0 rfl) ?_
  refine lv_iconst (v := -1) hx hb dX6_init_27 (by decide) ?_
  refine va_put (D := G.1) (cl := vwCl) (ci := 6) (v := .int (-1 : Int32)) (ty := .int) (C := RX6) (T := TX6) (N := 7) hx hb hts inG6 tyX6 tyX6_ok nmX6 hown hK hP hD hS 0 rfl rfl 3 (Nat.le_of_ble_eq_true rfl) (hts _ q223) (fun _ h9 => h9) rfl (tyX6_ok 3 (Nat.le_of_ble_eq_true rfl)) rfl rfl (Nat.le_of_ble_eq_true rfl) dX6_init_28 (fun H locs hP hD hS => ?_)
  have hP : va_P G.1 vwCl [(ad_t, .inr (6, [.ref q15, .ref q25, .int (0 : Int32), .int (-1 : Int32), .int (0 : Int32), .int (0 : Int32), .int (0 : Int32)])), (q15, .inr (0, [.ref b18, .ref b23, .ref b24])), (b18, .inr (5, [.ref b19, .ref b20, .ref b21, .ref b22, .int (a16.1 4)])), (b19, .inl (G.2.1 0, 9, .inl a16.2.1)), (b20, .inl (G.2.1 0, 12, .inl a16.2.2.1)), (b21, .inl (G.2.1 0, 12, .inl a16.2.2.2.1)), (b22, .inl (G.2.1 0, 12, .inl a16.2.2.2.2.1)), (b23, .inl (G.2.1 0, 1056, .inl a16.2.2.2.2.2.1)), (b24, .inl (G.2.1 0, 33, .inl a16.2.2.2.2.2.2)), (q25, .inr (7, [.ref b28, .int (a26.1 1)])), (b28, .inl (G.2.1 1, 300, .inl a26.2))] H := hP
  have hD : va_D A [(ad_t, .inr (6, [.ref q15, .ref q25, .int (0 : Int32), .int (-1 : Int32), .int (0 : Int32), .int (0 : Int32), .int (0 : Int32)])), (q15, .inr (0, [.ref b18, .ref b23, .ref b24])), (b18, .inr (5, [.ref b19, .ref b20, .ref b21, .ref b22, .int (a16.1 4)])), (b19, .inl (G.2.1 0, 9, .inl a16.2.1)), (b20, .inl (G.2.1 0, 12, .inl a16.2.2.1)), (b21, .inl (G.2.1 0, 12, .inl a16.2.2.2.1)), (b22, .inl (G.2.1 0, 12, .inl a16.2.2.2.2.1)), (b23, .inl (G.2.1 0, 1056, .inl a16.2.2.2.2.2.1)), (b24, .inl (G.2.1 0, 33, .inl a16.2.2.2.2.2.2)), (q25, .inr (7, [.ref b28, .int (a26.1 1)])), (b28, .inl (G.2.1 1, 300, .inl a26.2))] := hD
  have hf := Option.some.inj hf
  subst hf
  exact eRetV hx hb hr hlocks hP hD hS ⟨rfl, q15, b18, b19, b20, b21, b22, b23, b24, q25, b28, rfl⟩ dX6_init_31

def fX3_init : Option ((Nat → Int32) × (Nat → Int32) × (Nat → Int32) × (Nat → Int32) × (Nat → Int32)) :=
  some ((upd (upd (upd (upd (upd (fun _ => (0 : Int32)) 2 (0 : Int32)) 3 (0 : Int32)) 4 (0 : Int32)) 5 (0 : Int32)) 8 (0 : Int32)), (fun _ => 0), (fun _ => 0), (fun _ => 0), (fun _ => 0))
set_option maxRecDepth 100000 in
set_option maxHeartbeats 4000000 in
theorem tX3_init (l : Launch) (G : gG) (ad_t : Nat) (o : (Nat → Int32) × (Nat → Int32) × (Nat → Int32) × (Nat → Int32) × (Nat → Int32)) (hf : fX3_init = some o) : mE G l yX3_init cX3_init 1 none 1 20 4 30 [.ref ad_t] [(ad_t, .inr (3, [.null, .null, .int 0, .int 0, .int 0, .int 0, .null, .null, .int 0]))] (fun r w => r = none ∧ ∃ (ad_t_rows ad_t_columns ad_t_candidates ad_t_left : Nat), w = [(ad_t, .inr (3, [.ref ad_t_rows, .ref ad_t_columns, .int (o.1 2), .int (o.1 3), .int (o.1 4), .int (o.1 5), .ref ad_t_candidates, .ref ad_t_left, .int (o.1 8)])), (ad_t_rows, .inl (G.2.1 0, 4, .inl o.2.1)), (ad_t_columns, .inl (G.2.1 0, 2, .inl o.2.2.1)), (ad_t_candidates, .inl (G.2.1 0, 12, .inl o.2.2.2.1)), (ad_t_left, .inl (G.2.1 0, 12, .inl o.2.2.2.2))]) := by
  refine mE_of (by decide) (Nat.le_of_ble_eq_true rfl) ?_
  intro p e s m below meth cd ls A hx hb hml hown hts hr hlocks hnm hl hA hP hD hS hG
  have hK := hG.1
  have hown : s.vm.findClass RX3 = some m.cls := hown
  have hl : lv_has ls 1 [(0, .ref ad_t)] := hl
  unfold fX3_init at hf
  refine lv_aload_n hx hb dX3_init_0 rfl (lv_at hl 0 rfl) ?_
  refine W.objInit hx hb hown (hts _ q277) (hts _ q120) (hts _ q121) rfl (hl.1.trans hml.symm) rfl dX3_init_1 (Nat.le_of_ble_eq_true rfl) (Nat.le_of_ble_eq_true rfl) ?_
  refine W.eq (g2 := F0 m 4 ls []) rfl ?_
  refine lv_aload_n hx hb dX3_init_4 rfl (lv_at hl 0 rfl) ?_
  refine lv_iconst (v := 4) hx hb dX3_init_5 (by decide) ?_
  refine ga_newa (D := G.1) (cl := vwCl) (atype := .int) (ty := .int) (N' := 4) (a0 := (4, .inl (fun _ => 0))) hx hb (hts _ q186) rfl hK hP hD hS hA 0 rfl (fun _ => rfl) (by decide) (by decide) (Nat.le_of_ble_eq_true rfl) (Nat.le_of_ble_eq_true rfl) (Nat.le_of_ble_eq_true rfl) dX3_init_6 (fun q5 H hP hD hS => ?_)
  have hP : va_P G.1 vwCl [(ad_t, .inr (3, [.null, .null, .int (0 : Int32), .int (0 : Int32), .int (0 : Int32), .int (0 : Int32), .null, .null, .int (0 : Int32)])), (q5, .inl (G.2.1 0, 4, .inl (fun _ => 0)))] H := hP
  have hD : va_D A [(ad_t, .inr (3, [.null, .null, .int (0 : Int32), .int (0 : Int32), .int (0 : Int32), .int (0 : Int32), .null, .null, .int (0 : Int32)])), (q5, .inl (G.2.1 0, 4, .inl (fun _ => 0)))] := hD
  refine va_putF (D := G.1) (cl := vwCl) (ci := 3) (v := .ref q5) (ty := tyX3 0) (C := RX3) (T := TX3) (N := 9) hx hb hts inG3 tyX3 tyX3_ok nmX3 hown hK hP hD hS 0 rfl rfl 0 (Nat.le_of_ble_eq_true rfl) (hts _ q278) (fun _ h9 => h9) rfl hnm rfl (tyX3_ok 0 (Nat.le_of_ble_eq_true rfl)) rfl rfl (Nat.le_of_ble_eq_true rfl) dX3_init_8 (fun H locs hP hD hS => ?_)
  have hP : va_P G.1 vwCl [(ad_t, .inr (3, [.ref q5, .null, .int (0 : Int32), .int (0 : Int32), .int (0 : Int32), .int (0 : Int32), .null, .null, .int (0 : Int32)])), (q5, .inl (G.2.1 0, 4, .inl (fun _ => 0)))] H := hP
  have hD : va_D A [(ad_t, .inr (3, [.ref q5, .null, .int (0 : Int32), .int (0 : Int32), .int (0 : Int32), .int (0 : Int32), .null, .null, .int (0 : Int32)])), (q5, .inl (G.2.1 0, 4, .inl (fun _ => 0)))] := hD
  refine lv_aload_n hx hb dX3_init_11 rfl (lv_at hl 0 rfl) ?_
  refine lv_iconst (v := 2) hx hb dX3_init_12 (by decide) ?_
  refine ga_newa (D := G.1) (cl := vwCl) (atype := .int) (ty := .int) (N' := 2) (a0 := (2, .inl (fun _ => 0))) hx hb (hts _ q186) rfl hK hP hD hS hA 0 rfl (fun _ => rfl) (by decide) (by decide) (Nat.le_of_ble_eq_true rfl) (Nat.le_of_ble_eq_true rfl) (Nat.le_of_ble_eq_true rfl) dX3_init_13 (fun q6 H hP hD hS => ?_)
  have hP : va_P G.1 vwCl [(ad_t, .inr (3, [.ref q5, .null, .int (0 : Int32), .int (0 : Int32), .int (0 : Int32), .int (0 : Int32), .null, .null, .int (0 : Int32)])), (q5, .inl (G.2.1 0, 4, .inl (fun _ => 0))), (q6, .inl (G.2.1 0, 2, .inl (fun _ => 0)))] H := hP
  have hD : va_D A [(ad_t, .inr (3, [.ref q5, .null, .int (0 : Int32), .int (0 : Int32), .int (0 : Int32), .int (0 : Int32), .null, .null, .int (0 : Int32)])), (q5, .inl (G.2.1 0, 4, .inl (fun _ => 0))), (q6, .inl (G.2.1 0, 2, .inl (fun _ => 0)))] := hD
  refine va_putF (D := G.1) (cl := vwCl) (ci := 3) (v := .ref q6) (ty := tyX3 1) (C := RX3) (T := TX3) (N := 9) hx hb hts inG3 tyX3 tyX3_ok nmX3 hown hK hP hD hS 0 rfl rfl 1 (Nat.le_of_ble_eq_true rfl) (hts _ q281) (fun _ h9 => h9) rfl hnm rfl (tyX3_ok 1 (Nat.le_of_ble_eq_true rfl)) rfl rfl (Nat.le_of_ble_eq_true rfl) dX3_init_15 (fun H locs hP hD hS => ?_)
  have hP : va_P G.1 vwCl [(ad_t, .inr (3, [.ref q5, .ref q6, .int (0 : Int32), .int (0 : Int32), .int (0 : Int32), .int (0 : Int32), .null, .null, .int (0 : Int32)])), (q5, .inl (G.2.1 0, 4, .inl (fun _ => 0))), (q6, .inl (G.2.1 0, 2, .inl (fun _ => 0)))] H := hP
  have hD : va_D A [(ad_t, .inr (3, [.ref q5, .ref q6, .int (0 : Int32), .int (0 : Int32), .int (0 : Int32), .int (0 : Int32), .null, .null, .int (0 : Int32)])), (q5, .inl (G.2.1 0, 4, .inl (fun _ => 0))), (q6, .inl (G.2.1 0, 2, .inl (fun _ => 0)))] := hD
  refine lv_aload_n hx hb dX3_init_18 rfl (lv_at hl 0 rfl) ?_
  refine lv_bipush (v := 12) hx hb dX3_init_19 (by decide) ?_
  refine ga_newa (D := G.1) (cl := vwCl) (atype := .int) (ty := .int) (N' := 12) (a0 := (12, .inl (fun _ => 0))) hx hb (hts _ q186) rfl hK hP hD hS hA 0 rfl (fun _ => rfl) (by decide) (by decide) (Nat.le_of_ble_eq_true rfl) (Nat.le_of_ble_eq_true rfl) (Nat.le_of_ble_eq_true rfl) dX3_init_21 (fun q7 H hP hD hS => ?_)
  have hP : va_P G.1 vwCl [(ad_t, .inr (3, [.ref q5, .ref q6, .int (0 : Int32), .int (0 : Int32), .int (0 : Int32), .int (0 : Int32), .null, .null, .int (0 : Int32)])), (q5, .inl (G.2.1 0, 4, .inl (fun _ => 0))), (q6, .inl (G.2.1 0, 2, .inl (fun _ => 0))), (q7, .inl (G.2.1 0, 12, .inl (fun _ => 0)))] H := hP
  have hD : va_D A [(ad_t, .inr (3, [.ref q5, .ref q6, .int (0 : Int32), .int (0 : Int32), .int (0 : Int32), .int (0 : Int32), .null, .null, .int (0 : Int32)])), (q5, .inl (G.2.1 0, 4, .inl (fun _ => 0))), (q6, .inl (G.2.1 0, 2, .inl (fun _ => 0))), (q7, .inl (G.2.1 0, 12, .inl (fun _ => 0)))] := hD
  refine va_putF (D := G.1) (cl := vwCl) (ci := 3) (v := .ref q7) (ty := tyX3 6) (C := RX3) (T := TX3) (N := 9) hx hb hts inG3 tyX3 tyX3_ok nmX3 hown hK hP hD hS 0 rfl rfl 6 (Nat.le_of_ble_eq_true rfl) (hts _ q297) (fun _ h9 => h9) rfl hnm rfl (tyX3_ok 6 (Nat.le_of_ble_eq_true rfl)) rfl rfl (Nat.le_of_ble_eq_true rfl) dX3_init_23 (fun H locs hP hD hS => ?_)
  have hP : va_P G.1 vwCl [(ad_t, .inr (3, [.ref q5, .ref q6, .int (0 : Int32), .int (0 : Int32), .int (0 : Int32), .int (0 : Int32), .ref q7, .null, .int (0 : Int32)])), (q5, .inl (G.2.1 0, 4, .inl (fun _ => 0))), (q6, .inl (G.2.1 0, 2, .inl (fun _ => 0))), (q7, .inl (G.2.1 0, 12, .inl (fun _ => 0)))] H := hP
  have hD : va_D A [(ad_t, .inr (3, [.ref q5, .ref q6, .int (0 : Int32), .int (0 : Int32), .int (0 : Int32), .int (0 : Int32), .ref q7, .null, .int (0 : Int32)])), (q5, .inl (G.2.1 0, 4, .inl (fun _ => 0))), (q6, .inl (G.2.1 0, 2, .inl (fun _ => 0))), (q7, .inl (G.2.1 0, 12, .inl (fun _ => 0)))] := hD
  refine lv_aload_n hx hb dX3_init_26 rfl (lv_at hl 0 rfl) ?_
  refine lv_bipush (v := 12) hx hb dX3_init_27 (by decide) ?_
  refine ga_newa (D := G.1) (cl := vwCl) (atype := .int) (ty := .int) (N' := 12) (a0 := (12, .inl (fun _ => 0))) hx hb (hts _ q186) rfl hK hP hD hS hA 0 rfl (fun _ => rfl) (by decide) (by decide) (Nat.le_of_ble_eq_true rfl) (Nat.le_of_ble_eq_true rfl) (Nat.le_of_ble_eq_true rfl) dX3_init_29 (fun q8 H hP hD hS => ?_)
  have hP : va_P G.1 vwCl [(ad_t, .inr (3, [.ref q5, .ref q6, .int (0 : Int32), .int (0 : Int32), .int (0 : Int32), .int (0 : Int32), .ref q7, .null, .int (0 : Int32)])), (q5, .inl (G.2.1 0, 4, .inl (fun _ => 0))), (q6, .inl (G.2.1 0, 2, .inl (fun _ => 0))), (q7, .inl (G.2.1 0, 12, .inl (fun _ => 0))), (q8, .inl (G.2.1 0, 12, .inl (fun _ => 0)))] H := hP
  have hD : va_D A [(ad_t, .inr (3, [.ref q5, .ref q6, .int (0 : Int32), .int (0 : Int32), .int (0 : Int32), .int (0 : Int32), .ref q7, .null, .int (0 : Int32)])), (q5, .inl (G.2.1 0, 4, .inl (fun _ => 0))), (q6, .inl (G.2.1 0, 2, .inl (fun _ => 0))), (q7, .inl (G.2.1 0, 12, .inl (fun _ => 0))), (q8, .inl (G.2.1 0, 12, .inl (fun _ => 0)))] := hD
  refine va_putF (D := G.1) (cl := vwCl) (ci := 3) (v := .ref q8) (ty := tyX3 7) (C := RX3) (T := TX3) (N := 9) hx hb hts inG3 tyX3 tyX3_ok nmX3 hown hK hP hD hS 0 rfl rfl 7 (Nat.le_of_ble_eq_true rfl) (hts _ q298) (fun _ h9 => h9) rfl hnm rfl (tyX3_ok 7 (Nat.le_of_ble_eq_true rfl)) rfl rfl (Nat.le_of_ble_eq_true rfl) dX3_init_31 (fun H locs hP hD hS => ?_)
  have hP : va_P G.1 vwCl [(ad_t, .inr (3, [.ref q5, .ref q6, .int (0 : Int32), .int (0 : Int32), .int (0 : Int32), .int (0 : Int32), .ref q7, .ref q8, .int (0 : Int32)])), (q5, .inl (G.2.1 0, 4, .inl (fun _ => 0))), (q6, .inl (G.2.1 0, 2, .inl (fun _ => 0))), (q7, .inl (G.2.1 0, 12, .inl (fun _ => 0))), (q8, .inl (G.2.1 0, 12, .inl (fun _ => 0)))] H := hP
  have hD : va_D A [(ad_t, .inr (3, [.ref q5, .ref q6, .int (0 : Int32), .int (0 : Int32), .int (0 : Int32), .int (0 : Int32), .ref q7, .ref q8, .int (0 : Int32)])), (q5, .inl (G.2.1 0, 4, .inl (fun _ => 0))), (q6, .inl (G.2.1 0, 2, .inl (fun _ => 0))), (q7, .inl (G.2.1 0, 12, .inl (fun _ => 0))), (q8, .inl (G.2.1 0, 12, .inl (fun _ => 0)))] := hD
  have hf := Option.some.inj hf
  subst hf
  exact eRetV hx hb hr hlocks hP hD hS ⟨rfl, q5, q6, q7, q8, rfl⟩ dX3_init_34

def fX9_init : Option ((Nat → Int32) × (Nat → Int32) × (Nat → Int32) × (Nat → Int32) × (Nat → Int32) × (Nat → Int32)) :=
  bn fX3_init fun a2 => some ((upd (upd (upd (upd (fun _ => (0 : Int32)) 1 (0 : Int32)) 2 (0 : Int32)) 3 (0 : Int32)) 4 (0 : Int32)), a2.1, a2.2.1, a2.2.2.1, a2.2.2.2.1, a2.2.2.2.2)
set_option maxRecDepth 100000 in
set_option maxHeartbeats 4000000 in
theorem tX9_init (l : Launch) (G : gG) (ad_t : Nat) (o : (Nat → Int32) × (Nat → Int32) × (Nat → Int32) × (Nat → Int32) × (Nat → Int32) × (Nat → Int32)) (hf : fX9_init = some o) : mE G l yX9_init cX9_init 1 none 2 40 5 39 [.ref ad_t] [(ad_t, .inr (9, [.null, .int 0, .int 0, .int 0, .int 0]))] (fun r w => r = none ∧ ∃ (ad_t_repair ad_t_repair_rows ad_t_repair_columns ad_t_repair_candidates ad_t_repair_left : Nat), w = [(ad_t, .inr (9, [.ref ad_t_repair, .int (o.1 1), .int (o.1 2), .int (o.1 3), .int (o.1 4)])), (ad_t_repair, .inr (3, [.ref ad_t_repair_rows, .ref ad_t_repair_columns, .int (o.2.1 2), .int (o.2.1 3), .int (o.2.1 4), .int (o.2.1 5), .ref ad_t_repair_candidates, .ref ad_t_repair_left, .int (o.2.1 8)])), (ad_t_repair_rows, .inl (G.2.1 0, 4, .inl o.2.2.1)), (ad_t_repair_columns, .inl (G.2.1 0, 2, .inl o.2.2.2.1)), (ad_t_repair_candidates, .inl (G.2.1 0, 12, .inl o.2.2.2.2.1)), (ad_t_repair_left, .inl (G.2.1 0, 12, .inl o.2.2.2.2.2))]) := by
  refine mE_of (by decide) (Nat.le_of_ble_eq_true rfl) ?_
  intro p e s m below meth cd ls A hx hb hml hown hts hr hlocks hnm hl hA hP hD hS hG
  have hK := hG.1
  have hown : s.vm.findClass RX9 = some m.cls := hown
  have hl : lv_has ls 1 [(0, .ref ad_t)] := hl
  unfold fX9_init at hf
  refine lv_aload_n hx hb dX9_init_0 rfl (lv_at hl 0 rfl) ?_
  refine W.objInit hx hb hown (hts _ q271) (hts _ q120) (hts _ q121) rfl (hl.1.trans hml.symm) rfl dX9_init_1 (Nat.le_of_ble_eq_true rfl) (Nat.le_of_ble_eq_true rfl) ?_
  refine W.eq (g2 := F0 m 4 ls []) rfl ?_
  refine lv_aload_n hx hb dX9_init_4 rfl (lv_at hl 0 rfl) ?_
  refine va_new (D := G.1) (cl := vwCl) (ci := 3) (fs := [.null, .null, .int 0, .int 0, .int 0, .int 0, .null, .null, .int 0]) (C := RX3) (T := TX3) (N := 9) hx hb hts inG3 tyX3 tyX3_ok hown (hts _ q272) (hts _ q273) (hts _ q102) hK hP hD hS hA rfl dfX3 (Nat.le_of_ble_eq_true rfl) (Nat.le_of_ble_eq_true rfl) dX9_init_5 (fun q8 H hP hD hS => ?_)
  have hP : va_P G.1 vwCl [(ad_t, .inr (9, [.null, .int (0 : Int32), .int (0 : Int32), .int (0 : Int32), .int (0 : Int32)])), (q8, .inr (3, [.null, .null, .int (0 : Int32), .int (0 : Int32), .int (0 : Int32), .int (0 : Int32), .null, .null, .int (0 : Int32)]))] H := hP
  have hD : va_D A [(ad_t, .inr (9, [.null, .int (0 : Int32), .int (0 : Int32), .int (0 : Int32), .int (0 : Int32)])), (q8, .inr (3, [.null, .null, .int (0 : Int32), .int (0 : Int32), .int (0 : Int32), .int (0 : Int32), .null, .null, .int (0 : Int32)]))] := hD
  refine lv_dup hx hb dX9_init_8 rfl ?_
  obtain ⟨a9, h10, hf⟩ := bn_some hf
  refine kEIN (tX3_init l G q8 a9 h10) ⟨hx, hb, hml, hown, hts⟩ n_mn_X9_11 q275 q102 q276 rfl okyX3_init ⟨Nat.le_of_ble_eq_true rfl, Nat.le_of_ble_eq_true rfl⟩ hP hD hG hS hA [1] [0] rfl (wr := [(ad_t, .inr (9, [.null, .int (0 : Int32), .int (0 : Int32), .int (0 : Int32), .int (0 : Int32)]))]) rfl (by decide) hl.1 rfl (Nat.le_of_ble_eq_true rfl) dX9_init_9 ⟨Nat.le_of_ble_eq_true rfl, Nat.le_of_ble_eq_true rfl⟩ (fun r w H locs hR hP hD hS => ?_)
  obtain ⟨rfl, b11, b12, b13, b14, rfl⟩ := hR
  have hP : va_P G.1 vwCl [(ad_t, .inr (9, [.null, .int (0 : Int32), .int (0 : Int32), .int (0 : Int32), .int (0 : Int32)])), (q8, .inr (3, [.ref b11, .ref b12, .int (a9.1 2), .int (a9.1 3), .int (a9.1 4), .int (a9.1 5), .ref b13, .ref b14, .int (a9.1 8)])), (b11, .inl (G.2.1 0, 4, .inl a9.2.1)), (b12, .inl (G.2.1 0, 2, .inl a9.2.2.1)), (b13, .inl (G.2.1 0, 12, .inl a9.2.2.2.1)), (b14, .inl (G.2.1 0, 12, .inl a9.2.2.2.2))] H := hP
  have hD : va_D A [(ad_t, .inr (9, [.null, .int (0 : Int32), .int (0 : Int32), .int (0 : Int32), .int (0 : Int32)])), (q8, .inr (3, [.ref b11, .ref b12, .int (a9.1 2), .int (a9.1 3), .int (a9.1 4), .int (a9.1 5), .ref b13, .ref b14, .int (a9.1 8)])), (b11, .inl (G.2.1 0, 4, .inl a9.2.1)), (b12, .inl (G.2.1 0, 2, .inl a9.2.2.1)), (b13, .inl (G.2.1 0, 12, .inl a9.2.2.2.1)), (b14, .inl (G.2.1 0, 12, .inl a9.2.2.2.2))] := hD
  refine W.eq (g2 := F0 m 12 ls [.ref q8, .ref ad_t]) rfl ?_
  refine va_putF (D := G.1) (cl := vwCl) (ci := 9) (v := .ref q8) (ty := tyX9 0) (C := RX9) (T := TX9) (N := 5) hx hb hts inG9 tyX9 tyX9_ok nmX9 hown hK hP hD hS 0 rfl rfl 0 (Nat.le_of_ble_eq_true rfl) (hts _ q319) (fun _ h9 => h9) rfl hnm rfl (tyX9_ok 0 (Nat.le_of_ble_eq_true rfl)) rfl rfl (Nat.le_of_ble_eq_true rfl) dX9_init_12 (fun H locs hP hD hS => ?_)
  have hP : va_P G.1 vwCl [(ad_t, .inr (9, [.ref q8, .int (0 : Int32), .int (0 : Int32), .int (0 : Int32), .int (0 : Int32)])), (q8, .inr (3, [.ref b11, .ref b12, .int (a9.1 2), .int (a9.1 3), .int (a9.1 4), .int (a9.1 5), .ref b13, .ref b14, .int (a9.1 8)])), (b11, .inl (G.2.1 0, 4, .inl a9.2.1)), (b12, .inl (G.2.1 0, 2, .inl a9.2.2.1)), (b13, .inl (G.2.1 0, 12, .inl a9.2.2.2.1)), (b14, .inl (G.2.1 0, 12, .inl a9.2.2.2.2))] H := hP
  have hD : va_D A [(ad_t, .inr (9, [.ref q8, .int (0 : Int32), .int (0 : Int32), .int (0 : Int32), .int (0 : Int32)])), (q8, .inr (3, [.ref b11, .ref b12, .int (a9.1 2), .int (a9.1 3), .int (a9.1 4), .int (a9.1 5), .ref b13, .ref b14, .int (a9.1 8)])), (b11, .inl (G.2.1 0, 4, .inl a9.2.1)), (b12, .inl (G.2.1 0, 2, .inl a9.2.2.1)), (b13, .inl (G.2.1 0, 12, .inl a9.2.2.2.1)), (b14, .inl (G.2.1 0, 12, .inl a9.2.2.2.2))] := hD
  have hf := Option.some.inj hf
  subst hf
  exact eRetV hx hb hr hlocks hP hD hS ⟨rfl, q8, b11, b12, b13, b14, rfl⟩ dX9_init_15

def fX4_init : Option ((Nat → Int32) × (Nat → Int32)) :=
  some ((upd (upd (upd (upd (upd (upd (upd (upd (upd (upd (upd (upd (upd (upd (upd (upd (upd (fun _ => (0 : Int32)) 1 (0 : Int32)) 2 (0 : Int32)) 3 (0 : Int32)) 4 (0 : Int32)) 5 (0 : Int32)) 6 (0 : Int32)) 7 (0 : Int32)) 8 (0 : Int32)) 9 (0 : Int32)) 10 (0 : Int32)) 11 (0 : Int32)) 12 (0 : Int32)) 13 (0 : Int32)) 14 (0 : Int32)) 15 (0 : Int32)) 16 (0 : Int32)) 17 (0 : Int32)), (fun _ => 0))
set_option maxRecDepth 100000 in
set_option maxHeartbeats 4000000 in
theorem tX4_init (l : Launch) (G : gG) (ad_t : Nat) (o : (Nat → Int32) × (Nat → Int32)) (hf : fX4_init = some o) : mE G l yX4_init cX4_init 1 none 1 20 1 8 [.ref ad_t] [(ad_t, .inr (4, [.null, .int 0, .int 0, .int 0, .int 0, .int 0, .int 0, .int 0, .int 0, .int 0, .int 0, .int 0, .int 0, .int 0, .int 0, .int 0, .int 0, .int 0]))] (fun r w => r = none ∧ ∃ (ad_t_sizes : Nat), w = [(ad_t, .inr (4, [.ref ad_t_sizes, .int (o.1 1), .int (o.1 2), .int (o.1 3), .int (o.1 4), .int (o.1 5), .int (o.1 6), .int (o.1 7), .int (o.1 8), .int (o.1 9), .int (o.1 10), .int (o.1 11), .int (o.1 12), .int (o.1 13), .int (o.1 14), .int (o.1 15), .int (o.1 16), .int (o.1 17)])), (ad_t_sizes, .inl (G.2.1 0, 8, .inl o.2))]) := by
  refine mE_of (by decide) (Nat.le_of_ble_eq_true rfl) ?_
  intro p e s m below meth cd ls A hx hb hml hown hts hr hlocks hnm hl hA hP hD hS hG
  have hK := hG.1
  have hown : s.vm.findClass RX4 = some m.cls := hown
  have hl : lv_has ls 1 [(0, .ref ad_t)] := hl
  unfold fX4_init at hf
  refine lv_aload_n hx hb dX4_init_0 rfl (lv_at hl 0 rfl) ?_
  refine W.objInit hx hb hown (hts _ q344) (hts _ q120) (hts _ q121) rfl (hl.1.trans hml.symm) rfl dX4_init_1 (Nat.le_of_ble_eq_true rfl) (Nat.le_of_ble_eq_true rfl) ?_
  refine W.eq (g2 := F0 m 4 ls []) rfl ?_
  refine lv_aload_n hx hb dX4_init_4 rfl (lv_at hl 0 rfl) ?_
  refine lv_bipush (v := 8) hx hb dX4_init_5 (by decide) ?_
  refine ga_newa (D := G.1) (cl := vwCl) (atype := .int) (ty := .int) (N' := 8) (a0 := (8, .inl (fun _ => 0))) hx hb (hts _ q186) rfl hK hP hD hS hA 0 rfl (fun _ => rfl) (by decide) (by decide) (Nat.le_of_ble_eq_true rfl) (Nat.le_of_ble_eq_true rfl) (Nat.le_of_ble_eq_true rfl) dX4_init_7 (fun q2 H hP hD hS => ?_)
  have hP : va_P G.1 vwCl [(ad_t, .inr (4, [.null, .int (0 : Int32), .int (0 : Int32), .int (0 : Int32), .int (0 : Int32), .int (0 : Int32), .int (0 : Int32), .int (0 : Int32), .int (0 : Int32), .int (0 : Int32), .int (0 : Int32), .int (0 : Int32), .int (0 : Int32), .int (0 : Int32), .int (0 : Int32), .int (0 : Int32), .int (0 : Int32), .int (0 : Int32)])), (q2, .inl (G.2.1 0, 8, .inl (fun _ => 0)))] H := hP
  have hD : va_D A [(ad_t, .inr (4, [.null, .int (0 : Int32), .int (0 : Int32), .int (0 : Int32), .int (0 : Int32), .int (0 : Int32), .int (0 : Int32), .int (0 : Int32), .int (0 : Int32), .int (0 : Int32), .int (0 : Int32), .int (0 : Int32), .int (0 : Int32), .int (0 : Int32), .int (0 : Int32), .int (0 : Int32), .int (0 : Int32), .int (0 : Int32)])), (q2, .inl (G.2.1 0, 8, .inl (fun _ => 0)))] := hD
  refine va_putF (D := G.1) (cl := vwCl) (ci := 4) (v := .ref q2) (ty := tyX4 0) (C := RX4) (T := TX4) (N := 18) hx hb hts inG4 tyX4 tyX4_ok nmX4 hown hK hP hD hS 0 rfl rfl 0 (Nat.le_of_ble_eq_true rfl) (hts _ q345) (fun _ h9 => h9) rfl hnm rfl (tyX4_ok 0 (Nat.le_of_ble_eq_true rfl)) rfl rfl (Nat.le_of_ble_eq_true rfl) dX4_init_9 (fun H locs hP hD hS => ?_)
  have hP : va_P G.1 vwCl [(ad_t, .inr (4, [.ref q2, .int (0 : Int32), .int (0 : Int32), .int (0 : Int32), .int (0 : Int32), .int (0 : Int32), .int (0 : Int32), .int (0 : Int32), .int (0 : Int32), .int (0 : Int32), .int (0 : Int32), .int (0 : Int32), .int (0 : Int32), .int (0 : Int32), .int (0 : Int32), .int (0 : Int32), .int (0 : Int32), .int (0 : Int32)])), (q2, .inl (G.2.1 0, 8, .inl (fun _ => 0)))] H := hP
  have hD : va_D A [(ad_t, .inr (4, [.ref q2, .int (0 : Int32), .int (0 : Int32), .int (0 : Int32), .int (0 : Int32), .int (0 : Int32), .int (0 : Int32), .int (0 : Int32), .int (0 : Int32), .int (0 : Int32), .int (0 : Int32), .int (0 : Int32), .int (0 : Int32), .int (0 : Int32), .int (0 : Int32), .int (0 : Int32), .int (0 : Int32), .int (0 : Int32)])), (q2, .inl (G.2.1 0, 8, .inl (fun _ => 0)))] := hD
  have hf := Option.some.inj hf
  subst hf
  exact eRetV hx hb hr hlocks hP hD hS ⟨rfl, q2, rfl⟩ dX4_init_12

def fX8_init : Option ((Nat → Int32) × (Nat → Int32)) :=
  some ((upd (fun _ => (0 : Int32)) 1 (0 : Int32)), (fun _ => 0))
set_option maxRecDepth 100000 in
set_option maxHeartbeats 4000000 in
theorem tX8_init (l : Launch) (G : gG) (ad_t : Nat) (o : (Nat → Int32) × (Nat → Int32)) (hf : fX8_init = some o) : mE G l yX8_init cX8_init 1 none 1 20 1 400 [.ref ad_t] [(ad_t, .inr (8, [.null, .int 0]))] (fun r w => r = none ∧ ∃ (ad_t_bytes : Nat), w = [(ad_t, .inr (8, [.ref ad_t_bytes, .int (o.1 1)])), (ad_t_bytes, .inl (G.2.1 1, 400, .inl o.2))]) := by
  refine mE_of (by decide) (Nat.le_of_ble_eq_true rfl) ?_
  intro p e s m below meth cd ls A hx hb hml hown hts hr hlocks hnm hl hA hP hD hS hG
  have hK := hG.1
  have hown : s.vm.findClass RX8 = some m.cls := hown
  have hl : lv_has ls 1 [(0, .ref ad_t)] := hl
  unfold fX8_init at hf
  refine lv_aload_n hx hb dX8_init_0 rfl (lv_at hl 0 rfl) ?_
  refine W.objInit hx hb hown (hts _ q453) (hts _ q120) (hts _ q121) rfl (hl.1.trans hml.symm) rfl dX8_init_1 (Nat.le_of_ble_eq_true rfl) (Nat.le_of_ble_eq_true rfl) ?_
  refine W.eq (g2 := F0 m 4 ls []) rfl ?_
  refine lv_aload_n hx hb dX8_init_4 rfl (lv_at hl 0 rfl) ?_
  refine lv_sipush (v := 400) hx hb dX8_init_5 (by decide) ?_
  refine ga_newa (D := G.1) (cl := vwCl) (atype := .byte) (ty := .byte) (N' := 400) (a0 := (400, .inl (fun _ => 0))) hx hb (hts _ q216) rfl hK hP hD hS hA 1 rfl (fun _ => rfl) (by decide) (by decide) (Nat.le_of_ble_eq_true rfl) (Nat.le_of_ble_eq_true rfl) (Nat.le_of_ble_eq_true rfl) dX8_init_8 (fun q2 H hP hD hS => ?_)
  have hP : va_P G.1 vwCl [(ad_t, .inr (8, [.null, .int (0 : Int32)])), (q2, .inl (G.2.1 1, 400, .inl (fun _ => 0)))] H := hP
  have hD : va_D A [(ad_t, .inr (8, [.null, .int (0 : Int32)])), (q2, .inl (G.2.1 1, 400, .inl (fun _ => 0)))] := hD
  refine va_putF (D := G.1) (cl := vwCl) (ci := 8) (v := .ref q2) (ty := tyX8 0) (C := RX8) (T := TX8) (N := 2) hx hb hts inG8 tyX8 tyX8_ok nmX8 hown hK hP hD hS 0 rfl rfl 0 (Nat.le_of_ble_eq_true rfl) (hts _ q454) (fun _ h9 => h9) rfl hnm rfl (tyX8_ok 0 (Nat.le_of_ble_eq_true rfl)) rfl rfl (Nat.le_of_ble_eq_true rfl) dX8_init_10 (fun H locs hP hD hS => ?_)
  have hP : va_P G.1 vwCl [(ad_t, .inr (8, [.ref q2, .int (0 : Int32)])), (q2, .inl (G.2.1 1, 400, .inl (fun _ => 0)))] H := hP
  have hD : va_D A [(ad_t, .inr (8, [.ref q2, .int (0 : Int32)])), (q2, .inl (G.2.1 1, 400, .inl (fun _ => 0)))] := hD
  have hf := Option.some.inj hf
  subst hf
  exact eRetV hx hb hr hlocks hP hD hS ⟨rfl, q2, rfl⟩ dX8_init_13

def fX2_init : Option ((Nat → Int32) × (Nat → Int32) × (Nat → Int32) × (Nat → Int32) × (Nat → Int32) × (Nat → Int32) × (Nat → Int32) × (Nat → Int32)) :=
  bn fX5_init fun a2 => bn fX7_init fun a9 => some ((upd (upd (upd (upd (upd (upd (fun _ => (0 : Int32)) 1 (0 : Int32)) 2 (0 : Int32)) 4 (0 : Int32)) 5 (0 : Int32)) 6 (0 : Int32)) 7 (0 : Int32)), a2.1, a2.2.1, a2.2.2.1, a2.2.2.2.1, a2.2.2.2.2, a9.1, a9.2)
set_option maxRecDepth 100000 in
set_option maxHeartbeats 4000000 in
theorem tX2_init (l : Launch) (G : gG) (ad_t : Nat) (o : (Nat → Int32) × (Nat → Int32) × (Nat → Int32) × (Nat → Int32) × (Nat → Int32) × (Nat → Int32) × (Nat → Int32) × (Nat → Int32)) (hf : fX2_init = some o) : mE G l yX2_init cX2_init 1 none 3 66 7 352 [.ref ad_t] [(ad_t, .inr (2, [.null, .int 0, .int 0, .null, .int 0, .int 0, .int 0, .int 0]))] (fun r w => r = none ∧ ∃ (ad_t_told ad_t_told_numbers ad_t_told_badRows ad_t_told_badColumns ad_t_told_badBits ad_t_source ad_t_source_bytes : Nat), w = [(ad_t, .inr (2, [.ref ad_t_told, .int (o.1 1), .int (o.1 2), .ref ad_t_source, .int (o.1 4), .int (o.1 5), .int (o.1 6), .int (o.1 7)])), (ad_t_told, .inr (5, [.ref ad_t_told_numbers, .ref ad_t_told_badRows, .ref ad_t_told_badColumns, .ref ad_t_told_badBits, .int (o.2.1 4)])), (ad_t_told_numbers, .inl (G.2.1 0, 9, .inl o.2.2.1)), (ad_t_told_badRows, .inl (G.2.1 0, 12, .inl o.2.2.2.1)), (ad_t_told_badColumns, .inl (G.2.1 0, 12, .inl o.2.2.2.2.1)), (ad_t_told_badBits, .inl (G.2.1 0, 12, .inl o.2.2.2.2.2.1)), (ad_t_source, .inr (7, [.ref ad_t_source_bytes, .int (o.2.2.2.2.2.2.1 1)])), (ad_t_source_bytes, .inl (G.2.1 1, 300, .inl o.2.2.2.2.2.2.2))]) := by
  refine mE_of (by decide) (Nat.le_of_ble_eq_true rfl) ?_
  intro p e s m below meth cd ls A hx hb hml hown hts hr hlocks hnm hl hA hP hD hS hG
  have hK := hG.1
  have hown : s.vm.findClass RX2 = some m.cls := hown
  have hl : lv_has ls 1 [(0, .ref ad_t)] := hl
  unfold fX2_init at hf
  refine lv_aload_n hx hb dX2_init_0 rfl (lv_at hl 0 rfl) ?_
  refine W.objInit hx hb hown (hts _ q415) (hts _ q120) (hts _ q121) rfl (hl.1.trans hml.symm) rfl dX2_init_1 (Nat.le_of_ble_eq_true rfl) (Nat.le_of_ble_eq_true rfl) ?_
  refine W.eq (g2 := F0 m 4 ls []) rfl ?_
  refine lv_aload_n hx hb dX2_init_4 rfl (lv_at hl 0 rfl) ?_
  refine va_new (D := G.1) (cl := vwCl) (ci := 5) (fs := [.null, .null, .null, .null, .int 0]) (C := RX5) (T := TX5) (N := 5) hx hb hts inG5 tyX5 tyX5_ok hown (hts _ q416) (hts _ q135) (hts _ q97) hK hP hD hS hA rfl dfX5 (Nat.le_of_ble_eq_true rfl) (Nat.le_of_ble_eq_true rfl) dX2_init_5 (fun q12 H hP hD hS => ?_)
  have hP : va_P G.1 vwCl [(ad_t, .inr (2, [.null, .int (0 : Int32), .int (0 : Int32), .null, .int (0 : Int32), .int (0 : Int32), .int (0 : Int32), .int (0 : Int32)])), (q12, .inr (5, [.null, .null, .null, .null, .int (0 : Int32)]))] H := hP
  have hD : va_D A [(ad_t, .inr (2, [.null, .int (0 : Int32), .int (0 : Int32), .null, .int (0 : Int32), .int (0 : Int32), .int (0 : Int32), .int (0 : Int32)])), (q12, .inr (5, [.null, .null, .null, .null, .int (0 : Int32)]))] := hD
  refine lv_dup hx hb dX2_init_8 rfl ?_
  obtain ⟨a13, h14, hf⟩ := bn_some hf
  refine kEI (tX5_init l G q12 a13 h14) ⟨hx, hb, hml, hown, hts⟩ q417 q137 q97 q138 rfl okyX5_init ⟨Nat.le_of_ble_eq_true rfl, Nat.le_of_ble_eq_true rfl⟩ hP hD hG hS hA [1] [0] rfl (wr := [(ad_t, .inr (2, [.null, .int (0 : Int32), .int (0 : Int32), .null, .int (0 : Int32), .int (0 : Int32), .int (0 : Int32), .int (0 : Int32)]))]) rfl (by decide) hl.1 rfl (Nat.le_of_ble_eq_true rfl) dX2_init_9 ⟨Nat.le_of_ble_eq_true rfl, Nat.le_of_ble_eq_true rfl⟩ (fun r w H locs hR hP hD hS => ?_)
  obtain ⟨rfl, b15, b16, b17, b18, rfl⟩ := hR
  have hP : va_P G.1 vwCl [(ad_t, .inr (2, [.null, .int (0 : Int32), .int (0 : Int32), .null, .int (0 : Int32), .int (0 : Int32), .int (0 : Int32), .int (0 : Int32)])), (q12, .inr (5, [.ref b15, .ref b16, .ref b17, .ref b18, .int (a13.1 4)])), (b15, .inl (G.2.1 0, 9, .inl a13.2.1)), (b16, .inl (G.2.1 0, 12, .inl a13.2.2.1)), (b17, .inl (G.2.1 0, 12, .inl a13.2.2.2.1)), (b18, .inl (G.2.1 0, 12, .inl a13.2.2.2.2))] H := hP
  have hD : va_D A [(ad_t, .inr (2, [.null, .int (0 : Int32), .int (0 : Int32), .null, .int (0 : Int32), .int (0 : Int32), .int (0 : Int32), .int (0 : Int32)])), (q12, .inr (5, [.ref b15, .ref b16, .ref b17, .ref b18, .int (a13.1 4)])), (b15, .inl (G.2.1 0, 9, .inl a13.2.1)), (b16, .inl (G.2.1 0, 12, .inl a13.2.2.1)), (b17, .inl (G.2.1 0, 12, .inl a13.2.2.2.1)), (b18, .inl (G.2.1 0, 12, .inl a13.2.2.2.2))] := hD
  refine W.eq (g2 := F0 m 12 ls [.ref q12, .ref ad_t]) rfl ?_
  refine va_putF (D := G.1) (cl := vwCl) (ci := 2) (v := .ref q12) (ty := tyX2 0) (C := RX2) (T := TX2) (N := 8) hx hb hts inG2 tyX2 tyX2_ok nmX2 hown hK hP hD hS 0 rfl rfl 0 (Nat.le_of_ble_eq_true rfl) (hts _ q420) (fun _ h9 => h9) rfl hnm rfl (tyX2_ok 0 (Nat.le_of_ble_eq_true rfl)) rfl rfl (Nat.le_of_ble_eq_true rfl) dX2_init_12 (fun H locs hP hD hS => ?_)
  have hP : va_P G.1 vwCl [(ad_t, .inr (2, [.ref q12, .int (0 : Int32), .int (0 : Int32), .null, .int (0 : Int32), .int (0 : Int32), .int (0 : Int32), .int (0 : Int32)])), (q12, .inr (5, [.ref b15, .ref b16, .ref b17, .ref b18, .int (a13.1 4)])), (b15, .inl (G.2.1 0, 9, .inl a13.2.1)), (b16, .inl (G.2.1 0, 12, .inl a13.2.2.1)), (b17, .inl (G.2.1 0, 12, .inl a13.2.2.2.1)), (b18, .inl (G.2.1 0, 12, .inl a13.2.2.2.2))] H := hP
  have hD : va_D A [(ad_t, .inr (2, [.ref q12, .int (0 : Int32), .int (0 : Int32), .null, .int (0 : Int32), .int (0 : Int32), .int (0 : Int32), .int (0 : Int32)])), (q12, .inr (5, [.ref b15, .ref b16, .ref b17, .ref b18, .int (a13.1 4)])), (b15, .inl (G.2.1 0, 9, .inl a13.2.1)), (b16, .inl (G.2.1 0, 12, .inl a13.2.2.1)), (b17, .inl (G.2.1 0, 12, .inl a13.2.2.2.1)), (b18, .inl (G.2.1 0, 12, .inl a13.2.2.2.2))] := hD
  refine lv_aload_n hx hb dX2_init_15 rfl (lv_at hl 0 rfl) ?_
  refine va_new (D := G.1) (cl := vwCl) (ci := 7) (fs := [.null, .int 0]) (C := RX7) (T := TX7) (N := 2) hx hb hts inG7 tyX7 tyX7_ok hown (hts _ q418) (hts _ q200) (hts _ q99) hK hP hD hS hA rfl dfX7 (Nat.le_of_ble_eq_true rfl) (Nat.le_of_ble_eq_true rfl) dX2_init_16 (fun q19 H hP hD hS => ?_)
  have hP : va_P G.1 vwCl [(ad_t, .inr (2, [.ref q12, .int (0 : Int32), .int (0 : Int32), .null, .int (0 : Int32), .int (0 : Int32), .int (0 : Int32), .int (0 : Int32)])), (q12, .inr (5, [.ref b15, .ref b16, .ref b17, .ref b18, .int (a13.1 4)])), (b15, .inl (G.2.1 0, 9, .inl a13.2.1)), (b16, .inl (G.2.1 0, 12, .inl a13.2.2.1)), (b17, .inl (G.2.1 0, 12, .inl a13.2.2.2.1)), (b18, .inl (G.2.1 0, 12, .inl a13.2.2.2.2)), (q19, .inr (7, [.null, .int (0 : Int32)]))] H := hP
  have hD : va_D A [(ad_t, .inr (2, [.ref q12, .int (0 : Int32), .int (0 : Int32), .null, .int (0 : Int32), .int (0 : Int32), .int (0 : Int32), .int (0 : Int32)])), (q12, .inr (5, [.ref b15, .ref b16, .ref b17, .ref b18, .int (a13.1 4)])), (b15, .inl (G.2.1 0, 9, .inl a13.2.1)), (b16, .inl (G.2.1 0, 12, .inl a13.2.2.1)), (b17, .inl (G.2.1 0, 12, .inl a13.2.2.2.1)), (b18, .inl (G.2.1 0, 12, .inl a13.2.2.2.2)), (q19, .inr (7, [.null, .int (0 : Int32)]))] := hD
  refine lv_dup hx hb dX2_init_19 rfl ?_
  obtain ⟨a20, h21, hf⟩ := bn_some hf
  refine kEIN (tX7_init l G q19 a20 h21) ⟨hx, hb, hml, hown, hts⟩ n_mn_X2_20 q202 q99 q203 rfl okyX7_init ⟨Nat.le_of_ble_eq_true rfl, Nat.le_of_ble_eq_true rfl⟩ hP hD hG hS hA [6] [0, 1, 2, 3, 4, 5] rfl (wr := [(ad_t, .inr (2, [.ref q12, .int (0 : Int32), .int (0 : Int32), .null, .int (0 : Int32), .int (0 : Int32), .int (0 : Int32), .int (0 : Int32)])), (q12, .inr (5, [.ref b15, .ref b16, .ref b17, .ref b18, .int (a13.1 4)])), (b15, .inl (G.2.1 0, 9, .inl a13.2.1)), (b16, .inl (G.2.1 0, 12, .inl a13.2.2.1)), (b17, .inl (G.2.1 0, 12, .inl a13.2.2.2.1)), (b18, .inl (G.2.1 0, 12, .inl a13.2.2.2.2))]) rfl (by decide) hl.1 rfl (Nat.le_of_ble_eq_true rfl) dX2_init_20 ⟨Nat.le_of_ble_eq_true rfl, Nat.le_of_ble_eq_true rfl⟩ (fun r w H locs hR hP hD hS => ?_)
  obtain ⟨rfl, b22, rfl⟩ := hR
  have hP : va_P G.1 vwCl [(ad_t, .inr (2, [.ref q12, .int (0 : Int32), .int (0 : Int32), .null, .int (0 : Int32), .int (0 : Int32), .int (0 : Int32), .int (0 : Int32)])), (q12, .inr (5, [.ref b15, .ref b16, .ref b17, .ref b18, .int (a13.1 4)])), (b15, .inl (G.2.1 0, 9, .inl a13.2.1)), (b16, .inl (G.2.1 0, 12, .inl a13.2.2.1)), (b17, .inl (G.2.1 0, 12, .inl a13.2.2.2.1)), (b18, .inl (G.2.1 0, 12, .inl a13.2.2.2.2)), (q19, .inr (7, [.ref b22, .int (a20.1 1)])), (b22, .inl (G.2.1 1, 300, .inl a20.2))] H := hP
  have hD : va_D A [(ad_t, .inr (2, [.ref q12, .int (0 : Int32), .int (0 : Int32), .null, .int (0 : Int32), .int (0 : Int32), .int (0 : Int32), .int (0 : Int32)])), (q12, .inr (5, [.ref b15, .ref b16, .ref b17, .ref b18, .int (a13.1 4)])), (b15, .inl (G.2.1 0, 9, .inl a13.2.1)), (b16, .inl (G.2.1 0, 12, .inl a13.2.2.1)), (b17, .inl (G.2.1 0, 12, .inl a13.2.2.2.1)), (b18, .inl (G.2.1 0, 12, .inl a13.2.2.2.2)), (q19, .inr (7, [.ref b22, .int (a20.1 1)])), (b22, .inl (G.2.1 1, 300, .inl a20.2))] := hD
  refine W.eq (g2 := F0 m 23 ls [.ref q19, .ref ad_t]) rfl ?_
  refine va_putF (D := G.1) (cl := vwCl) (ci := 2) (v := .ref q19) (ty := tyX2 3) (C := RX2) (T := TX2) (N := 8) hx hb hts inG2 tyX2 tyX2_ok nmX2 hown hK hP hD hS 0 rfl rfl 3 (Nat.le_of_ble_eq_true rfl) (hts _ q426) (fun _ h9 => h9) rfl hnm rfl (tyX2_ok 3 (Nat.le_of_ble_eq_true rfl)) rfl rfl (Nat.le_of_ble_eq_true rfl) dX2_init_23 (fun H locs hP hD hS => ?_)
  have hP : va_P G.1 vwCl [(ad_t, .inr (2, [.ref q12, .int (0 : Int32), .int (0 : Int32), .ref q19, .int (0 : Int32), .int (0 : Int32), .int (0 : Int32), .int (0 : Int32)])), (q12, .inr (5, [.ref b15, .ref b16, .ref b17, .ref b18, .int (a13.1 4)])), (b15, .inl (G.2.1 0, 9, .inl a13.2.1)), (b16, .inl (G.2.1 0, 12, .inl a13.2.2.1)), (b17, .inl (G.2.1 0, 12, .inl a13.2.2.2.1)), (b18, .inl (G.2.1 0, 12, .inl a13.2.2.2.2)), (q19, .inr (7, [.ref b22, .int (a20.1 1)])), (b22, .inl (G.2.1 1, 300, .inl a20.2))] H := hP
  have hD : va_D A [(ad_t, .inr (2, [.ref q12, .int (0 : Int32), .int (0 : Int32), .ref q19, .int (0 : Int32), .int (0 : Int32), .int (0 : Int32), .int (0 : Int32)])), (q12, .inr (5, [.ref b15, .ref b16, .ref b17, .ref b18, .int (a13.1 4)])), (b15, .inl (G.2.1 0, 9, .inl a13.2.1)), (b16, .inl (G.2.1 0, 12, .inl a13.2.2.1)), (b17, .inl (G.2.1 0, 12, .inl a13.2.2.2.1)), (b18, .inl (G.2.1 0, 12, .inl a13.2.2.2.2)), (q19, .inr (7, [.ref b22, .int (a20.1 1)])), (b22, .inl (G.2.1 1, 300, .inl a20.2))] := hD
  have hf := Option.some.inj hf
  subst hf
  exact eRetV hx hb hr hlocks hP hD hS ⟨rfl, q12, b15, b16, b17, b18, q19, b22, rfl⟩ dX2_init_26
