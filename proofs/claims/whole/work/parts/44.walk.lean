def fX4_make (tI : Nat → Int32) (t_sizes : Nat → Int32) (p0 : Nat → Int32) (p1 : Int32) (p2 : Int32) : Option (Bool × (Nat → Int32) × (Nat → Int32)) :=
  (if p2 = 0 then some (false, tI, t_sizes) else bn (fX10_canBe (2 : Int32) p2) fun a2 => (if (bi a2) = 0 then some (false, tI, t_sizes) else (if (p1 >>> ((fX10_log p2) &&& 31)) < (8 : Int32) then some (false, (upd (upd tI 1 (p1 >>> ((fX10_log p2) &&& 31))) 6 (fX10_log p2)), t_sizes) else (if (p1 >>> ((fX10_log p2) &&& 31)) ≤ (512 : Int32) then bn (fX4_chooseStages (upd (upd (upd (upd (upd (upd tI 1 (p1 >>> ((fX10_log p2) &&& 31))) 2 ((p0 1) * p2)) 3 (((p1 >>> ((fX10_log p2) &&& 31)) + (p0 3)) + (1 : Int32))) 4 ((((p0 1) * p2) + (p0 4)) + (1 : Int32))) 5 (fX10_log (p1 >>> ((fX10_log p2) &&& 31)))) 6 (fX10_log p2))) fun a7 => bn (fX4_sizeStages a7 t_sizes) fun a9 => gd (gi ((a7 9) - (1 : Int32)) 8) (bn (fX4_mostPulls (upd (upd (upd (upd (upd a7 12 ((((a7 4) * (p0 5)) + ((12 : Int32) * (a7 5))) + (a9 ((a7 9) - (1 : Int32)).toNatClampNeg))) 13 ((((a7 3) * (p0 6)) + (30 : Int32)) + ((8 : Int32) * (a7 6)))) 14 (((a7 4) * (a7 4)) / (20 : Int32))) 15 ((3 : Int32) * (a7 3))) 16 ((20 : Int32) + ((5 : Int32) * (a7 6)))) (p0 7)) fun a12 => some (true, (upd (upd (upd (upd (upd (upd a7 12 ((((a7 4) * (p0 5)) + ((12 : Int32) * (a7 5))) + (a9 ((a7 9) - (1 : Int32)).toNatClampNeg))) 13 ((((a7 3) * (p0 6)) + (30 : Int32)) + ((8 : Int32) * (a7 6)))) 14 (((a7 4) * (a7 4)) / (20 : Int32))) 15 ((3 : Int32) * (a7 3))) 16 ((20 : Int32) + ((5 : Int32) * (a7 6)))) 17 a12), a9)) else some (false, (upd (upd tI 1 (p1 >>> ((fX10_log p2) &&& 31))) 6 (fX10_log p2)), t_sizes)))))
set_option maxRecDepth 100000 in
set_option maxHeartbeats 4000000 in
theorem tX4_make (l : Launch) (G : gG) (ad_t ad_t_sizes ad_p0 : Nat) (tI : Nat → Int32) (t_sizes : Nat → Int32) (p0 : Nat → Int32) (p1 : Int32) (p2 : Int32) (o : Bool × (Nat → Int32) × (Nat → Int32)) (hf : fX4_make tI t_sizes p0 p1 p2 = some o) : mE G l yX4_make cX4_make 4 (some .boolean) 2 50 0 0 [.ref ad_t, .ref ad_p0, .int p1, .int p2] [(ad_t, .inr (4, [.ref ad_t_sizes, .int (tI 1), .int (tI 2), .int (tI 3), .int (tI 4), .int (tI 5), .int (tI 6), .int (tI 7), .int (tI 8), .int (tI 9), .int (tI 10), .int (tI 11), .int (tI 12), .int (tI 13), .int (tI 14), .int (tI 15), .int (tI 16), .int (tI 17)])), (ad_t_sizes, .inl (G.2.1 0, 8, .inl t_sizes)), (ad_p0, .inl (G.2.1 0, 9, .inl p0))] (fun r w => r = (some (.int (bi o.1))) ∧ w = [(ad_t, .inr (4, [.ref ad_t_sizes, .int (o.2.1 1), .int (o.2.1 2), .int (o.2.1 3), .int (o.2.1 4), .int (o.2.1 5), .int (o.2.1 6), .int (o.2.1 7), .int (o.2.1 8), .int (o.2.1 9), .int (o.2.1 10), .int (o.2.1 11), .int (o.2.1 12), .int (o.2.1 13), .int (o.2.1 14), .int (o.2.1 15), .int (o.2.1 16), .int (o.2.1 17)])), (ad_t_sizes, .inl (G.2.1 0, 8, .inl o.2.2)), (ad_p0, .inl (G.2.1 0, 9, .inl p0))]) := by
  refine mE_of (by decide) (Nat.le_of_ble_eq_true rfl) ?_
  intro p e s m below meth cd ls A hx hb hml hown hts hr hlocks hnm hl hA hP hD hS hG
  have hK := hG.1
  have hown : s.vm.findClass RX4 = some m.cls := hown
  have hl : lv_has ls 4 [(0, .ref ad_t), (1, .ref ad_p0), (2, .int p1), (3, .int p2)] := hl
  have hS := hS
  unfold fX4_make at hf
  obtain ⟨H, locs, eH, eL⟩ : ∃ (H : Heap) (locs : List Loc), H = s.heap ∧ locs = [] := ⟨_, _, rfl, rfl⟩
  have hP : va_P G.1 vwCl [(ad_t, .inr (4, [.ref ad_t_sizes, .int (tI 1), .int (tI 2), .int (tI 3), .int (tI 4), .int (tI 5), .int (tI 6), .int (tI 7), .int (tI 8), .int (tI 9), .int (tI 10), .int (tI 11), .int (tI 12), .int (tI 13), .int (tI 14), .int (tI 15), .int (tI 16), .int (tI 17)])), (ad_t_sizes, .inl (G.2.1 0, 8, .inl t_sizes)), (ad_p0, .inl (G.2.1 0, 9, .inl p0))] H := eH ▸ hP
  have hS : va_S A s.heap H locs := by rw [eH, eL]; exact hS
  suffices hgo : wG p l e 2 50 s m [.ref ad_t, .ref ad_p0, .int p1, .int p2] below meth cd H locs (eQ G A (fun r w => r = (some (.int (bi o.1))) ∧ w = [(ad_t, .inr (4, [.ref ad_t_sizes, .int (o.2.1 1), .int (o.2.1 2), .int (o.2.1 3), .int (o.2.1 4), .int (o.2.1 5), .int (o.2.1 6), .int (o.2.1 7), .int (o.2.1 8), .int (o.2.1 9), .int (o.2.1 10), .int (o.2.1 11), .int (o.2.1 12), .int (o.2.1 13), .int (o.2.1 14), .int (o.2.1 15), .int (o.2.1 16), .int (o.2.1 17)])), (ad_t_sizes, .inl (G.2.1 0, 8, .inl o.2.2)), (ad_p0, .inl (G.2.1 0, 9, .inl p0))])) A (F0 m 0 ls []) by rw [eH, eL] at hgo; exact hgo
  clear eH eL
  refine lv_iload_n hx hb dX4_make_0 rfl (lv_at hl 3 rfl) ?_
  refine lv_if_eq (tgt := 12) hx hb dX4_make_1 (by decide) (fun c14 => ?_) (fun c14 => ?_)
  · have hf := if_t hf c14
    refine lv_iconst (v := 0) hx hb dX4_make_12 (by decide) ?_
    have hf := Option.some.inj hf
    subst hf
    exact eRetZ (v := false) hx hb hr hlocks hP hD hS ⟨rfl, rfl⟩ dX4_make_13
  · have hf := if_f hf c14
    refine lv_iconst (v := 2) hx hb dX4_make_4 (by decide) ?_
    refine lv_iload_n hx hb dX4_make_5 rfl (lv_at hl 3 rfl) ?_
    obtain ⟨a15, h16, hf⟩ := bn_some hf
    refine kPSN (tX10_canBe l G (2 : Int32) p2 a15 h16) ⟨hx, hb, hml, hown, hts⟩ n_mn_X4_15 q480 q94 q481 okyX10_canBe ⟨Nat.le_of_ble_eq_true rfl, Nat.le_of_ble_eq_true rfl⟩ hP hG hS [] rfl hl.1 rfl (Nat.le_of_ble_eq_true rfl) dX4_make_6 ⟨Nat.zero_le _, Nat.zero_le _⟩ (fun locs hS => ?_)
    refine W.eq (g2 := F0 m 9 ls [.int (bi a15)]) rfl ?_
    refine lv_if_ne (tgt := 14) hx hb dX4_make_9 (by decide) (fun c17 => ?_) (fun c17 => ?_)
    · have hf := if_f hf c17
      refine lv_aload_n hx hb dX4_make_14 rfl (lv_at hl 0 rfl) ?_
      refine lv_iload_n hx hb dX4_make_15 rfl (lv_at hl 3 rfl) ?_
      refine kPSN (tX10_log l G p2 _ rfl) ⟨hx, hb, hml, hown, hts⟩ n_mn_X4_19 q487 q94 q488 okyX10_log ⟨Nat.le_of_ble_eq_true rfl, Nat.le_of_ble_eq_true rfl⟩ hP hG hS [] rfl hl.1 rfl (Nat.le_of_ble_eq_true rfl) dX4_make_16 ⟨Nat.zero_le _, Nat.zero_le _⟩ (fun locs hS => ?_)
      refine W.eq (g2 := F0 m 19 ls [.int (fX10_log p2), .ref ad_t]) rfl ?_
      refine va_put (D := G.1) (cl := vwCl) (ci := 4) (v := .int (fX10_log p2)) (ty := .int) (C := RX4) (T := TX4) (N := 18) hx hb hts inG4 tyX4 tyX4_ok nmX4 hown hK hP hD hS 0 rfl rfl 6 (Nat.le_of_ble_eq_true rfl) (hts _ q354) (fun _ h9 => h9) rfl (tyX4_ok 6 (Nat.le_of_ble_eq_true rfl)) rfl rfl (Nat.le_of_ble_eq_true rfl) dX4_make_19 (fun H locs hP hD hS => ?_)
      have hP : va_P G.1 vwCl [(ad_t, .inr (4, [.ref ad_t_sizes, .int (tI 1), .int (tI 2), .int (tI 3), .int (tI 4), .int (tI 5), .int (fX10_log p2), .int (tI 7), .int (tI 8), .int (tI 9), .int (tI 10), .int (tI 11), .int (tI 12), .int (tI 13), .int (tI 14), .int (tI 15), .int (tI 16), .int (tI 17)])), (ad_t_sizes, .inl (G.2.1 0, 8, .inl t_sizes)), (ad_p0, .inl (G.2.1 0, 9, .inl p0))] H := hP
      have hD : va_D A [(ad_t, .inr (4, [.ref ad_t_sizes, .int (tI 1), .int (tI 2), .int (tI 3), .int (tI 4), .int (tI 5), .int (fX10_log p2), .int (tI 7), .int (tI 8), .int (tI 9), .int (tI 10), .int (tI 11), .int (tI 12), .int (tI 13), .int (tI 14), .int (tI 15), .int (tI 16), .int (tI 17)])), (ad_t_sizes, .inl (G.2.1 0, 8, .inl t_sizes)), (ad_p0, .inl (G.2.1 0, 9, .inl p0))] := hD
      refine lv_aload_n hx hb dX4_make_22 rfl (lv_at hl 0 rfl) ?_
      refine lv_iload_n hx hb dX4_make_23 rfl (lv_at hl 2 rfl) ?_
      refine lv_aload_n hx hb dX4_make_24 rfl (lv_at hl 0 rfl) ?_
      refine va_get (D := G.1) (cl := vwCl) (ci := 4) (v := .int (fX10_log p2)) (C := RX4) (T := TX4) (N := 18) hx hb hts inG4 hown hK hP 0 rfl rfl 6 (Nat.le_of_ble_eq_true rfl) (hts _ q354) (fun _ h9 => h9) rfl dX4_make_25 ?_
      refine lv_ishr hx hb dX4_make_28 ?_
      refine va_put (D := G.1) (cl := vwCl) (ci := 4) (v := .int (p1 >>> ((fX10_log p2) &&& 31))) (ty := .int) (C := RX4) (T := TX4) (N := 18) hx hb hts inG4 tyX4 tyX4_ok nmX4 hown hK hP hD hS 0 rfl rfl 1 (Nat.le_of_ble_eq_true rfl) (hts _ q347) (fun _ h9 => h9) rfl (tyX4_ok 1 (Nat.le_of_ble_eq_true rfl)) rfl rfl (Nat.le_of_ble_eq_true rfl) dX4_make_29 (fun H locs hP hD hS => ?_)
      have hP : va_P G.1 vwCl [(ad_t, .inr (4, [.ref ad_t_sizes, .int (p1 >>> ((fX10_log p2) &&& 31)), .int (tI 2), .int (tI 3), .int (tI 4), .int (tI 5), .int (fX10_log p2), .int (tI 7), .int (tI 8), .int (tI 9), .int (tI 10), .int (tI 11), .int (tI 12), .int (tI 13), .int (tI 14), .int (tI 15), .int (tI 16), .int (tI 17)])), (ad_t_sizes, .inl (G.2.1 0, 8, .inl t_sizes)), (ad_p0, .inl (G.2.1 0, 9, .inl p0))] H := hP
      have hD : va_D A [(ad_t, .inr (4, [.ref ad_t_sizes, .int (p1 >>> ((fX10_log p2) &&& 31)), .int (tI 2), .int (tI 3), .int (tI 4), .int (tI 5), .int (fX10_log p2), .int (tI 7), .int (tI 8), .int (tI 9), .int (tI 10), .int (tI 11), .int (tI 12), .int (tI 13), .int (tI 14), .int (tI 15), .int (tI 16), .int (tI 17)])), (ad_t_sizes, .inl (G.2.1 0, 8, .inl t_sizes)), (ad_p0, .inl (G.2.1 0, 9, .inl p0))] := hD
      refine lv_aload_n hx hb dX4_make_32 rfl (lv_at hl 0 rfl) ?_
      refine va_get (D := G.1) (cl := vwCl) (ci := 4) (v := .int (p1 >>> ((fX10_log p2) &&& 31))) (C := RX4) (T := TX4) (N := 18) hx hb hts inG4 hown hK hP 0 rfl rfl 1 (Nat.le_of_ble_eq_true rfl) (hts _ q347) (fun _ h9 => h9) rfl dX4_make_33 ?_
      refine lv_bipush (v := 8) hx hb dX4_make_36 (by decide) ?_
      refine lv_icmp_lt (tgt := 51) hx hb dX4_make_38 (by decide) (fun c18 => ?_) (fun c18 => ?_)
      · have hf := if_t hf c18
        refine lv_iconst (v := 0) hx hb dX4_make_51 (by decide) ?_
        have hf := Option.some.inj hf
        subst hf
        exact eRetZ (v := false) hx hb hr hlocks hP hD hS ⟨rfl, rfl⟩ dX4_make_52
      · have hf := if_f hf c18
        refine lv_aload_n hx hb dX4_make_41 rfl (lv_at hl 0 rfl) ?_
        refine va_get (D := G.1) (cl := vwCl) (ci := 4) (v := .int (p1 >>> ((fX10_log p2) &&& 31))) (C := RX4) (T := TX4) (N := 18) hx hb hts inG4 hown hK hP 0 rfl rfl 1 (Nat.le_of_ble_eq_true rfl) (hts _ q347) (fun _ h9 => h9) rfl dX4_make_42 ?_
        refine lv_sipush (v := 512) hx hb dX4_make_45 (by decide) ?_
        refine lv_icmp_le (tgt := 53) hx hb dX4_make_48 (by decide) (fun c19 => ?_) (fun c19 => ?_)
        · have hf := if_t hf c19
          refine lv_aload_n hx hb dX4_make_53 rfl (lv_at hl 0 rfl) ?_
          refine lv_aload_n hx hb dX4_make_54 rfl (lv_at hl 0 rfl) ?_
          refine va_get (D := G.1) (cl := vwCl) (ci := 4) (v := .int (p1 >>> ((fX10_log p2) &&& 31))) (C := RX4) (T := TX4) (N := 18) hx hb hts inG4 hown hK hP 0 rfl rfl 1 (Nat.le_of_ble_eq_true rfl) (hts _ q347) (fun _ h9 => h9) rfl dX4_make_55 ?_
          refine kPSN (tX10_log l G (p1 >>> ((fX10_log p2) &&& 31)) _ rfl) ⟨hx, hb, hml, hown, hts⟩ n_mn_X4_19 q487 q94 q488 okyX10_log ⟨Nat.le_of_ble_eq_true rfl, Nat.le_of_ble_eq_true rfl⟩ hP hG hS [] rfl hl.1 rfl (Nat.le_of_ble_eq_true rfl) dX4_make_58 ⟨Nat.zero_le _, Nat.zero_le _⟩ (fun locs hS => ?_)
          refine W.eq (g2 := F0 m 61 ls [.int (fX10_log (p1 >>> ((fX10_log p2) &&& 31))), .ref ad_t]) rfl ?_
          refine va_put (D := G.1) (cl := vwCl) (ci := 4) (v := .int (fX10_log (p1 >>> ((fX10_log p2) &&& 31)))) (ty := .int) (C := RX4) (T := TX4) (N := 18) hx hb hts inG4 tyX4 tyX4_ok nmX4 hown hK hP hD hS 0 rfl rfl 5 (Nat.le_of_ble_eq_true rfl) (hts _ q353) (fun _ h9 => h9) rfl (tyX4_ok 5 (Nat.le_of_ble_eq_true rfl)) rfl rfl (Nat.le_of_ble_eq_true rfl) dX4_make_61 (fun H locs hP hD hS => ?_)
          have hP : va_P G.1 vwCl [(ad_t, .inr (4, [.ref ad_t_sizes, .int (p1 >>> ((fX10_log p2) &&& 31)), .int (tI 2), .int (tI 3), .int (tI 4), .int (fX10_log (p1 >>> ((fX10_log p2) &&& 31))), .int (fX10_log p2), .int (tI 7), .int (tI 8), .int (tI 9), .int (tI 10), .int (tI 11), .int (tI 12), .int (tI 13), .int (tI 14), .int (tI 15), .int (tI 16), .int (tI 17)])), (ad_t_sizes, .inl (G.2.1 0, 8, .inl t_sizes)), (ad_p0, .inl (G.2.1 0, 9, .inl p0))] H := hP
          have hD : va_D A [(ad_t, .inr (4, [.ref ad_t_sizes, .int (p1 >>> ((fX10_log p2) &&& 31)), .int (tI 2), .int (tI 3), .int (tI 4), .int (fX10_log (p1 >>> ((fX10_log p2) &&& 31))), .int (fX10_log p2), .int (tI 7), .int (tI 8), .int (tI 9), .int (tI 10), .int (tI 11), .int (tI 12), .int (tI 13), .int (tI 14), .int (tI 15), .int (tI 16), .int (tI 17)])), (ad_t_sizes, .inl (G.2.1 0, 8, .inl t_sizes)), (ad_p0, .inl (G.2.1 0, 9, .inl p0))] := hD
          refine lv_aload_n hx hb dX4_make_64 rfl (lv_at hl 0 rfl) ?_
          refine lv_aload_n hx hb dX4_make_65 rfl (lv_at hl 1 rfl) ?_
          refine lv_iconst (v := 1) hx hb dX4_make_66 (by decide) ?_
          refine va_iald (D := G.1) (cl := vwCl) hx hb hK hP 2 0 rfl rfl (vin (by decide)) dX4_make_67 ?_
          refine lv_ti (v := (p0 1)) (congrArg (p0) (tn 1)) ?_
          refine lv_iload_n hx hb dX4_make_68 rfl (lv_at hl 3 rfl) ?_
          refine lv_imul hx hb dX4_make_69 ?_
          refine va_put (D := G.1) (cl := vwCl) (ci := 4) (v := .int ((p0 1) * p2)) (ty := .int) (C := RX4) (T := TX4) (N := 18) hx hb hts inG4 tyX4 tyX4_ok nmX4 hown hK hP hD hS 0 rfl rfl 2 (Nat.le_of_ble_eq_true rfl) (hts _ q349) (fun _ h9 => h9) rfl (tyX4_ok 2 (Nat.le_of_ble_eq_true rfl)) rfl rfl (Nat.le_of_ble_eq_true rfl) dX4_make_70 (fun H locs hP hD hS => ?_)
          have hP : va_P G.1 vwCl [(ad_t, .inr (4, [.ref ad_t_sizes, .int (p1 >>> ((fX10_log p2) &&& 31)), .int ((p0 1) * p2), .int (tI 3), .int (tI 4), .int (fX10_log (p1 >>> ((fX10_log p2) &&& 31))), .int (fX10_log p2), .int (tI 7), .int (tI 8), .int (tI 9), .int (tI 10), .int (tI 11), .int (tI 12), .int (tI 13), .int (tI 14), .int (tI 15), .int (tI 16), .int (tI 17)])), (ad_t_sizes, .inl (G.2.1 0, 8, .inl t_sizes)), (ad_p0, .inl (G.2.1 0, 9, .inl p0))] H := hP
          have hD : va_D A [(ad_t, .inr (4, [.ref ad_t_sizes, .int (p1 >>> ((fX10_log p2) &&& 31)), .int ((p0 1) * p2), .int (tI 3), .int (tI 4), .int (fX10_log (p1 >>> ((fX10_log p2) &&& 31))), .int (fX10_log p2), .int (tI 7), .int (tI 8), .int (tI 9), .int (tI 10), .int (tI 11), .int (tI 12), .int (tI 13), .int (tI 14), .int (tI 15), .int (tI 16), .int (tI 17)])), (ad_t_sizes, .inl (G.2.1 0, 8, .inl t_sizes)), (ad_p0, .inl (G.2.1 0, 9, .inl p0))] := hD
          refine lv_aload_n hx hb dX4_make_73 rfl (lv_at hl 0 rfl) ?_
          refine lv_aload_n hx hb dX4_make_74 rfl (lv_at hl 0 rfl) ?_
          refine va_get (D := G.1) (cl := vwCl) (ci := 4) (v := .int (p1 >>> ((fX10_log p2) &&& 31))) (C := RX4) (T := TX4) (N := 18) hx hb hts inG4 hown hK hP 0 rfl rfl 1 (Nat.le_of_ble_eq_true rfl) (hts _ q347) (fun _ h9 => h9) rfl dX4_make_75 ?_
          refine lv_aload_n hx hb dX4_make_78 rfl (lv_at hl 1 rfl) ?_
          refine lv_iconst (v := 3) hx hb dX4_make_79 (by decide) ?_
          refine va_iald (D := G.1) (cl := vwCl) hx hb hK hP 2 0 rfl rfl (vin (by decide)) dX4_make_80 ?_
          refine lv_ti (v := (p0 3)) (congrArg (p0) (tn 3)) ?_
          refine lv_iadd hx hb dX4_make_81 ?_
          refine lv_iconst (v := 1) hx hb dX4_make_82 (by decide) ?_
          refine lv_iadd hx hb dX4_make_83 ?_
          refine va_put (D := G.1) (cl := vwCl) (ci := 4) (v := .int (((p1 >>> ((fX10_log p2) &&& 31)) + (p0 3)) + (1 : Int32))) (ty := .int) (C := RX4) (T := TX4) (N := 18) hx hb hts inG4 tyX4 tyX4_ok nmX4 hown hK hP hD hS 0 rfl rfl 3 (Nat.le_of_ble_eq_true rfl) (hts _ q351) (fun _ h9 => h9) rfl (tyX4_ok 3 (Nat.le_of_ble_eq_true rfl)) rfl rfl (Nat.le_of_ble_eq_true rfl) dX4_make_84 (fun H locs hP hD hS => ?_)
          have hP : va_P G.1 vwCl [(ad_t, .inr (4, [.ref ad_t_sizes, .int (p1 >>> ((fX10_log p2) &&& 31)), .int ((p0 1) * p2), .int (((p1 >>> ((fX10_log p2) &&& 31)) + (p0 3)) + (1 : Int32)), .int (tI 4), .int (fX10_log (p1 >>> ((fX10_log p2) &&& 31))), .int (fX10_log p2), .int (tI 7), .int (tI 8), .int (tI 9), .int (tI 10), .int (tI 11), .int (tI 12), .int (tI 13), .int (tI 14), .int (tI 15), .int (tI 16), .int (tI 17)])), (ad_t_sizes, .inl (G.2.1 0, 8, .inl t_sizes)), (ad_p0, .inl (G.2.1 0, 9, .inl p0))] H := hP
          have hD : va_D A [(ad_t, .inr (4, [.ref ad_t_sizes, .int (p1 >>> ((fX10_log p2) &&& 31)), .int ((p0 1) * p2), .int (((p1 >>> ((fX10_log p2) &&& 31)) + (p0 3)) + (1 : Int32)), .int (tI 4), .int (fX10_log (p1 >>> ((fX10_log p2) &&& 31))), .int (fX10_log p2), .int (tI 7), .int (tI 8), .int (tI 9), .int (tI 10), .int (tI 11), .int (tI 12), .int (tI 13), .int (tI 14), .int (tI 15), .int (tI 16), .int (tI 17)])), (ad_t_sizes, .inl (G.2.1 0, 8, .inl t_sizes)), (ad_p0, .inl (G.2.1 0, 9, .inl p0))] := hD
          refine lv_aload_n hx hb dX4_make_87 rfl (lv_at hl 0 rfl) ?_
          refine lv_aload_n hx hb dX4_make_88 rfl (lv_at hl 0 rfl) ?_
          refine va_get (D := G.1) (cl := vwCl) (ci := 4) (v := .int ((p0 1) * p2)) (C := RX4) (T := TX4) (N := 18) hx hb hts inG4 hown hK hP 0 rfl rfl 2 (Nat.le_of_ble_eq_true rfl) (hts _ q349) (fun _ h9 => h9) rfl dX4_make_89 ?_
          refine lv_aload_n hx hb dX4_make_92 rfl (lv_at hl 1 rfl) ?_
          refine lv_iconst (v := 4) hx hb dX4_make_93 (by decide) ?_
          refine va_iald (D := G.1) (cl := vwCl) hx hb hK hP 2 0 rfl rfl (vin (by decide)) dX4_make_94 ?_
          refine lv_ti (v := (p0 4)) (congrArg (p0) (tn 4)) ?_
          refine lv_iadd hx hb dX4_make_95 ?_
          refine lv_iconst (v := 1) hx hb dX4_make_96 (by decide) ?_
          refine lv_iadd hx hb dX4_make_97 ?_
          refine va_put (D := G.1) (cl := vwCl) (ci := 4) (v := .int ((((p0 1) * p2) + (p0 4)) + (1 : Int32))) (ty := .int) (C := RX4) (T := TX4) (N := 18) hx hb hts inG4 tyX4 tyX4_ok nmX4 hown hK hP hD hS 0 rfl rfl 4 (Nat.le_of_ble_eq_true rfl) (hts _ q352) (fun _ h9 => h9) rfl (tyX4_ok 4 (Nat.le_of_ble_eq_true rfl)) rfl rfl (Nat.le_of_ble_eq_true rfl) dX4_make_98 (fun H locs hP hD hS => ?_)
          have hP : va_P G.1 vwCl [(ad_t, .inr (4, [.ref ad_t_sizes, .int (p1 >>> ((fX10_log p2) &&& 31)), .int ((p0 1) * p2), .int (((p1 >>> ((fX10_log p2) &&& 31)) + (p0 3)) + (1 : Int32)), .int ((((p0 1) * p2) + (p0 4)) + (1 : Int32)), .int (fX10_log (p1 >>> ((fX10_log p2) &&& 31))), .int (fX10_log p2), .int (tI 7), .int (tI 8), .int (tI 9), .int (tI 10), .int (tI 11), .int (tI 12), .int (tI 13), .int (tI 14), .int (tI 15), .int (tI 16), .int (tI 17)])), (ad_t_sizes, .inl (G.2.1 0, 8, .inl t_sizes)), (ad_p0, .inl (G.2.1 0, 9, .inl p0))] H := hP
          have hD : va_D A [(ad_t, .inr (4, [.ref ad_t_sizes, .int (p1 >>> ((fX10_log p2) &&& 31)), .int ((p0 1) * p2), .int (((p1 >>> ((fX10_log p2) &&& 31)) + (p0 3)) + (1 : Int32)), .int ((((p0 1) * p2) + (p0 4)) + (1 : Int32)), .int (fX10_log (p1 >>> ((fX10_log p2) &&& 31))), .int (fX10_log p2), .int (tI 7), .int (tI 8), .int (tI 9), .int (tI 10), .int (tI 11), .int (tI 12), .int (tI 13), .int (tI 14), .int (tI 15), .int (tI 16), .int (tI 17)])), (ad_t_sizes, .inl (G.2.1 0, 8, .inl t_sizes)), (ad_p0, .inl (G.2.1 0, 9, .inl p0))] := hD
          refine lv_aload_n hx hb dX4_make_101 rfl (lv_at hl 0 rfl) ?_
          obtain ⟨a20, h21, hf⟩ := bn_some hf
          refine kEV (tX4_chooseStages l G ad_t ad_t_sizes (upd (upd (upd (upd (upd (upd tI 1 (p1 >>> ((fX10_log p2) &&& 31))) 2 ((p0 1) * p2)) 3 (((p1 >>> ((fX10_log p2) &&& 31)) + (p0 3)) + (1 : Int32))) 4 ((((p0 1) * p2) + (p0 4)) + (1 : Int32))) 5 (fX10_log (p1 >>> ((fX10_log p2) &&& 31)))) 6 (fX10_log p2)) a20 h21) ⟨hx, hb, hml, hown, hts⟩ q495 q497 q2 q103 q498 okyX4_chooseStages ⟨Nat.le_of_ble_eq_true rfl, Nat.le_of_ble_eq_true rfl⟩ hP hD hG hS hA [0] [1, 2] rfl (wr := [(ad_t_sizes, .inl (G.2.1 0, 8, .inl t_sizes)), (ad_p0, .inl (G.2.1 0, 9, .inl p0))]) rfl (by decide) 0 rfl rfl hl.1 rfl (Nat.le_of_ble_eq_true rfl) dX4_make_102 ⟨Nat.zero_le _, Nat.zero_le _⟩ (fun r w H locs hR hP hD hS => ?_)
          obtain ⟨rfl, rfl⟩ := hR
          have hP : va_P G.1 vwCl [(ad_t_sizes, .inl (G.2.1 0, 8, .inl t_sizes)), (ad_p0, .inl (G.2.1 0, 9, .inl p0)), (ad_t, .inr (4, [.ref ad_t_sizes, .int (a20 1), .int (a20 2), .int (a20 3), .int (a20 4), .int (a20 5), .int (a20 6), .int (a20 7), .int (a20 8), .int (a20 9), .int (a20 10), .int (a20 11), .int (a20 12), .int (a20 13), .int (a20 14), .int (a20 15), .int (a20 16), .int (a20 17)]))] H := hP
          have hD : va_D A [(ad_t_sizes, .inl (G.2.1 0, 8, .inl t_sizes)), (ad_p0, .inl (G.2.1 0, 9, .inl p0)), (ad_t, .inr (4, [.ref ad_t_sizes, .int (a20 1), .int (a20 2), .int (a20 3), .int (a20 4), .int (a20 5), .int (a20 6), .int (a20 7), .int (a20 8), .int (a20 9), .int (a20 10), .int (a20 11), .int (a20 12), .int (a20 13), .int (a20 14), .int (a20 15), .int (a20 16), .int (a20 17)]))] := hD
          refine W.eq (g2 := F0 m 105 ls []) rfl ?_
          refine lv_aload_n hx hb dX4_make_105 rfl (lv_at hl 0 rfl) ?_
          obtain ⟨a22, h23, hf⟩ := bn_some hf
          refine kEV (tX4_sizeStages l G ad_t ad_t_sizes a20 t_sizes a22 h23) ⟨hx, hb, hml, hown, hts⟩ q513 q515 q5 q103 q516 okyX4_sizeStages ⟨Nat.le_of_ble_eq_true rfl, Nat.le_of_ble_eq_true rfl⟩ hP hD hG hS hA [2, 0] [1] rfl (wr := [(ad_p0, .inl (G.2.1 0, 9, .inl p0))]) rfl (by decide) 2 rfl rfl hl.1 rfl (Nat.le_of_ble_eq_true rfl) dX4_make_106 ⟨Nat.zero_le _, Nat.zero_le _⟩ (fun r w H locs hR hP hD hS => ?_)
          obtain ⟨rfl, rfl⟩ := hR
          have hP : va_P G.1 vwCl [(ad_p0, .inl (G.2.1 0, 9, .inl p0)), (ad_t, .inr (4, [.ref ad_t_sizes, .int (a20 1), .int (a20 2), .int (a20 3), .int (a20 4), .int (a20 5), .int (a20 6), .int (a20 7), .int (a20 8), .int (a20 9), .int (a20 10), .int (a20 11), .int (a20 12), .int (a20 13), .int (a20 14), .int (a20 15), .int (a20 16), .int (a20 17)])), (ad_t_sizes, .inl (G.2.1 0, 8, .inl a22))] H := hP
          have hD : va_D A [(ad_p0, .inl (G.2.1 0, 9, .inl p0)), (ad_t, .inr (4, [.ref ad_t_sizes, .int (a20 1), .int (a20 2), .int (a20 3), .int (a20 4), .int (a20 5), .int (a20 6), .int (a20 7), .int (a20 8), .int (a20 9), .int (a20 10), .int (a20 11), .int (a20 12), .int (a20 13), .int (a20 14), .int (a20 15), .int (a20 16), .int (a20 17)])), (ad_t_sizes, .inl (G.2.1 0, 8, .inl a22))] := hD
          refine W.eq (g2 := F0 m 109 ls []) rfl ?_
          refine lv_aload_n hx hb dX4_make_109 rfl (lv_at hl 0 rfl) ?_
          refine lv_aload_n hx hb dX4_make_110 rfl (lv_at hl 0 rfl) ?_
          refine va_get (D := G.1) (cl := vwCl) (ci := 4) (v := .int (a20 4)) (C := RX4) (T := TX4) (N := 18) hx hb hts inG4 hown hK hP 1 rfl rfl 4 (Nat.le_of_ble_eq_true rfl) (hts _ q352) (fun _ h9 => h9) rfl dX4_make_111 ?_
          refine lv_aload_n hx hb dX4_make_114 rfl (lv_at hl 1 rfl) ?_
          refine lv_iconst (v := 5) hx hb dX4_make_115 (by decide) ?_
          refine va_iald (D := G.1) (cl := vwCl) hx hb hK hP 0 0 rfl rfl (vin (by decide)) dX4_make_116 ?_
          refine lv_ti (v := (p0 5)) (congrArg (p0) (tn 5)) ?_
          refine lv_imul hx hb dX4_make_117 ?_
          refine lv_bipush (v := 12) hx hb dX4_make_118 (by decide) ?_
          refine lv_aload_n hx hb dX4_make_120 rfl (lv_at hl 0 rfl) ?_
          refine va_get (D := G.1) (cl := vwCl) (ci := 4) (v := .int (a20 5)) (C := RX4) (T := TX4) (N := 18) hx hb hts inG4 hown hK hP 1 rfl rfl 5 (Nat.le_of_ble_eq_true rfl) (hts _ q353) (fun _ h9 => h9) rfl dX4_make_121 ?_
          refine lv_imul hx hb dX4_make_124 ?_
          refine lv_iadd hx hb dX4_make_125 ?_
          refine lv_aload_n hx hb dX4_make_126 rfl (lv_at hl 0 rfl) ?_
          refine va_get (D := G.1) (cl := vwCl) (ci := 4) (v := .ref ad_t_sizes) (C := RX4) (T := TX4) (N := 18) hx hb hts inG4 hown hK hP 1 rfl rfl 0 (Nat.le_of_ble_eq_true rfl) (hts _ q345) (fun _ h9 => h9) rfl dX4_make_127 ?_
          refine lv_aload_n hx hb dX4_make_130 rfl (lv_at hl 0 rfl) ?_
          refine va_get (D := G.1) (cl := vwCl) (ci := 4) (v := .int (a20 9)) (C := RX4) (T := TX4) (N := 18) hx hb hts inG4 hown hK hP 1 rfl rfl 9 (Nat.le_of_ble_eq_true rfl) (hts _ q357) (fun _ h9 => h9) rfl dX4_make_131 ?_
          refine lv_iconst (v := 1) hx hb dX4_make_134 (by decide) ?_
          refine lv_isub hx hb dX4_make_135 ?_
          obtain ⟨h24, hf⟩ := gd_some hf
          refine va_iald (D := G.1) (cl := vwCl) hx hb hK hP 2 0 rfl rfl (gi_in h24) dX4_make_136 ?_
          refine lv_iadd hx hb dX4_make_137 ?_
          refine va_put (D := G.1) (cl := vwCl) (ci := 4) (v := .int ((((a20 4) * (p0 5)) + ((12 : Int32) * (a20 5))) + (a22 ((a20 9) - (1 : Int32)).toNatClampNeg))) (ty := .int) (C := RX4) (T := TX4) (N := 18) hx hb hts inG4 tyX4 tyX4_ok nmX4 hown hK hP hD hS 1 rfl rfl 12 (Nat.le_of_ble_eq_true rfl) (hts _ q361) (fun _ h9 => h9) rfl (tyX4_ok 12 (Nat.le_of_ble_eq_true rfl)) rfl rfl (Nat.le_of_ble_eq_true rfl) dX4_make_138 (fun H locs hP hD hS => ?_)
          have hP : va_P G.1 vwCl [(ad_p0, .inl (G.2.1 0, 9, .inl p0)), (ad_t, .inr (4, [.ref ad_t_sizes, .int (a20 1), .int (a20 2), .int (a20 3), .int (a20 4), .int (a20 5), .int (a20 6), .int (a20 7), .int (a20 8), .int (a20 9), .int (a20 10), .int (a20 11), .int ((((a20 4) * (p0 5)) + ((12 : Int32) * (a20 5))) + (a22 ((a20 9) - (1 : Int32)).toNatClampNeg)), .int (a20 13), .int (a20 14), .int (a20 15), .int (a20 16), .int (a20 17)])), (ad_t_sizes, .inl (G.2.1 0, 8, .inl a22))] H := hP
          have hD : va_D A [(ad_p0, .inl (G.2.1 0, 9, .inl p0)), (ad_t, .inr (4, [.ref ad_t_sizes, .int (a20 1), .int (a20 2), .int (a20 3), .int (a20 4), .int (a20 5), .int (a20 6), .int (a20 7), .int (a20 8), .int (a20 9), .int (a20 10), .int (a20 11), .int ((((a20 4) * (p0 5)) + ((12 : Int32) * (a20 5))) + (a22 ((a20 9) - (1 : Int32)).toNatClampNeg)), .int (a20 13), .int (a20 14), .int (a20 15), .int (a20 16), .int (a20 17)])), (ad_t_sizes, .inl (G.2.1 0, 8, .inl a22))] := hD
          refine lv_aload_n hx hb dX4_make_141 rfl (lv_at hl 0 rfl) ?_
          refine lv_aload_n hx hb dX4_make_142 rfl (lv_at hl 0 rfl) ?_
          refine va_get (D := G.1) (cl := vwCl) (ci := 4) (v := .int (a20 3)) (C := RX4) (T := TX4) (N := 18) hx hb hts inG4 hown hK hP 1 rfl rfl 3 (Nat.le_of_ble_eq_true rfl) (hts _ q351) (fun _ h9 => h9) rfl dX4_make_143 ?_
          refine lv_aload_n hx hb dX4_make_146 rfl (lv_at hl 1 rfl) ?_
          refine lv_bipush (v := 6) hx hb dX4_make_147 (by decide) ?_
          refine va_iald (D := G.1) (cl := vwCl) hx hb hK hP 0 0 rfl rfl (vin (by decide)) dX4_make_149 ?_
          refine lv_ti (v := (p0 6)) (congrArg (p0) (tn 6)) ?_
          refine lv_imul hx hb dX4_make_150 ?_
          refine lv_bipush (v := 30) hx hb dX4_make_151 (by decide) ?_
          refine lv_iadd hx hb dX4_make_153 ?_
          refine lv_bipush (v := 8) hx hb dX4_make_154 (by decide) ?_
          refine lv_aload_n hx hb dX4_make_156 rfl (lv_at hl 0 rfl) ?_
          refine va_get (D := G.1) (cl := vwCl) (ci := 4) (v := .int (a20 6)) (C := RX4) (T := TX4) (N := 18) hx hb hts inG4 hown hK hP 1 rfl rfl 6 (Nat.le_of_ble_eq_true rfl) (hts _ q354) (fun _ h9 => h9) rfl dX4_make_157 ?_
          refine lv_imul hx hb dX4_make_160 ?_
          refine lv_iadd hx hb dX4_make_161 ?_
          refine va_put (D := G.1) (cl := vwCl) (ci := 4) (v := .int ((((a20 3) * (p0 6)) + (30 : Int32)) + ((8 : Int32) * (a20 6)))) (ty := .int) (C := RX4) (T := TX4) (N := 18) hx hb hts inG4 tyX4 tyX4_ok nmX4 hown hK hP hD hS 1 rfl rfl 13 (Nat.le_of_ble_eq_true rfl) (hts _ q364) (fun _ h9 => h9) rfl (tyX4_ok 13 (Nat.le_of_ble_eq_true rfl)) rfl rfl (Nat.le_of_ble_eq_true rfl) dX4_make_162 (fun H locs hP hD hS => ?_)
          have hP : va_P G.1 vwCl [(ad_p0, .inl (G.2.1 0, 9, .inl p0)), (ad_t, .inr (4, [.ref ad_t_sizes, .int (a20 1), .int (a20 2), .int (a20 3), .int (a20 4), .int (a20 5), .int (a20 6), .int (a20 7), .int (a20 8), .int (a20 9), .int (a20 10), .int (a20 11), .int ((((a20 4) * (p0 5)) + ((12 : Int32) * (a20 5))) + (a22 ((a20 9) - (1 : Int32)).toNatClampNeg)), .int ((((a20 3) * (p0 6)) + (30 : Int32)) + ((8 : Int32) * (a20 6))), .int (a20 14), .int (a20 15), .int (a20 16), .int (a20 17)])), (ad_t_sizes, .inl (G.2.1 0, 8, .inl a22))] H := hP
          have hD : va_D A [(ad_p0, .inl (G.2.1 0, 9, .inl p0)), (ad_t, .inr (4, [.ref ad_t_sizes, .int (a20 1), .int (a20 2), .int (a20 3), .int (a20 4), .int (a20 5), .int (a20 6), .int (a20 7), .int (a20 8), .int (a20 9), .int (a20 10), .int (a20 11), .int ((((a20 4) * (p0 5)) + ((12 : Int32) * (a20 5))) + (a22 ((a20 9) - (1 : Int32)).toNatClampNeg)), .int ((((a20 3) * (p0 6)) + (30 : Int32)) + ((8 : Int32) * (a20 6))), .int (a20 14), .int (a20 15), .int (a20 16), .int (a20 17)])), (ad_t_sizes, .inl (G.2.1 0, 8, .inl a22))] := hD
          refine lv_aload_n hx hb dX4_make_165 rfl (lv_at hl 0 rfl) ?_
          refine lv_aload_n hx hb dX4_make_166 rfl (lv_at hl 0 rfl) ?_
          refine va_get (D := G.1) (cl := vwCl) (ci := 4) (v := .int (a20 4)) (C := RX4) (T := TX4) (N := 18) hx hb hts inG4 hown hK hP 1 rfl rfl 4 (Nat.le_of_ble_eq_true rfl) (hts _ q352) (fun _ h9 => h9) rfl dX4_make_167 ?_
          refine lv_aload_n hx hb dX4_make_170 rfl (lv_at hl 0 rfl) ?_
          refine va_get (D := G.1) (cl := vwCl) (ci := 4) (v := .int (a20 4)) (C := RX4) (T := TX4) (N := 18) hx hb hts inG4 hown hK hP 1 rfl rfl 4 (Nat.le_of_ble_eq_true rfl) (hts _ q352) (fun _ h9 => h9) rfl dX4_make_171 ?_
          refine lv_imul hx hb dX4_make_174 ?_
          refine lv_bipush (v := 20) hx hb dX4_make_175 (by decide) ?_
          refine lv_idiv hx hb dX4_make_177 (by decide) ?_
          refine va_put (D := G.1) (cl := vwCl) (ci := 4) (v := .int (((a20 4) * (a20 4)) / (20 : Int32))) (ty := .int) (C := RX4) (T := TX4) (N := 18) hx hb hts inG4 tyX4 tyX4_ok nmX4 hown hK hP hD hS 1 rfl rfl 14 (Nat.le_of_ble_eq_true rfl) (hts _ q367) (fun _ h9 => h9) rfl (tyX4_ok 14 (Nat.le_of_ble_eq_true rfl)) rfl rfl (Nat.le_of_ble_eq_true rfl) dX4_make_178 (fun H locs hP hD hS => ?_)
          have hP : va_P G.1 vwCl [(ad_p0, .inl (G.2.1 0, 9, .inl p0)), (ad_t, .inr (4, [.ref ad_t_sizes, .int (a20 1), .int (a20 2), .int (a20 3), .int (a20 4), .int (a20 5), .int (a20 6), .int (a20 7), .int (a20 8), .int (a20 9), .int (a20 10), .int (a20 11), .int ((((a20 4) * (p0 5)) + ((12 : Int32) * (a20 5))) + (a22 ((a20 9) - (1 : Int32)).toNatClampNeg)), .int ((((a20 3) * (p0 6)) + (30 : Int32)) + ((8 : Int32) * (a20 6))), .int (((a20 4) * (a20 4)) / (20 : Int32)), .int (a20 15), .int (a20 16), .int (a20 17)])), (ad_t_sizes, .inl (G.2.1 0, 8, .inl a22))] H := hP
          have hD : va_D A [(ad_p0, .inl (G.2.1 0, 9, .inl p0)), (ad_t, .inr (4, [.ref ad_t_sizes, .int (a20 1), .int (a20 2), .int (a20 3), .int (a20 4), .int (a20 5), .int (a20 6), .int (a20 7), .int (a20 8), .int (a20 9), .int (a20 10), .int (a20 11), .int ((((a20 4) * (p0 5)) + ((12 : Int32) * (a20 5))) + (a22 ((a20 9) - (1 : Int32)).toNatClampNeg)), .int ((((a20 3) * (p0 6)) + (30 : Int32)) + ((8 : Int32) * (a20 6))), .int (((a20 4) * (a20 4)) / (20 : Int32)), .int (a20 15), .int (a20 16), .int (a20 17)])), (ad_t_sizes, .inl (G.2.1 0, 8, .inl a22))] := hD
          refine lv_aload_n hx hb dX4_make_181 rfl (lv_at hl 0 rfl) ?_
          refine lv_iconst (v := 3) hx hb dX4_make_182 (by decide) ?_
          refine lv_aload_n hx hb dX4_make_183 rfl (lv_at hl 0 rfl) ?_
          refine va_get (D := G.1) (cl := vwCl) (ci := 4) (v := .int (a20 3)) (C := RX4) (T := TX4) (N := 18) hx hb hts inG4 hown hK hP 1 rfl rfl 3 (Nat.le_of_ble_eq_true rfl) (hts _ q351) (fun _ h9 => h9) rfl dX4_make_184 ?_
          refine lv_imul hx hb dX4_make_187 ?_
          refine va_put (D := G.1) (cl := vwCl) (ci := 4) (v := .int ((3 : Int32) * (a20 3))) (ty := .int) (C := RX4) (T := TX4) (N := 18) hx hb hts inG4 tyX4 tyX4_ok nmX4 hown hK hP hD hS 1 rfl rfl 15 (Nat.le_of_ble_eq_true rfl) (hts _ q368) (fun _ h9 => h9) rfl (tyX4_ok 15 (Nat.le_of_ble_eq_true rfl)) rfl rfl (Nat.le_of_ble_eq_true rfl) dX4_make_188 (fun H locs hP hD hS => ?_)
          have hP : va_P G.1 vwCl [(ad_p0, .inl (G.2.1 0, 9, .inl p0)), (ad_t, .inr (4, [.ref ad_t_sizes, .int (a20 1), .int (a20 2), .int (a20 3), .int (a20 4), .int (a20 5), .int (a20 6), .int (a20 7), .int (a20 8), .int (a20 9), .int (a20 10), .int (a20 11), .int ((((a20 4) * (p0 5)) + ((12 : Int32) * (a20 5))) + (a22 ((a20 9) - (1 : Int32)).toNatClampNeg)), .int ((((a20 3) * (p0 6)) + (30 : Int32)) + ((8 : Int32) * (a20 6))), .int (((a20 4) * (a20 4)) / (20 : Int32)), .int ((3 : Int32) * (a20 3)), .int (a20 16), .int (a20 17)])), (ad_t_sizes, .inl (G.2.1 0, 8, .inl a22))] H := hP
          have hD : va_D A [(ad_p0, .inl (G.2.1 0, 9, .inl p0)), (ad_t, .inr (4, [.ref ad_t_sizes, .int (a20 1), .int (a20 2), .int (a20 3), .int (a20 4), .int (a20 5), .int (a20 6), .int (a20 7), .int (a20 8), .int (a20 9), .int (a20 10), .int (a20 11), .int ((((a20 4) * (p0 5)) + ((12 : Int32) * (a20 5))) + (a22 ((a20 9) - (1 : Int32)).toNatClampNeg)), .int ((((a20 3) * (p0 6)) + (30 : Int32)) + ((8 : Int32) * (a20 6))), .int (((a20 4) * (a20 4)) / (20 : Int32)), .int ((3 : Int32) * (a20 3)), .int (a20 16), .int (a20 17)])), (ad_t_sizes, .inl (G.2.1 0, 8, .inl a22))] := hD
          refine lv_aload_n hx hb dX4_make_191 rfl (lv_at hl 0 rfl) ?_
          refine lv_bipush (v := 20) hx hb dX4_make_192 (by decide) ?_
          refine lv_iconst (v := 5) hx hb dX4_make_194 (by decide) ?_
          refine lv_aload_n hx hb dX4_make_195 rfl (lv_at hl 0 rfl) ?_
          refine va_get (D := G.1) (cl := vwCl) (ci := 4) (v := .int (a20 6)) (C := RX4) (T := TX4) (N := 18) hx hb hts inG4 hown hK hP 1 rfl rfl 6 (Nat.le_of_ble_eq_true rfl) (hts _ q354) (fun _ h9 => h9) rfl dX4_make_196 ?_
          refine lv_imul hx hb dX4_make_199 ?_
          refine lv_iadd hx hb dX4_make_200 ?_
          refine va_put (D := G.1) (cl := vwCl) (ci := 4) (v := .int ((20 : Int32) + ((5 : Int32) * (a20 6)))) (ty := .int) (C := RX4) (T := TX4) (N := 18) hx hb hts inG4 tyX4 tyX4_ok nmX4 hown hK hP hD hS 1 rfl rfl 16 (Nat.le_of_ble_eq_true rfl) (hts _ q369) (fun _ h9 => h9) rfl (tyX4_ok 16 (Nat.le_of_ble_eq_true rfl)) rfl rfl (Nat.le_of_ble_eq_true rfl) dX4_make_201 (fun H locs hP hD hS => ?_)
          have hP : va_P G.1 vwCl [(ad_p0, .inl (G.2.1 0, 9, .inl p0)), (ad_t, .inr (4, [.ref ad_t_sizes, .int (a20 1), .int (a20 2), .int (a20 3), .int (a20 4), .int (a20 5), .int (a20 6), .int (a20 7), .int (a20 8), .int (a20 9), .int (a20 10), .int (a20 11), .int ((((a20 4) * (p0 5)) + ((12 : Int32) * (a20 5))) + (a22 ((a20 9) - (1 : Int32)).toNatClampNeg)), .int ((((a20 3) * (p0 6)) + (30 : Int32)) + ((8 : Int32) * (a20 6))), .int (((a20 4) * (a20 4)) / (20 : Int32)), .int ((3 : Int32) * (a20 3)), .int ((20 : Int32) + ((5 : Int32) * (a20 6))), .int (a20 17)])), (ad_t_sizes, .inl (G.2.1 0, 8, .inl a22))] H := hP
          have hD : va_D A [(ad_p0, .inl (G.2.1 0, 9, .inl p0)), (ad_t, .inr (4, [.ref ad_t_sizes, .int (a20 1), .int (a20 2), .int (a20 3), .int (a20 4), .int (a20 5), .int (a20 6), .int (a20 7), .int (a20 8), .int (a20 9), .int (a20 10), .int (a20 11), .int ((((a20 4) * (p0 5)) + ((12 : Int32) * (a20 5))) + (a22 ((a20 9) - (1 : Int32)).toNatClampNeg)), .int ((((a20 3) * (p0 6)) + (30 : Int32)) + ((8 : Int32) * (a20 6))), .int (((a20 4) * (a20 4)) / (20 : Int32)), .int ((3 : Int32) * (a20 3)), .int ((20 : Int32) + ((5 : Int32) * (a20 6))), .int (a20 17)])), (ad_t_sizes, .inl (G.2.1 0, 8, .inl a22))] := hD
          refine lv_aload_n hx hb dX4_make_204 rfl (lv_at hl 0 rfl) ?_
          refine lv_aload_n hx hb dX4_make_205 rfl (lv_at hl 0 rfl) ?_
          refine lv_aload_n hx hb dX4_make_206 rfl (lv_at hl 1 rfl) ?_
          refine lv_bipush (v := 7) hx hb dX4_make_207 (by decide) ?_
          refine va_iald (D := G.1) (cl := vwCl) hx hb hK hP 0 0 rfl rfl (vin (by decide)) dX4_make_209 ?_
          refine lv_ti (v := (p0 7)) (congrArg (p0) (tn 7)) ?_
          obtain ⟨a25, h26, hf⟩ := bn_some hf
          refine kPV (tX4_mostPulls l G ad_t ad_t_sizes (upd (upd (upd (upd (upd a20 12 ((((a20 4) * (p0 5)) + ((12 : Int32) * (a20 5))) + (a22 ((a20 9) - (1 : Int32)).toNatClampNeg))) 13 ((((a20 3) * (p0 6)) + (30 : Int32)) + ((8 : Int32) * (a20 6)))) 14 (((a20 4) * (a20 4)) / (20 : Int32))) 15 ((3 : Int32) * (a20 3))) 16 ((20 : Int32) + ((5 : Int32) * (a20 6)))) (p0 7) a25 h26) ⟨hx, hb, hml, hown, hts⟩ q517 q519 q6 q103 q520 okyX4_mostPulls ⟨Nat.le_of_ble_eq_true rfl, Nat.le_of_ble_eq_true rfl⟩ hP hG hS [1] rfl 1 rfl rfl hl.1 rfl (Nat.le_of_ble_eq_true rfl) dX4_make_210 ⟨Nat.zero_le _, Nat.zero_le _⟩ (fun locs hS => ?_)
          refine W.eq (g2 := F0 m 213 ls [.int a25, .ref ad_t]) rfl ?_
          refine va_put (D := G.1) (cl := vwCl) (ci := 4) (v := .int a25) (ty := .int) (C := RX4) (T := TX4) (N := 18) hx hb hts inG4 tyX4 tyX4_ok nmX4 hown hK hP hD hS 1 rfl rfl 17 (Nat.le_of_ble_eq_true rfl) (hts _ q370) (fun _ h9 => h9) rfl (tyX4_ok 17 (Nat.le_of_ble_eq_true rfl)) rfl rfl (Nat.le_of_ble_eq_true rfl) dX4_make_213 (fun H locs hP hD hS => ?_)
          have hP : va_P G.1 vwCl [(ad_p0, .inl (G.2.1 0, 9, .inl p0)), (ad_t, .inr (4, [.ref ad_t_sizes, .int (a20 1), .int (a20 2), .int (a20 3), .int (a20 4), .int (a20 5), .int (a20 6), .int (a20 7), .int (a20 8), .int (a20 9), .int (a20 10), .int (a20 11), .int ((((a20 4) * (p0 5)) + ((12 : Int32) * (a20 5))) + (a22 ((a20 9) - (1 : Int32)).toNatClampNeg)), .int ((((a20 3) * (p0 6)) + (30 : Int32)) + ((8 : Int32) * (a20 6))), .int (((a20 4) * (a20 4)) / (20 : Int32)), .int ((3 : Int32) * (a20 3)), .int ((20 : Int32) + ((5 : Int32) * (a20 6))), .int a25])), (ad_t_sizes, .inl (G.2.1 0, 8, .inl a22))] H := hP
          have hD : va_D A [(ad_p0, .inl (G.2.1 0, 9, .inl p0)), (ad_t, .inr (4, [.ref ad_t_sizes, .int (a20 1), .int (a20 2), .int (a20 3), .int (a20 4), .int (a20 5), .int (a20 6), .int (a20 7), .int (a20 8), .int (a20 9), .int (a20 10), .int (a20 11), .int ((((a20 4) * (p0 5)) + ((12 : Int32) * (a20 5))) + (a22 ((a20 9) - (1 : Int32)).toNatClampNeg)), .int ((((a20 3) * (p0 6)) + (30 : Int32)) + ((8 : Int32) * (a20 6))), .int (((a20 4) * (a20 4)) / (20 : Int32)), .int ((3 : Int32) * (a20 3)), .int ((20 : Int32) + ((5 : Int32) * (a20 6))), .int a25])), (ad_t_sizes, .inl (G.2.1 0, 8, .inl a22))] := hD
          refine lv_iconst (v := 1) hx hb dX4_make_216 (by decide) ?_
          have hf := Option.some.inj hf
          subst hf
          have hP := hP.sub (ws' := [(ad_t, .inr (4, [.ref ad_t_sizes, .int (a20 1), .int (a20 2), .int (a20 3), .int (a20 4), .int (a20 5), .int (a20 6), .int (a20 7), .int (a20 8), .int (a20 9), .int (a20 10), .int (a20 11), .int ((((a20 4) * (p0 5)) + ((12 : Int32) * (a20 5))) + (a22 ((a20 9) - (1 : Int32)).toNatClampNeg)), .int ((((a20 3) * (p0 6)) + (30 : Int32)) + ((8 : Int32) * (a20 6))), .int (((a20 4) * (a20 4)) / (20 : Int32)), .int ((3 : Int32) * (a20 3)), .int ((20 : Int32) + ((5 : Int32) * (a20 6))), .int a25])), (ad_t_sizes, .inl (G.2.1 0, 8, .inl a22)), (ad_p0, .inl (G.2.1 0, 9, .inl p0))]) [1, 2, 0] rfl
          have hD := hD.sub (ws' := [(ad_t, .inr (4, [.ref ad_t_sizes, .int (a20 1), .int (a20 2), .int (a20 3), .int (a20 4), .int (a20 5), .int (a20 6), .int (a20 7), .int (a20 8), .int (a20 9), .int (a20 10), .int (a20 11), .int ((((a20 4) * (p0 5)) + ((12 : Int32) * (a20 5))) + (a22 ((a20 9) - (1 : Int32)).toNatClampNeg)), .int ((((a20 3) * (p0 6)) + (30 : Int32)) + ((8 : Int32) * (a20 6))), .int (((a20 4) * (a20 4)) / (20 : Int32)), .int ((3 : Int32) * (a20 3)), .int ((20 : Int32) + ((5 : Int32) * (a20 6))), .int a25])), (ad_t_sizes, .inl (G.2.1 0, 8, .inl a22)), (ad_p0, .inl (G.2.1 0, 9, .inl p0))]) [1, 2, 0] (by decide) rfl
          exact eRetZ (v := true) hx hb hr hlocks hP hD hS ⟨rfl, rfl⟩ dX4_make_217
        · have hf := if_f hf c19
          refine lv_iconst (v := 0) hx hb dX4_make_51 (by decide) ?_
          have hf := Option.some.inj hf
          subst hf
          exact eRetZ (v := false) hx hb hr hlocks hP hD hS ⟨rfl, rfl⟩ dX4_make_52
    · have hf := if_t hf c17
      refine lv_iconst (v := 0) hx hb dX4_make_12 (by decide) ?_
      have hf := Option.some.inj hf
      subst hf
      exact eRetZ (v := false) hx hb hr hlocks hP hD hS ⟨rfl, rfl⟩ dX4_make_13

def fX4_choose_l8 (x2 : Int32) (p0 : Nat → Int32) : Nat → Int32 → Int32 → Int32 → (Nat → Int32) → (Nat → Int32) → Option (Int32 × (Nat → Int32) × (Nat → Int32))
  | 0, _, _, _, _, _ => none
  | n + 1, x3, x4, x5, tI, t_sizes =>
    (if (3 : Int32) < x5 then some (x3, tI, t_sizes) else bn (fX4_make tI t_sizes p0 (p0 0) ((1 : Int32) <<< (x5 &&& 31))) fun a2 => (if (bi a2.1) = 0 then fX4_choose_l8 x2 p0 n x3 x4 (x5 + (1 : Int32)) a2.2.1 a2.2.2 else (if x3 = (-1 : Int32) then bn (fX4_cost a2.2.1 x2) fun a6 => fX4_choose_l8 x2 p0 n ((1 : Int32) <<< (x5 &&& 31)) a6 (x5 + (1 : Int32)) a2.2.1 a2.2.2 else bn (fX4_cost a2.2.1 x2) fun a8 => (if x4 ≤ a8 then fX4_choose_l8 x2 p0 n x3 x4 (x5 + (1 : Int32)) a2.2.1 a2.2.2 else bn (fX4_cost a2.2.1 x2) fun a11 => fX4_choose_l8 x2 p0 n ((1 : Int32) <<< (x5 &&& 31)) a11 (x5 + (1 : Int32)) a2.2.1 a2.2.2))))
def fX4_choose (tI : Nat → Int32) (t_sizes : Nat → Int32) (p0 : Nat → Int32) (p1 : Int32) : Option (Int32 × (Nat → Int32) × (Nat → Int32)) :=
  bn (fX4_choose_l8 p1 p0 FU (-1 : Int32) (0 : Int32) (0 : Int32) tI t_sizes) fun y13 => some (y13.1, y13.2.1, y13.2.2)
set_option maxRecDepth 100000 in
set_option maxHeartbeats 4000000 in
theorem tX4_choose (l : Launch) (G : gG) (ad_t ad_t_sizes ad_p0 : Nat) (tI : Nat → Int32) (t_sizes : Nat → Int32) (p0 : Nat → Int32) (p1 : Int32) (o : Int32 × (Nat → Int32) × (Nat → Int32)) (hf : fX4_choose tI t_sizes p0 p1 = some o) : mE G l yX4_choose cX4_choose 6 (some .int) 3 73 0 0 [.ref ad_t, .ref ad_p0, .int p1] [(ad_t, .inr (4, [.ref ad_t_sizes, .int (tI 1), .int (tI 2), .int (tI 3), .int (tI 4), .int (tI 5), .int (tI 6), .int (tI 7), .int (tI 8), .int (tI 9), .int (tI 10), .int (tI 11), .int (tI 12), .int (tI 13), .int (tI 14), .int (tI 15), .int (tI 16), .int (tI 17)])), (ad_t_sizes, .inl (G.2.1 0, 8, .inl t_sizes)), (ad_p0, .inl (G.2.1 0, 9, .inl p0))] (fun r w => r = (some (.int o.1)) ∧ w = [(ad_t, .inr (4, [.ref ad_t_sizes, .int (o.2.1 1), .int (o.2.1 2), .int (o.2.1 3), .int (o.2.1 4), .int (o.2.1 5), .int (o.2.1 6), .int (o.2.1 7), .int (o.2.1 8), .int (o.2.1 9), .int (o.2.1 10), .int (o.2.1 11), .int (o.2.1 12), .int (o.2.1 13), .int (o.2.1 14), .int (o.2.1 15), .int (o.2.1 16), .int (o.2.1 17)])), (ad_t_sizes, .inl (G.2.1 0, 8, .inl o.2.2)), (ad_p0, .inl (G.2.1 0, 9, .inl p0))]) := by
  refine mE_of (by decide) (Nat.le_of_ble_eq_true rfl) ?_
  intro p e s m below meth cd ls A hx hb hml hown hts hr hlocks hnm hl hA hP hD hS hG
  have hK := hG.1
  have hown : s.vm.findClass RX4 = some m.cls := hown
  have hl : lv_has ls 6 [(0, .ref ad_t), (1, .ref ad_p0), (2, .int p1)] := hl
  have hS := hS
  unfold fX4_choose at hf
  obtain ⟨H, locs, eH, eL⟩ : ∃ (H : Heap) (locs : List Loc), H = s.heap ∧ locs = [] := ⟨_, _, rfl, rfl⟩
  have hP : va_P G.1 vwCl [(ad_t, .inr (4, [.ref ad_t_sizes, .int (tI 1), .int (tI 2), .int (tI 3), .int (tI 4), .int (tI 5), .int (tI 6), .int (tI 7), .int (tI 8), .int (tI 9), .int (tI 10), .int (tI 11), .int (tI 12), .int (tI 13), .int (tI 14), .int (tI 15), .int (tI 16), .int (tI 17)])), (ad_t_sizes, .inl (G.2.1 0, 8, .inl t_sizes)), (ad_p0, .inl (G.2.1 0, 9, .inl p0))] H := eH ▸ hP
  have hS : va_S A s.heap H locs := by rw [eH, eL]; exact hS
  suffices hgo : wG p l e 3 73 s m [.ref ad_t, .ref ad_p0, .int p1] below meth cd H locs (eQ G A (fun r w => r = (some (.int o.1)) ∧ w = [(ad_t, .inr (4, [.ref ad_t_sizes, .int (o.2.1 1), .int (o.2.1 2), .int (o.2.1 3), .int (o.2.1 4), .int (o.2.1 5), .int (o.2.1 6), .int (o.2.1 7), .int (o.2.1 8), .int (o.2.1 9), .int (o.2.1 10), .int (o.2.1 11), .int (o.2.1 12), .int (o.2.1 13), .int (o.2.1 14), .int (o.2.1 15), .int (o.2.1 16), .int (o.2.1 17)])), (ad_t_sizes, .inl (G.2.1 0, 8, .inl o.2.2)), (ad_p0, .inl (G.2.1 0, 9, .inl p0))])) A (F0 m 0 ls []) by rw [eH, eL] at hgo; exact hgo
  clear eH eL
  refine lv_iconst (v := -1) hx hb dX4_choose_0 (by decide) ?_
  refine lv_istore_n (lv' := [(3, .int (-1 : Int32)), (0, .ref ad_t), (1, .ref ad_p0), (2, .int p1)]) hx hb dX4_choose_1 rfl hl (by decide) rfl (fun ls hl => ?_)
  refine lv_iconst (v := 0) hx hb dX4_choose_2 (by decide) ?_
  refine lv_istore (lv' := [(4, .int (0 : Int32)), (3, .int (-1 : Int32)), (0, .ref ad_t), (1, .ref ad_p0), (2, .int p1)]) hx hb dX4_choose_3 hl (by decide) rfl (fun ls hl => ?_)
  refine lv_iconst (v := 0) hx hb dX4_choose_5 (by decide) ?_
  refine lv_istore (lv' := [(5, .int (0 : Int32)), (4, .int (0 : Int32)), (3, .int (-1 : Int32)), (0, .ref ad_t), (1, .ref ad_p0), (2, .int p1)]) hx hb dX4_choose_6 hl (by decide) rfl (fun ls hl => ?_)
  obtain ⟨y14, hLy14, hky14⟩ := bn_some hf
  have Ey14 : ∀  (H : Heap) (locs : List Loc) (ls : Array Slot), lv_has ls 6 [(3, .int y14.1)] → va_P G.1 vwCl [(ad_t, .inr (4, [.ref ad_t_sizes, .int (y14.2.1 1), .int (y14.2.1 2), .int (y14.2.1 3), .int (y14.2.1 4), .int (y14.2.1 5), .int (y14.2.1 6), .int (y14.2.1 7), .int (y14.2.1 8), .int (y14.2.1 9), .int (y14.2.1 10), .int (y14.2.1 11), .int (y14.2.1 12), .int (y14.2.1 13), .int (y14.2.1 14), .int (y14.2.1 15), .int (y14.2.1 16), .int (y14.2.1 17)])), (ad_t_sizes, .inl (G.2.1 0, 8, .inl y14.2.2)), (ad_p0, .inl (G.2.1 0, 9, .inl p0))] H → va_D A [(ad_t, .inr (4, [.ref ad_t_sizes, .int (y14.2.1 1), .int (y14.2.1 2), .int (y14.2.1 3), .int (y14.2.1 4), .int (y14.2.1 5), .int (y14.2.1 6), .int (y14.2.1 7), .int (y14.2.1 8), .int (y14.2.1 9), .int (y14.2.1 10), .int (y14.2.1 11), .int (y14.2.1 12), .int (y14.2.1 13), .int (y14.2.1 14), .int (y14.2.1 15), .int (y14.2.1 16), .int (y14.2.1 17)])), (ad_t_sizes, .inl (G.2.1 0, 8, .inl y14.2.2)), (ad_p0, .inl (G.2.1 0, 9, .inl p0))] → va_S A s.heap H locs → wG p l e 3 73 s m [.ref ad_t, .ref ad_p0, .int p1] below meth cd H locs (eQ G A (fun r w => r = (some (.int o.1)) ∧ w = [(ad_t, .inr (4, [.ref ad_t_sizes, .int (o.2.1 1), .int (o.2.1 2), .int (o.2.1 3), .int (o.2.1 4), .int (o.2.1 5), .int (o.2.1 6), .int (o.2.1 7), .int (o.2.1 8), .int (o.2.1 9), .int (o.2.1 10), .int (o.2.1 11), .int (o.2.1 12), .int (o.2.1 13), .int (o.2.1 14), .int (o.2.1 15), .int (o.2.1 16), .int (o.2.1 17)])), (ad_t_sizes, .inl (G.2.1 0, 8, .inl o.2.2)), (ad_p0, .inl (G.2.1 0, 9, .inl p0))])) A (F0 m 62 ls []) := by
    intro  H locs ls hl hP hD hS
    have hf := hky14
    refine lv_iload_n hx hb dX4_choose_62 rfl (lv_at hl 0 rfl) ?_
    have hf := Option.some.inj hf
    subst hf
    exact eRet hx hb hr hlocks hP hD hS ⟨rfl, rfl⟩ dX4_choose_63
  have Ly14 : ∀ (n : Nat), ∀ (x15 : Int32) (x16 : Int32) (x17 : Int32) (g18 : Nat → Int32) (g19 : Nat → Int32) (H : Heap) (locs : List Loc) (ls : Array Slot), lv_has ls 6 [(5, .int x17), (4, .int x16), (3, .int x15), (0, .ref ad_t), (1, .ref ad_p0), (2, .int p1)] → va_P G.1 vwCl [(ad_t, .inr (4, [.ref ad_t_sizes, .int (g18 1), .int (g18 2), .int (g18 3), .int (g18 4), .int (g18 5), .int (g18 6), .int (g18 7), .int (g18 8), .int (g18 9), .int (g18 10), .int (g18 11), .int (g18 12), .int (g18 13), .int (g18 14), .int (g18 15), .int (g18 16), .int (g18 17)])), (ad_t_sizes, .inl (G.2.1 0, 8, .inl g19)), (ad_p0, .inl (G.2.1 0, 9, .inl p0))] H → va_D A [(ad_t, .inr (4, [.ref ad_t_sizes, .int (g18 1), .int (g18 2), .int (g18 3), .int (g18 4), .int (g18 5), .int (g18 6), .int (g18 7), .int (g18 8), .int (g18 9), .int (g18 10), .int (g18 11), .int (g18 12), .int (g18 13), .int (g18 14), .int (g18 15), .int (g18 16), .int (g18 17)])), (ad_t_sizes, .inl (G.2.1 0, 8, .inl g19)), (ad_p0, .inl (G.2.1 0, 9, .inl p0))] → va_S A s.heap H locs → fX4_choose_l8 p1 p0 n x15 x16 x17 g18 g19 = some y14 → wG p l e 3 73 s m [.ref ad_t, .ref ad_p0, .int p1] below meth cd H locs (eQ G A (fun r w => r = (some (.int o.1)) ∧ w = [(ad_t, .inr (4, [.ref ad_t_sizes, .int (o.2.1 1), .int (o.2.1 2), .int (o.2.1 3), .int (o.2.1 4), .int (o.2.1 5), .int (o.2.1 6), .int (o.2.1 7), .int (o.2.1 8), .int (o.2.1 9), .int (o.2.1 10), .int (o.2.1 11), .int (o.2.1 12), .int (o.2.1 13), .int (o.2.1 14), .int (o.2.1 15), .int (o.2.1 16), .int (o.2.1 17)])), (ad_t_sizes, .inl (G.2.1 0, 8, .inl o.2.2)), (ad_p0, .inl (G.2.1 0, 9, .inl p0))])) A (F0 m 8 ls []) := by
    intro n
    induction n with
    | zero =>
      intro x15 x16 x17 g18 g19 H locs ls hl hP hD hS hf
      rw [fX4_choose_l8] at hf
      cases hf
    | succ n ih =>
      intro x15 x16 x17 g18 g19 H locs ls hl hP hD hS hf
      rw [fX4_choose_l8] at hf
      refine lv_iload hx hb dX4_choose_8 (lv_at hl 0 rfl) ?_
      refine lv_iconst (v := 3) hx hb dX4_choose_10 (by decide) ?_
      refine lv_icmp_gt (tgt := 62) hx hb dX4_choose_11 (by decide) (fun c20 => ?_) (fun c20 => ?_)
      · have hf := if_t hf c20
        have hf := Option.some.inj hf
        subst hf
        exact Ey14  H locs ls (lv_sub hl [2] rfl) hP hD hS 
      · have hf := if_f hf c20
        refine lv_aload_n hx hb dX4_choose_14 rfl (lv_at hl 3 rfl) ?_
        refine lv_aload_n hx hb dX4_choose_15 rfl (lv_at hl 4 rfl) ?_
        refine lv_aload_n hx hb dX4_choose_16 rfl (lv_at hl 4 rfl) ?_
        refine lv_iconst (v := 0) hx hb dX4_choose_17 (by decide) ?_
        refine va_iald (D := G.1) (cl := vwCl) hx hb hK hP 2 0 rfl rfl (vin (by decide)) dX4_choose_18 ?_
        refine lv_ti (v := (p0 0)) (congrArg (p0) (tn 0)) ?_
        refine lv_iconst (v := 1) hx hb dX4_choose_19 (by decide) ?_
        refine lv_iload hx hb dX4_choose_20 (lv_at hl 0 rfl) ?_
        refine lv_ishl hx hb dX4_choose_22 ?_
        obtain ⟨a21, h22, hf⟩ := bn_some hf
        refine kEV (tX4_make l G ad_t ad_t_sizes ad_p0 g18 g19 p0 (p0 0) ((1 : Int32) <<< (x17 &&& 31)) a21 h22) ⟨hx, hb, hml, hown, hts⟩ q475 q476 q477 q103 q478 okyX4_make ⟨Nat.le_of_ble_eq_true rfl, Nat.le_of_ble_eq_true rfl⟩ hP hD hG hS hA [0, 1, 2] [] rfl (wr := []) rfl (by decide) 0 rfl rfl hl.1 rfl (Nat.le_of_ble_eq_true rfl) dX4_choose_23 ⟨Nat.zero_le _, Nat.zero_le _⟩ (fun r w H locs hR hP hD hS => ?_)
        obtain ⟨rfl, rfl⟩ := hR
        have hP : va_P G.1 vwCl [(ad_t, .inr (4, [.ref ad_t_sizes, .int (a21.2.1 1), .int (a21.2.1 2), .int (a21.2.1 3), .int (a21.2.1 4), .int (a21.2.1 5), .int (a21.2.1 6), .int (a21.2.1 7), .int (a21.2.1 8), .int (a21.2.1 9), .int (a21.2.1 10), .int (a21.2.1 11), .int (a21.2.1 12), .int (a21.2.1 13), .int (a21.2.1 14), .int (a21.2.1 15), .int (a21.2.1 16), .int (a21.2.1 17)])), (ad_t_sizes, .inl (G.2.1 0, 8, .inl a21.2.2)), (ad_p0, .inl (G.2.1 0, 9, .inl p0))] H := hP
        have hD : va_D A [(ad_t, .inr (4, [.ref ad_t_sizes, .int (a21.2.1 1), .int (a21.2.1 2), .int (a21.2.1 3), .int (a21.2.1 4), .int (a21.2.1 5), .int (a21.2.1 6), .int (a21.2.1 7), .int (a21.2.1 8), .int (a21.2.1 9), .int (a21.2.1 10), .int (a21.2.1 11), .int (a21.2.1 12), .int (a21.2.1 13), .int (a21.2.1 14), .int (a21.2.1 15), .int (a21.2.1 16), .int (a21.2.1 17)])), (ad_t_sizes, .inl (G.2.1 0, 8, .inl a21.2.2)), (ad_p0, .inl (G.2.1 0, 9, .inl p0))] := hD
        refine W.eq (g2 := F0 m 26 ls [.int (bi a21.1)]) rfl ?_
        refine lv_if_eq (tgt := 56) hx hb dX4_choose_26 (by decide) (fun c23 => ?_) (fun c23 => ?_)
        · have hf := if_t hf c23
          refine lv_iinc (v := (x17 + (1 : Int32))) (lv' := [(5, .int (x17 + (1 : Int32))), (4, .int x16), (3, .int x15), (0, .ref ad_t), (1, .ref ad_p0), (2, .int p1)]) hx hb dX4_choose_56 hl (k := 0) rfl (ii_1 _) (by decide) rfl (fun ls hl => ?_)
          refine lv_goto (tgt := 8) hx hb dX4_choose_59 (by decide) ?_
          exact ih x15 x16 (x17 + (1 : Int32)) a21.2.1 a21.2.2 H locs ls (lv_sub hl [0, 1, 2, 3, 4, 5] rfl) hP hD hS hf
        · have hf := if_f hf c23
          refine lv_iload_n hx hb dX4_choose_29 rfl (lv_at hl 2 rfl) ?_
          refine lv_iconst (v := -1) hx hb dX4_choose_30 (by decide) ?_
          refine lv_icmp_eq (tgt := 44) hx hb dX4_choose_31 (by decide) (fun c24 => ?_) (fun c24 => ?_)
          · have hf := if_t hf c24
            refine lv_iconst (v := 1) hx hb dX4_choose_44 (by decide) ?_
            refine lv_iload hx hb dX4_choose_45 (lv_at hl 0 rfl) ?_
            refine lv_ishl hx hb dX4_choose_47 ?_
            refine lv_istore_n (lv' := [(3, .int ((1 : Int32) <<< (x17 &&& 31))), (5, .int x17), (4, .int x16), (0, .ref ad_t), (1, .ref ad_p0), (2, .int p1)]) hx hb dX4_choose_48 rfl hl (by decide) rfl (fun ls hl => ?_)
            refine lv_aload_n hx hb dX4_choose_49 rfl (lv_at hl 3 rfl) ?_
            refine lv_iload_n hx hb dX4_choose_50 rfl (lv_at hl 5 rfl) ?_
            obtain ⟨a25, h26, hf⟩ := bn_some hf
            refine kPV (tX4_cost l G ad_t ad_t_sizes a21.2.1 p1 a25 h26) ⟨hx, hb, hml, hown, hts⟩ q521 q523 q7 q103 q524 okyX4_cost ⟨Nat.le_of_ble_eq_true rfl, Nat.le_of_ble_eq_true rfl⟩ hP hG hS [0] rfl 0 rfl rfl hl.1 rfl (Nat.le_of_ble_eq_true rfl) dX4_choose_51 ⟨Nat.zero_le _, Nat.zero_le _⟩ (fun locs hS => ?_)
            refine W.eq (g2 := F0 m 54 ls [.int a25]) rfl ?_
            refine lv_istore (lv' := [(4, .int a25), (3, .int ((1 : Int32) <<< (x17 &&& 31))), (5, .int x17), (0, .ref ad_t), (1, .ref ad_p0), (2, .int p1)]) hx hb dX4_choose_54 hl (by decide) rfl (fun ls hl => ?_)
            refine lv_iinc (v := (x17 + (1 : Int32))) (lv' := [(5, .int (x17 + (1 : Int32))), (4, .int a25), (3, .int ((1 : Int32) <<< (x17 &&& 31))), (0, .ref ad_t), (1, .ref ad_p0), (2, .int p1)]) hx hb dX4_choose_56 hl (k := 2) rfl (ii_1 _) (by decide) rfl (fun ls hl => ?_)
            refine lv_goto (tgt := 8) hx hb dX4_choose_59 (by decide) ?_
            exact ih ((1 : Int32) <<< (x17 &&& 31)) a25 (x17 + (1 : Int32)) a21.2.1 a21.2.2 H locs ls (lv_sub hl [0, 1, 2, 3, 4, 5] rfl) hP hD hS hf
          · have hf := if_f hf c24
            refine lv_aload_n hx hb dX4_choose_34 rfl (lv_at hl 3 rfl) ?_
            refine lv_iload_n hx hb dX4_choose_35 rfl (lv_at hl 5 rfl) ?_
            obtain ⟨a27, h28, hf⟩ := bn_some hf
            refine kPV (tX4_cost l G ad_t ad_t_sizes a21.2.1 p1 a27 h28) ⟨hx, hb, hml, hown, hts⟩ q521 q523 q7 q103 q524 okyX4_cost ⟨Nat.le_of_ble_eq_true rfl, Nat.le_of_ble_eq_true rfl⟩ hP hG hS [0] rfl 0 rfl rfl hl.1 rfl (Nat.le_of_ble_eq_true rfl) dX4_choose_36 ⟨Nat.zero_le _, Nat.zero_le _⟩ (fun locs hS => ?_)
            refine W.eq (g2 := F0 m 39 ls [.int a27]) rfl ?_
            refine lv_iload hx hb dX4_choose_39 (lv_at hl 1 rfl) ?_
            refine lv_icmp_ge (tgt := 56) hx hb dX4_choose_41 (by decide) (fun c29 => ?_) (fun c29 => ?_)
            · have hf := if_t hf c29
              refine lv_iinc (v := (x17 + (1 : Int32))) (lv' := [(5, .int (x17 + (1 : Int32))), (4, .int x16), (3, .int x15), (0, .ref ad_t), (1, .ref ad_p0), (2, .int p1)]) hx hb dX4_choose_56 hl (k := 0) rfl (ii_1 _) (by decide) rfl (fun ls hl => ?_)
              refine lv_goto (tgt := 8) hx hb dX4_choose_59 (by decide) ?_
              exact ih x15 x16 (x17 + (1 : Int32)) a21.2.1 a21.2.2 H locs ls (lv_sub hl [0, 1, 2, 3, 4, 5] rfl) hP hD hS hf
            · have hf := if_f hf c29
              refine lv_iconst (v := 1) hx hb dX4_choose_44 (by decide) ?_
              refine lv_iload hx hb dX4_choose_45 (lv_at hl 0 rfl) ?_
              refine lv_ishl hx hb dX4_choose_47 ?_
              refine lv_istore_n (lv' := [(3, .int ((1 : Int32) <<< (x17 &&& 31))), (5, .int x17), (4, .int x16), (0, .ref ad_t), (1, .ref ad_p0), (2, .int p1)]) hx hb dX4_choose_48 rfl hl (by decide) rfl (fun ls hl => ?_)
              refine lv_aload_n hx hb dX4_choose_49 rfl (lv_at hl 3 rfl) ?_
              refine lv_iload_n hx hb dX4_choose_50 rfl (lv_at hl 5 rfl) ?_
              obtain ⟨a30, h31, hf⟩ := bn_some hf
              refine kPV (tX4_cost l G ad_t ad_t_sizes a21.2.1 p1 a30 h31) ⟨hx, hb, hml, hown, hts⟩ q521 q523 q7 q103 q524 okyX4_cost ⟨Nat.le_of_ble_eq_true rfl, Nat.le_of_ble_eq_true rfl⟩ hP hG hS [0] rfl 0 rfl rfl hl.1 rfl (Nat.le_of_ble_eq_true rfl) dX4_choose_51 ⟨Nat.zero_le _, Nat.zero_le _⟩ (fun locs hS => ?_)
              refine W.eq (g2 := F0 m 54 ls [.int a30]) rfl ?_
              refine lv_istore (lv' := [(4, .int a30), (3, .int ((1 : Int32) <<< (x17 &&& 31))), (5, .int x17), (0, .ref ad_t), (1, .ref ad_p0), (2, .int p1)]) hx hb dX4_choose_54 hl (by decide) rfl (fun ls hl => ?_)
              refine lv_iinc (v := (x17 + (1 : Int32))) (lv' := [(5, .int (x17 + (1 : Int32))), (4, .int a30), (3, .int ((1 : Int32) <<< (x17 &&& 31))), (0, .ref ad_t), (1, .ref ad_p0), (2, .int p1)]) hx hb dX4_choose_56 hl (k := 2) rfl (ii_1 _) (by decide) rfl (fun ls hl => ?_)
              refine lv_goto (tgt := 8) hx hb dX4_choose_59 (by decide) ?_
              exact ih ((1 : Int32) <<< (x17 &&& 31)) a30 (x17 + (1 : Int32)) a21.2.1 a21.2.2 H locs ls (lv_sub hl [0, 1, 2, 3, 4, 5] rfl) hP hD hS hf
  exact Ly14 FU (-1 : Int32) (0 : Int32) (0 : Int32) tI t_sizes H locs ls (lv_sub hl [0, 1, 2, 3, 4, 5] rfl) hP hD hS hLy14

def fX4_muxOf (tI : Nat → Int32) (t_sizes : Nat → Int32) (p0 : Nat → Int32) : Option (Int32 × (Nat → Int32) × (Nat → Int32)) :=
  (if (p0 2) = 0 then bn (fX4_choose tI t_sizes p0 (p0 8)) fun a2 => some (a2.1, a2.2.1, a2.2.2) else some ((p0 2), tI, t_sizes))
set_option maxRecDepth 100000 in
set_option maxHeartbeats 4000000 in
theorem tX4_muxOf (l : Launch) (G : gG) (ad_t ad_t_sizes ad_p0 : Nat) (tI : Nat → Int32) (t_sizes : Nat → Int32) (p0 : Nat → Int32) (o : Int32 × (Nat → Int32) × (Nat → Int32)) (hf : fX4_muxOf tI t_sizes p0 = some o) : mE G l yX4_muxOf cX4_muxOf 2 (some .int) 4 98 0 0 [.ref ad_t, .ref ad_p0] [(ad_t, .inr (4, [.ref ad_t_sizes, .int (tI 1), .int (tI 2), .int (tI 3), .int (tI 4), .int (tI 5), .int (tI 6), .int (tI 7), .int (tI 8), .int (tI 9), .int (tI 10), .int (tI 11), .int (tI 12), .int (tI 13), .int (tI 14), .int (tI 15), .int (tI 16), .int (tI 17)])), (ad_t_sizes, .inl (G.2.1 0, 8, .inl t_sizes)), (ad_p0, .inl (G.2.1 0, 9, .inl p0))] (fun r w => r = (some (.int o.1)) ∧ w = [(ad_t, .inr (4, [.ref ad_t_sizes, .int (o.2.1 1), .int (o.2.1 2), .int (o.2.1 3), .int (o.2.1 4), .int (o.2.1 5), .int (o.2.1 6), .int (o.2.1 7), .int (o.2.1 8), .int (o.2.1 9), .int (o.2.1 10), .int (o.2.1 11), .int (o.2.1 12), .int (o.2.1 13), .int (o.2.1 14), .int (o.2.1 15), .int (o.2.1 16), .int (o.2.1 17)])), (ad_t_sizes, .inl (G.2.1 0, 8, .inl o.2.2)), (ad_p0, .inl (G.2.1 0, 9, .inl p0))]) := by
  refine mE_of (by decide) (Nat.le_of_ble_eq_true rfl) ?_
  intro p e s m below meth cd ls A hx hb hml hown hts hr hlocks hnm hl hA hP hD hS hG
  have hK := hG.1
  have hown : s.vm.findClass RX4 = some m.cls := hown
  have hl : lv_has ls 2 [(0, .ref ad_t), (1, .ref ad_p0)] := hl
  have hS := hS
  unfold fX4_muxOf at hf
  obtain ⟨H, locs, eH, eL⟩ : ∃ (H : Heap) (locs : List Loc), H = s.heap ∧ locs = [] := ⟨_, _, rfl, rfl⟩
  have hP : va_P G.1 vwCl [(ad_t, .inr (4, [.ref ad_t_sizes, .int (tI 1), .int (tI 2), .int (tI 3), .int (tI 4), .int (tI 5), .int (tI 6), .int (tI 7), .int (tI 8), .int (tI 9), .int (tI 10), .int (tI 11), .int (tI 12), .int (tI 13), .int (tI 14), .int (tI 15), .int (tI 16), .int (tI 17)])), (ad_t_sizes, .inl (G.2.1 0, 8, .inl t_sizes)), (ad_p0, .inl (G.2.1 0, 9, .inl p0))] H := eH ▸ hP
  have hS : va_S A s.heap H locs := by rw [eH, eL]; exact hS
  suffices hgo : wG p l e 4 98 s m [.ref ad_t, .ref ad_p0] below meth cd H locs (eQ G A (fun r w => r = (some (.int o.1)) ∧ w = [(ad_t, .inr (4, [.ref ad_t_sizes, .int (o.2.1 1), .int (o.2.1 2), .int (o.2.1 3), .int (o.2.1 4), .int (o.2.1 5), .int (o.2.1 6), .int (o.2.1 7), .int (o.2.1 8), .int (o.2.1 9), .int (o.2.1 10), .int (o.2.1 11), .int (o.2.1 12), .int (o.2.1 13), .int (o.2.1 14), .int (o.2.1 15), .int (o.2.1 16), .int (o.2.1 17)])), (ad_t_sizes, .inl (G.2.1 0, 8, .inl o.2.2)), (ad_p0, .inl (G.2.1 0, 9, .inl p0))])) A (F0 m 0 ls []) by rw [eH, eL] at hgo; exact hgo
  clear eH eL
  refine lv_aload_n hx hb dX4_muxOf_0 rfl (lv_at hl 1 rfl) ?_
  refine lv_iconst (v := 2) hx hb dX4_muxOf_1 (by decide) ?_
  refine va_iald (D := G.1) (cl := vwCl) hx hb hK hP 2 0 rfl rfl (vin (by decide)) dX4_muxOf_2 ?_
  refine lv_ti (v := (p0 2)) (congrArg (p0) (tn 2)) ?_
  refine lv_if_ne (tgt := 18) hx hb dX4_muxOf_3 (by decide) (fun c4 => ?_) (fun c4 => ?_)
  · have hf := if_f hf c4
    refine lv_aload_n hx hb dX4_muxOf_18 rfl (lv_at hl 1 rfl) ?_
    refine lv_iconst (v := 2) hx hb dX4_muxOf_19 (by decide) ?_
    refine va_iald (D := G.1) (cl := vwCl) hx hb hK hP 2 0 rfl rfl (vin (by decide)) dX4_muxOf_20 ?_
    refine lv_ti (v := (p0 2)) (congrArg (p0) (tn 2)) ?_
    have hf := Option.some.inj hf
    subst hf
    exact eRet hx hb hr hlocks hP hD hS ⟨rfl, rfl⟩ dX4_muxOf_21
  · have hf := if_t hf c4
    refine lv_aload_n hx hb dX4_muxOf_6 rfl (lv_at hl 0 rfl) ?_
    refine lv_aload_n hx hb dX4_muxOf_7 rfl (lv_at hl 1 rfl) ?_
    refine lv_aload_n hx hb dX4_muxOf_8 rfl (lv_at hl 1 rfl) ?_
    refine lv_bipush (v := 8) hx hb dX4_muxOf_9 (by decide) ?_
    refine va_iald (D := G.1) (cl := vwCl) hx hb hK hP 2 0 rfl rfl (vin (by decide)) dX4_muxOf_11 ?_
    refine lv_ti (v := (p0 8)) (congrArg (p0) (tn 8)) ?_
    obtain ⟨a5, h6, hf⟩ := bn_some hf
    refine kEV (tX4_choose l G ad_t ad_t_sizes ad_p0 tI t_sizes p0 (p0 8) a5 h6) ⟨hx, hb, hml, hown, hts⟩ q471 q472 q473 q103 q474 okyX4_choose ⟨Nat.le_of_ble_eq_true rfl, Nat.le_of_ble_eq_true rfl⟩ hP hD hG hS hA [0, 1, 2] [] rfl (wr := []) rfl (by decide) 0 rfl rfl hl.1 rfl (Nat.le_of_ble_eq_true rfl) dX4_muxOf_12 ⟨Nat.zero_le _, Nat.zero_le _⟩ (fun r w H locs hR hP hD hS => ?_)
    obtain ⟨rfl, rfl⟩ := hR
    have hP : va_P G.1 vwCl [(ad_t, .inr (4, [.ref ad_t_sizes, .int (a5.2.1 1), .int (a5.2.1 2), .int (a5.2.1 3), .int (a5.2.1 4), .int (a5.2.1 5), .int (a5.2.1 6), .int (a5.2.1 7), .int (a5.2.1 8), .int (a5.2.1 9), .int (a5.2.1 10), .int (a5.2.1 11), .int (a5.2.1 12), .int (a5.2.1 13), .int (a5.2.1 14), .int (a5.2.1 15), .int (a5.2.1 16), .int (a5.2.1 17)])), (ad_t_sizes, .inl (G.2.1 0, 8, .inl a5.2.2)), (ad_p0, .inl (G.2.1 0, 9, .inl p0))] H := hP
    have hD : va_D A [(ad_t, .inr (4, [.ref ad_t_sizes, .int (a5.2.1 1), .int (a5.2.1 2), .int (a5.2.1 3), .int (a5.2.1 4), .int (a5.2.1 5), .int (a5.2.1 6), .int (a5.2.1 7), .int (a5.2.1 8), .int (a5.2.1 9), .int (a5.2.1 10), .int (a5.2.1 11), .int (a5.2.1 12), .int (a5.2.1 13), .int (a5.2.1 14), .int (a5.2.1 15), .int (a5.2.1 16), .int (a5.2.1 17)])), (ad_t_sizes, .inl (G.2.1 0, 8, .inl a5.2.2)), (ad_p0, .inl (G.2.1 0, 9, .inl p0))] := hD
    refine W.eq (g2 := F0 m 15 ls [.int a5.1]) rfl ?_
    refine lv_goto (tgt := 21) hx hb dX4_muxOf_15 (by decide) ?_
    have hf := Option.some.inj hf
    subst hf
    exact eRet hx hb hr hlocks hP hD hS ⟨rfl, rfl⟩ dX4_muxOf_21
