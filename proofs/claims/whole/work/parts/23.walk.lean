def fX11_fails (tI : Nat → Int32) (p0 : Int32) (p1 : Int32) : Option ((Nat → Int32)) :=
  (if (tI 4) = (1 : Int32) then some tI else (if (tI 4) ≤ (1 : Int32) then some (upd (upd tI 4 p0) 5 p1) else (if p0 ≤ (1 : Int32) then some (upd (upd tI 4 p0) 5 p1) else (if (tI 5) < p1 then some tI else (if p1 = (tI 5) then (if p0 ≤ (tI 4) then some (upd (upd tI 4 p0) 5 p1) else some tI) else some (upd (upd tI 4 p0) 5 p1))))))
set_option maxRecDepth 100000 in
set_option maxHeartbeats 4000000 in
theorem tX11_fails (l : Launch) (G : gG) (ad_t ad_t_all ad_t_tape ad_t_isImage ad_t_size ad_t_givenRow ad_t_givenColumn ad_t_newRow ad_t_view : Nat) (tI : Nat → Int32) (t_value : Int64) (p0 : Int32) (p1 : Int32) (o : (Nat → Int32)) (hf : fX11_fails tI p0 p1 = some o) : mE G l yX11_fails cX11_fails 3 none 0 0 0 0 [.ref ad_t, .int p0, .int p1] [(ad_t, .inr (11, [.ref ad_t_all, .ref ad_t_tape, .ref ad_t_isImage, .int (tI 3), .int (tI 4), .int (tI 5), .int (tI 6), .ref ad_t_size, .ref ad_t_givenRow, .ref ad_t_givenColumn, .ref ad_t_newRow, .int (tI 11), .int (tI 12), .int (tI 13), .int (tI 14), .int (tI 15), .int (tI 16), .int (tI 17), .int (tI 18), .int (tI 19), .ref ad_t_view, .int (tI 21), .int (tI 22), .int (tI 23), .int (tI 24), .int (tI 25), .long t_value, .int (tI 27), .int (tI 28)]))] (fun r w => r = none ∧ w = [(ad_t, .inr (11, [.ref ad_t_all, .ref ad_t_tape, .ref ad_t_isImage, .int (o 3), .int (o 4), .int (o 5), .int (o 6), .ref ad_t_size, .ref ad_t_givenRow, .ref ad_t_givenColumn, .ref ad_t_newRow, .int (o 11), .int (o 12), .int (o 13), .int (o 14), .int (o 15), .int (o 16), .int (o 17), .int (o 18), .int (o 19), .ref ad_t_view, .int (o 21), .int (o 22), .int (o 23), .int (o 24), .int (o 25), .long t_value, .int (o 27), .int (o 28)]))]) := by
  refine mE_of (by decide) (Nat.le_of_ble_eq_true rfl) ?_
  intro p e s m below meth cd ls A hx hb hml hown hts hr hlocks hnm hl hA hP hD hS hG
  have hK := hG.1
  have hown : s.vm.findClass RX11 = some m.cls := hown
  have hl : lv_has ls 3 [(0, .ref ad_t), (1, .int p0), (2, .int p1)] := hl
  have hS := hS
  unfold fX11_fails at hf
  obtain ⟨H, locs, eH, eL⟩ : ∃ (H : Heap) (locs : List Loc), H = s.heap ∧ locs = [] := ⟨_, _, rfl, rfl⟩
  have hP : va_P G.1 vwCl [(ad_t, .inr (11, [.ref ad_t_all, .ref ad_t_tape, .ref ad_t_isImage, .int (tI 3), .int (tI 4), .int (tI 5), .int (tI 6), .ref ad_t_size, .ref ad_t_givenRow, .ref ad_t_givenColumn, .ref ad_t_newRow, .int (tI 11), .int (tI 12), .int (tI 13), .int (tI 14), .int (tI 15), .int (tI 16), .int (tI 17), .int (tI 18), .int (tI 19), .ref ad_t_view, .int (tI 21), .int (tI 22), .int (tI 23), .int (tI 24), .int (tI 25), .long t_value, .int (tI 27), .int (tI 28)]))] H := eH ▸ hP
  have hS : va_S A s.heap H locs := by rw [eH, eL]; exact hS
  suffices hgo : wG p l e 0 0 s m [.ref ad_t, .int p0, .int p1] below meth cd H locs (eQ G A (fun r w => r = none ∧ w = [(ad_t, .inr (11, [.ref ad_t_all, .ref ad_t_tape, .ref ad_t_isImage, .int (o 3), .int (o 4), .int (o 5), .int (o 6), .ref ad_t_size, .ref ad_t_givenRow, .ref ad_t_givenColumn, .ref ad_t_newRow, .int (o 11), .int (o 12), .int (o 13), .int (o 14), .int (o 15), .int (o 16), .int (o 17), .int (o 18), .int (o 19), .ref ad_t_view, .int (o 21), .int (o 22), .int (o 23), .int (o 24), .int (o 25), .long t_value, .int (o 27), .int (o 28)]))])) A (F0 m 0 ls []) by rw [eH, eL] at hgo; exact hgo
  clear eH eL
  refine lv_aload_n hx hb dX11_fails_0 rfl (lv_at hl 0 rfl) ?_
  refine va_get (D := G.1) (cl := vwCl) (ci := 11) (v := .int (tI 4)) (C := RX11) (T := TX11) (N := 29) hx hb hts inG11 hown hK hP 0 rfl rfl 4 (Nat.le_of_ble_eq_true rfl) (hts _ q1045) (fun _ h9 => h9) rfl dX11_fails_1 ?_
  refine lv_iconst (v := 1) hx hb dX11_fails_4 (by decide) ?_
  refine lv_icmp_eq (tgt := 45) hx hb dX11_fails_5 (by decide) (fun c7 => ?_) (fun c7 => ?_)
  · have hf := if_t hf c7
    have hf := Option.some.inj hf
    subst hf
    exact eRetV hx hb hr hlocks hP hD hS ⟨rfl, rfl⟩ dX11_fails_45
  · have hf := if_f hf c7
    refine lv_aload_n hx hb dX11_fails_8 rfl (lv_at hl 0 rfl) ?_
    refine va_get (D := G.1) (cl := vwCl) (ci := 11) (v := .int (tI 4)) (C := RX11) (T := TX11) (N := 29) hx hb hts inG11 hown hK hP 0 rfl rfl 4 (Nat.le_of_ble_eq_true rfl) (hts _ q1045) (fun _ h9 => h9) rfl dX11_fails_9 ?_
    refine lv_iconst (v := 1) hx hb dX11_fails_12 (by decide) ?_
    refine lv_icmp_le (tgt := 46) hx hb dX11_fails_13 (by decide) (fun c8 => ?_) (fun c8 => ?_)
    · have hf := if_t hf c8
      refine lv_aload_n hx hb dX11_fails_46 rfl (lv_at hl 0 rfl) ?_
      refine lv_iload_n hx hb dX11_fails_47 rfl (lv_at hl 1 rfl) ?_
      refine va_put (D := G.1) (cl := vwCl) (ci := 11) (v := .int p0) (ty := .int) (C := RX11) (T := TX11) (N := 29) hx hb hts inG11 tyX11 tyX11_ok nmX11 hown hK hP hD hS 0 rfl rfl 4 (Nat.le_of_ble_eq_true rfl) (hts _ q1045) (fun _ h9 => h9) rfl (tyX11_ok 4 (Nat.le_of_ble_eq_true rfl)) rfl rfl (Nat.le_of_ble_eq_true rfl) dX11_fails_48 (fun H locs hP hD hS => ?_)
      have hP : va_P G.1 vwCl [(ad_t, .inr (11, [.ref ad_t_all, .ref ad_t_tape, .ref ad_t_isImage, .int (tI 3), .int p0, .int (tI 5), .int (tI 6), .ref ad_t_size, .ref ad_t_givenRow, .ref ad_t_givenColumn, .ref ad_t_newRow, .int (tI 11), .int (tI 12), .int (tI 13), .int (tI 14), .int (tI 15), .int (tI 16), .int (tI 17), .int (tI 18), .int (tI 19), .ref ad_t_view, .int (tI 21), .int (tI 22), .int (tI 23), .int (tI 24), .int (tI 25), .long t_value, .int (tI 27), .int (tI 28)]))] H := hP
      have hD : va_D A [(ad_t, .inr (11, [.ref ad_t_all, .ref ad_t_tape, .ref ad_t_isImage, .int (tI 3), .int p0, .int (tI 5), .int (tI 6), .ref ad_t_size, .ref ad_t_givenRow, .ref ad_t_givenColumn, .ref ad_t_newRow, .int (tI 11), .int (tI 12), .int (tI 13), .int (tI 14), .int (tI 15), .int (tI 16), .int (tI 17), .int (tI 18), .int (tI 19), .ref ad_t_view, .int (tI 21), .int (tI 22), .int (tI 23), .int (tI 24), .int (tI 25), .long t_value, .int (tI 27), .int (tI 28)]))] := hD
      refine lv_aload_n hx hb dX11_fails_51 rfl (lv_at hl 0 rfl) ?_
      refine lv_iload_n hx hb dX11_fails_52 rfl (lv_at hl 2 rfl) ?_
      refine va_put (D := G.1) (cl := vwCl) (ci := 11) (v := .int p1) (ty := .int) (C := RX11) (T := TX11) (N := 29) hx hb hts inG11 tyX11 tyX11_ok nmX11 hown hK hP hD hS 0 rfl rfl 5 (Nat.le_of_ble_eq_true rfl) (hts _ q1046) (fun _ h9 => h9) rfl (tyX11_ok 5 (Nat.le_of_ble_eq_true rfl)) rfl rfl (Nat.le_of_ble_eq_true rfl) dX11_fails_53 (fun H locs hP hD hS => ?_)
      have hP : va_P G.1 vwCl [(ad_t, .inr (11, [.ref ad_t_all, .ref ad_t_tape, .ref ad_t_isImage, .int (tI 3), .int p0, .int p1, .int (tI 6), .ref ad_t_size, .ref ad_t_givenRow, .ref ad_t_givenColumn, .ref ad_t_newRow, .int (tI 11), .int (tI 12), .int (tI 13), .int (tI 14), .int (tI 15), .int (tI 16), .int (tI 17), .int (tI 18), .int (tI 19), .ref ad_t_view, .int (tI 21), .int (tI 22), .int (tI 23), .int (tI 24), .int (tI 25), .long t_value, .int (tI 27), .int (tI 28)]))] H := hP
      have hD : va_D A [(ad_t, .inr (11, [.ref ad_t_all, .ref ad_t_tape, .ref ad_t_isImage, .int (tI 3), .int p0, .int p1, .int (tI 6), .ref ad_t_size, .ref ad_t_givenRow, .ref ad_t_givenColumn, .ref ad_t_newRow, .int (tI 11), .int (tI 12), .int (tI 13), .int (tI 14), .int (tI 15), .int (tI 16), .int (tI 17), .int (tI 18), .int (tI 19), .ref ad_t_view, .int (tI 21), .int (tI 22), .int (tI 23), .int (tI 24), .int (tI 25), .long t_value, .int (tI 27), .int (tI 28)]))] := hD
      have hf := Option.some.inj hf
      subst hf
      exact eRetV hx hb hr hlocks hP hD hS ⟨rfl, rfl⟩ dX11_fails_56
    · have hf := if_f hf c8
      refine lv_iload_n hx hb dX11_fails_16 rfl (lv_at hl 1 rfl) ?_
      refine lv_iconst (v := 1) hx hb dX11_fails_17 (by decide) ?_
      refine lv_icmp_le (tgt := 46) hx hb dX11_fails_18 (by decide) (fun c9 => ?_) (fun c9 => ?_)
      · have hf := if_t hf c9
        refine lv_aload_n hx hb dX11_fails_46 rfl (lv_at hl 0 rfl) ?_
        refine lv_iload_n hx hb dX11_fails_47 rfl (lv_at hl 1 rfl) ?_
        refine va_put (D := G.1) (cl := vwCl) (ci := 11) (v := .int p0) (ty := .int) (C := RX11) (T := TX11) (N := 29) hx hb hts inG11 tyX11 tyX11_ok nmX11 hown hK hP hD hS 0 rfl rfl 4 (Nat.le_of_ble_eq_true rfl) (hts _ q1045) (fun _ h9 => h9) rfl (tyX11_ok 4 (Nat.le_of_ble_eq_true rfl)) rfl rfl (Nat.le_of_ble_eq_true rfl) dX11_fails_48 (fun H locs hP hD hS => ?_)
        have hP : va_P G.1 vwCl [(ad_t, .inr (11, [.ref ad_t_all, .ref ad_t_tape, .ref ad_t_isImage, .int (tI 3), .int p0, .int (tI 5), .int (tI 6), .ref ad_t_size, .ref ad_t_givenRow, .ref ad_t_givenColumn, .ref ad_t_newRow, .int (tI 11), .int (tI 12), .int (tI 13), .int (tI 14), .int (tI 15), .int (tI 16), .int (tI 17), .int (tI 18), .int (tI 19), .ref ad_t_view, .int (tI 21), .int (tI 22), .int (tI 23), .int (tI 24), .int (tI 25), .long t_value, .int (tI 27), .int (tI 28)]))] H := hP
        have hD : va_D A [(ad_t, .inr (11, [.ref ad_t_all, .ref ad_t_tape, .ref ad_t_isImage, .int (tI 3), .int p0, .int (tI 5), .int (tI 6), .ref ad_t_size, .ref ad_t_givenRow, .ref ad_t_givenColumn, .ref ad_t_newRow, .int (tI 11), .int (tI 12), .int (tI 13), .int (tI 14), .int (tI 15), .int (tI 16), .int (tI 17), .int (tI 18), .int (tI 19), .ref ad_t_view, .int (tI 21), .int (tI 22), .int (tI 23), .int (tI 24), .int (tI 25), .long t_value, .int (tI 27), .int (tI 28)]))] := hD
        refine lv_aload_n hx hb dX11_fails_51 rfl (lv_at hl 0 rfl) ?_
        refine lv_iload_n hx hb dX11_fails_52 rfl (lv_at hl 2 rfl) ?_
        refine va_put (D := G.1) (cl := vwCl) (ci := 11) (v := .int p1) (ty := .int) (C := RX11) (T := TX11) (N := 29) hx hb hts inG11 tyX11 tyX11_ok nmX11 hown hK hP hD hS 0 rfl rfl 5 (Nat.le_of_ble_eq_true rfl) (hts _ q1046) (fun _ h9 => h9) rfl (tyX11_ok 5 (Nat.le_of_ble_eq_true rfl)) rfl rfl (Nat.le_of_ble_eq_true rfl) dX11_fails_53 (fun H locs hP hD hS => ?_)
        have hP : va_P G.1 vwCl [(ad_t, .inr (11, [.ref ad_t_all, .ref ad_t_tape, .ref ad_t_isImage, .int (tI 3), .int p0, .int p1, .int (tI 6), .ref ad_t_size, .ref ad_t_givenRow, .ref ad_t_givenColumn, .ref ad_t_newRow, .int (tI 11), .int (tI 12), .int (tI 13), .int (tI 14), .int (tI 15), .int (tI 16), .int (tI 17), .int (tI 18), .int (tI 19), .ref ad_t_view, .int (tI 21), .int (tI 22), .int (tI 23), .int (tI 24), .int (tI 25), .long t_value, .int (tI 27), .int (tI 28)]))] H := hP
        have hD : va_D A [(ad_t, .inr (11, [.ref ad_t_all, .ref ad_t_tape, .ref ad_t_isImage, .int (tI 3), .int p0, .int p1, .int (tI 6), .ref ad_t_size, .ref ad_t_givenRow, .ref ad_t_givenColumn, .ref ad_t_newRow, .int (tI 11), .int (tI 12), .int (tI 13), .int (tI 14), .int (tI 15), .int (tI 16), .int (tI 17), .int (tI 18), .int (tI 19), .ref ad_t_view, .int (tI 21), .int (tI 22), .int (tI 23), .int (tI 24), .int (tI 25), .long t_value, .int (tI 27), .int (tI 28)]))] := hD
        have hf := Option.some.inj hf
        subst hf
        exact eRetV hx hb hr hlocks hP hD hS ⟨rfl, rfl⟩ dX11_fails_56
      · have hf := if_f hf c9
        refine lv_iload_n hx hb dX11_fails_21 rfl (lv_at hl 2 rfl) ?_
        refine lv_aload_n hx hb dX11_fails_22 rfl (lv_at hl 0 rfl) ?_
        refine va_get (D := G.1) (cl := vwCl) (ci := 11) (v := .int (tI 5)) (C := RX11) (T := TX11) (N := 29) hx hb hts inG11 hown hK hP 0 rfl rfl 5 (Nat.le_of_ble_eq_true rfl) (hts _ q1046) (fun _ h9 => h9) rfl dX11_fails_23 ?_
        refine lv_icmp_gt (tgt := 45) hx hb dX11_fails_26 (by decide) (fun c10 => ?_) (fun c10 => ?_)
        · have hf := if_t hf c10
          have hf := Option.some.inj hf
          subst hf
          exact eRetV hx hb hr hlocks hP hD hS ⟨rfl, rfl⟩ dX11_fails_45
        · have hf := if_f hf c10
          refine lv_iload_n hx hb dX11_fails_29 rfl (lv_at hl 2 rfl) ?_
          refine lv_aload_n hx hb dX11_fails_30 rfl (lv_at hl 0 rfl) ?_
          refine va_get (D := G.1) (cl := vwCl) (ci := 11) (v := .int (tI 5)) (C := RX11) (T := TX11) (N := 29) hx hb hts inG11 hown hK hP 0 rfl rfl 5 (Nat.le_of_ble_eq_true rfl) (hts _ q1046) (fun _ h9 => h9) rfl dX11_fails_31 ?_
          refine lv_icmp_ne (tgt := 46) hx hb dX11_fails_34 (by decide) (fun c11 => ?_) (fun c11 => ?_)
          · have hf := if_f hf c11
            refine lv_aload_n hx hb dX11_fails_46 rfl (lv_at hl 0 rfl) ?_
            refine lv_iload_n hx hb dX11_fails_47 rfl (lv_at hl 1 rfl) ?_
            refine va_put (D := G.1) (cl := vwCl) (ci := 11) (v := .int p0) (ty := .int) (C := RX11) (T := TX11) (N := 29) hx hb hts inG11 tyX11 tyX11_ok nmX11 hown hK hP hD hS 0 rfl rfl 4 (Nat.le_of_ble_eq_true rfl) (hts _ q1045) (fun _ h9 => h9) rfl (tyX11_ok 4 (Nat.le_of_ble_eq_true rfl)) rfl rfl (Nat.le_of_ble_eq_true rfl) dX11_fails_48 (fun H locs hP hD hS => ?_)
            have hP : va_P G.1 vwCl [(ad_t, .inr (11, [.ref ad_t_all, .ref ad_t_tape, .ref ad_t_isImage, .int (tI 3), .int p0, .int (tI 5), .int (tI 6), .ref ad_t_size, .ref ad_t_givenRow, .ref ad_t_givenColumn, .ref ad_t_newRow, .int (tI 11), .int (tI 12), .int (tI 13), .int (tI 14), .int (tI 15), .int (tI 16), .int (tI 17), .int (tI 18), .int (tI 19), .ref ad_t_view, .int (tI 21), .int (tI 22), .int (tI 23), .int (tI 24), .int (tI 25), .long t_value, .int (tI 27), .int (tI 28)]))] H := hP
            have hD : va_D A [(ad_t, .inr (11, [.ref ad_t_all, .ref ad_t_tape, .ref ad_t_isImage, .int (tI 3), .int p0, .int (tI 5), .int (tI 6), .ref ad_t_size, .ref ad_t_givenRow, .ref ad_t_givenColumn, .ref ad_t_newRow, .int (tI 11), .int (tI 12), .int (tI 13), .int (tI 14), .int (tI 15), .int (tI 16), .int (tI 17), .int (tI 18), .int (tI 19), .ref ad_t_view, .int (tI 21), .int (tI 22), .int (tI 23), .int (tI 24), .int (tI 25), .long t_value, .int (tI 27), .int (tI 28)]))] := hD
            refine lv_aload_n hx hb dX11_fails_51 rfl (lv_at hl 0 rfl) ?_
            refine lv_iload_n hx hb dX11_fails_52 rfl (lv_at hl 2 rfl) ?_
            refine va_put (D := G.1) (cl := vwCl) (ci := 11) (v := .int p1) (ty := .int) (C := RX11) (T := TX11) (N := 29) hx hb hts inG11 tyX11 tyX11_ok nmX11 hown hK hP hD hS 0 rfl rfl 5 (Nat.le_of_ble_eq_true rfl) (hts _ q1046) (fun _ h9 => h9) rfl (tyX11_ok 5 (Nat.le_of_ble_eq_true rfl)) rfl rfl (Nat.le_of_ble_eq_true rfl) dX11_fails_53 (fun H locs hP hD hS => ?_)
            have hP : va_P G.1 vwCl [(ad_t, .inr (11, [.ref ad_t_all, .ref ad_t_tape, .ref ad_t_isImage, .int (tI 3), .int p0, .int p1, .int (tI 6), .ref ad_t_size, .ref ad_t_givenRow, .ref ad_t_givenColumn, .ref ad_t_newRow, .int (tI 11), .int (tI 12), .int (tI 13), .int (tI 14), .int (tI 15), .int (tI 16), .int (tI 17), .int (tI 18), .int (tI 19), .ref ad_t_view, .int (tI 21), .int (tI 22), .int (tI 23), .int (tI 24), .int (tI 25), .long t_value, .int (tI 27), .int (tI 28)]))] H := hP
            have hD : va_D A [(ad_t, .inr (11, [.ref ad_t_all, .ref ad_t_tape, .ref ad_t_isImage, .int (tI 3), .int p0, .int p1, .int (tI 6), .ref ad_t_size, .ref ad_t_givenRow, .ref ad_t_givenColumn, .ref ad_t_newRow, .int (tI 11), .int (tI 12), .int (tI 13), .int (tI 14), .int (tI 15), .int (tI 16), .int (tI 17), .int (tI 18), .int (tI 19), .ref ad_t_view, .int (tI 21), .int (tI 22), .int (tI 23), .int (tI 24), .int (tI 25), .long t_value, .int (tI 27), .int (tI 28)]))] := hD
            have hf := Option.some.inj hf
            subst hf
            exact eRetV hx hb hr hlocks hP hD hS ⟨rfl, rfl⟩ dX11_fails_56
          · have hf := if_t hf c11
            refine lv_iload_n hx hb dX11_fails_37 rfl (lv_at hl 1 rfl) ?_
            refine lv_aload_n hx hb dX11_fails_38 rfl (lv_at hl 0 rfl) ?_
            refine va_get (D := G.1) (cl := vwCl) (ci := 11) (v := .int (tI 4)) (C := RX11) (T := TX11) (N := 29) hx hb hts inG11 hown hK hP 0 rfl rfl 4 (Nat.le_of_ble_eq_true rfl) (hts _ q1045) (fun _ h9 => h9) rfl dX11_fails_39 ?_
            refine lv_icmp_le (tgt := 46) hx hb dX11_fails_42 (by decide) (fun c12 => ?_) (fun c12 => ?_)
            · have hf := if_t hf c12
              refine lv_aload_n hx hb dX11_fails_46 rfl (lv_at hl 0 rfl) ?_
              refine lv_iload_n hx hb dX11_fails_47 rfl (lv_at hl 1 rfl) ?_
              refine va_put (D := G.1) (cl := vwCl) (ci := 11) (v := .int p0) (ty := .int) (C := RX11) (T := TX11) (N := 29) hx hb hts inG11 tyX11 tyX11_ok nmX11 hown hK hP hD hS 0 rfl rfl 4 (Nat.le_of_ble_eq_true rfl) (hts _ q1045) (fun _ h9 => h9) rfl (tyX11_ok 4 (Nat.le_of_ble_eq_true rfl)) rfl rfl (Nat.le_of_ble_eq_true rfl) dX11_fails_48 (fun H locs hP hD hS => ?_)
              have hP : va_P G.1 vwCl [(ad_t, .inr (11, [.ref ad_t_all, .ref ad_t_tape, .ref ad_t_isImage, .int (tI 3), .int p0, .int (tI 5), .int (tI 6), .ref ad_t_size, .ref ad_t_givenRow, .ref ad_t_givenColumn, .ref ad_t_newRow, .int (tI 11), .int (tI 12), .int (tI 13), .int (tI 14), .int (tI 15), .int (tI 16), .int (tI 17), .int (tI 18), .int (tI 19), .ref ad_t_view, .int (tI 21), .int (tI 22), .int (tI 23), .int (tI 24), .int (tI 25), .long t_value, .int (tI 27), .int (tI 28)]))] H := hP
              have hD : va_D A [(ad_t, .inr (11, [.ref ad_t_all, .ref ad_t_tape, .ref ad_t_isImage, .int (tI 3), .int p0, .int (tI 5), .int (tI 6), .ref ad_t_size, .ref ad_t_givenRow, .ref ad_t_givenColumn, .ref ad_t_newRow, .int (tI 11), .int (tI 12), .int (tI 13), .int (tI 14), .int (tI 15), .int (tI 16), .int (tI 17), .int (tI 18), .int (tI 19), .ref ad_t_view, .int (tI 21), .int (tI 22), .int (tI 23), .int (tI 24), .int (tI 25), .long t_value, .int (tI 27), .int (tI 28)]))] := hD
              refine lv_aload_n hx hb dX11_fails_51 rfl (lv_at hl 0 rfl) ?_
              refine lv_iload_n hx hb dX11_fails_52 rfl (lv_at hl 2 rfl) ?_
              refine va_put (D := G.1) (cl := vwCl) (ci := 11) (v := .int p1) (ty := .int) (C := RX11) (T := TX11) (N := 29) hx hb hts inG11 tyX11 tyX11_ok nmX11 hown hK hP hD hS 0 rfl rfl 5 (Nat.le_of_ble_eq_true rfl) (hts _ q1046) (fun _ h9 => h9) rfl (tyX11_ok 5 (Nat.le_of_ble_eq_true rfl)) rfl rfl (Nat.le_of_ble_eq_true rfl) dX11_fails_53 (fun H locs hP hD hS => ?_)
              have hP : va_P G.1 vwCl [(ad_t, .inr (11, [.ref ad_t_all, .ref ad_t_tape, .ref ad_t_isImage, .int (tI 3), .int p0, .int p1, .int (tI 6), .ref ad_t_size, .ref ad_t_givenRow, .ref ad_t_givenColumn, .ref ad_t_newRow, .int (tI 11), .int (tI 12), .int (tI 13), .int (tI 14), .int (tI 15), .int (tI 16), .int (tI 17), .int (tI 18), .int (tI 19), .ref ad_t_view, .int (tI 21), .int (tI 22), .int (tI 23), .int (tI 24), .int (tI 25), .long t_value, .int (tI 27), .int (tI 28)]))] H := hP
              have hD : va_D A [(ad_t, .inr (11, [.ref ad_t_all, .ref ad_t_tape, .ref ad_t_isImage, .int (tI 3), .int p0, .int p1, .int (tI 6), .ref ad_t_size, .ref ad_t_givenRow, .ref ad_t_givenColumn, .ref ad_t_newRow, .int (tI 11), .int (tI 12), .int (tI 13), .int (tI 14), .int (tI 15), .int (tI 16), .int (tI 17), .int (tI 18), .int (tI 19), .ref ad_t_view, .int (tI 21), .int (tI 22), .int (tI 23), .int (tI 24), .int (tI 25), .long t_value, .int (tI 27), .int (tI 28)]))] := hD
              have hf := Option.some.inj hf
              subst hf
              exact eRetV hx hb hr hlocks hP hD hS ⟨rfl, rfl⟩ dX11_fails_56
            · have hf := if_f hf c12
              have hf := Option.some.inj hf
              subst hf
              exact eRetV hx hb hr hlocks hP hD hS ⟨rfl, rfl⟩ dX11_fails_45

def fX11_isGood (tI : Nat → Int32) : Bool :=
  (if (tI 4) = (1 : Int32) then false else true)
set_option maxRecDepth 100000 in
set_option maxHeartbeats 4000000 in
theorem tX11_isGood (l : Launch) (G : gG) (ad_t ad_t_all ad_t_tape ad_t_isImage ad_t_size ad_t_givenRow ad_t_givenColumn ad_t_newRow ad_t_view : Nat) (tI : Nat → Int32) (t_value : Int64) (o : Bool) (hf : fX11_isGood tI = o) : mP G l yX11_isGood cX11_isGood 1 (some .boolean) 0 0 [.ref ad_t] [(ad_t, .inr (11, [.ref ad_t_all, .ref ad_t_tape, .ref ad_t_isImage, .int (tI 3), .int (tI 4), .int (tI 5), .int (tI 6), .ref ad_t_size, .ref ad_t_givenRow, .ref ad_t_givenColumn, .ref ad_t_newRow, .int (tI 11), .int (tI 12), .int (tI 13), .int (tI 14), .int (tI 15), .int (tI 16), .int (tI 17), .int (tI 18), .int (tI 19), .ref ad_t_view, .int (tI 21), .int (tI 22), .int (tI 23), .int (tI 24), .int (tI 25), .long t_value, .int (tI 27), .int (tI 28)]))] (some (.int (bi o))) := by
  refine mP_of (by decide) (Nat.le_of_ble_eq_true rfl) ?_
  intro p e s m below meth cd ls hx hb hml hown hts hr hlocks hl hP hG
  have hK := hG.1
  have hown : s.vm.findClass RX11 = some m.cls := hown
  have hl : lv_has ls 1 [(0, .ref ad_t)] := hl
  have hS : va_S no s.heap s.heap [] := va_S.rf
  generalize ([] : List Loc) = locs at hS ⊢
  unfold fX11_isGood at hf
  show wG p l e 0 0 s m [.ref ad_t] below meth cd s.heap locs (pQ (some (.int (bi o)))) no (F0 m 0 ls [])
  refine lv_aload_n hx hb dX11_isGood_0 rfl (lv_at hl 0 rfl) ?_
  refine va_get (D := G.1) (cl := vwCl) (ci := 11) (v := .int (tI 4)) (C := RX11) (T := TX11) (N := 29) hx hb hts inG11 hown hK hP 0 rfl rfl 4 (Nat.le_of_ble_eq_true rfl) (hts _ q1045) (fun _ h9 => h9) rfl dX11_isGood_1 ?_
  refine lv_iconst (v := 1) hx hb dX11_isGood_4 (by decide) ?_
  refine lv_icmp_eq (tgt := 12) hx hb dX11_isGood_5 (by decide) (fun c2 => ?_) (fun c2 => ?_)
  · have hf := if_t hf c2
    refine lv_iconst (v := 0) hx hb dX11_isGood_12 (by decide) ?_
    subst hf
    exact pRetZ (v := false) hx hb hr hlocks hS dX11_isGood_13
  · have hf := if_f hf c2
    refine lv_iconst (v := 1) hx hb dX11_isGood_8 (by decide) ?_
    refine lv_goto (tgt := 13) hx hb dX11_isGood_9 (by decide) ?_
    subst hf
    exact pRetZ (v := true) hx hb hr hlocks hS dX11_isGood_13

def fX11_isWord (tI : Nat → Int32) (t_value : Int64) (p0 : Int64) : Bool :=
  (if (bi (fX11_isGood tI)) = 0 then false else (if (tI 24) = (1 : Int32) then (if (lg_cmp t_value p0) = 0 then true else false) else false))
set_option maxRecDepth 100000 in
set_option maxHeartbeats 4000000 in
theorem tX11_isWord (l : Launch) (G : gG) (ad_t ad_t_all ad_t_tape ad_t_isImage ad_t_size ad_t_givenRow ad_t_givenColumn ad_t_newRow ad_t_view : Nat) (tI : Nat → Int32) (t_value : Int64) (p0 : Int64) (o : Bool) (hf : fX11_isWord tI t_value p0 = o) : mP G l yX11_isWord cX11_isWord 3 (some .boolean) 1 20 [.ref ad_t, .long p0] [(ad_t, .inr (11, [.ref ad_t_all, .ref ad_t_tape, .ref ad_t_isImage, .int (tI 3), .int (tI 4), .int (tI 5), .int (tI 6), .ref ad_t_size, .ref ad_t_givenRow, .ref ad_t_givenColumn, .ref ad_t_newRow, .int (tI 11), .int (tI 12), .int (tI 13), .int (tI 14), .int (tI 15), .int (tI 16), .int (tI 17), .int (tI 18), .int (tI 19), .ref ad_t_view, .int (tI 21), .int (tI 22), .int (tI 23), .int (tI 24), .int (tI 25), .long t_value, .int (tI 27), .int (tI 28)]))] (some (.int (bi o))) := by
  refine mP_of (by decide) (Nat.le_of_ble_eq_true rfl) ?_
  intro p e s m below meth cd ls hx hb hml hown hts hr hlocks hl hP hG
  have hK := hG.1
  have hown : s.vm.findClass RX11 = some m.cls := hown
  have hl : lv_has ls 3 [(0, .ref ad_t), (1, .long p0)] := hl
  have hS : va_S no s.heap s.heap [] := va_S.rf
  generalize ([] : List Loc) = locs at hS ⊢
  unfold fX11_isWord at hf
  show wG p l e 1 20 s m [.ref ad_t, .long p0] below meth cd s.heap locs (pQ (some (.int (bi o)))) no (F0 m 0 ls [])
  refine lv_aload_n hx hb dX11_isWord_0 rfl (lv_at hl 0 rfl) ?_
  refine kPV (tX11_isGood l G ad_t ad_t_all ad_t_tape ad_t_isImage ad_t_size ad_t_givenRow ad_t_givenColumn ad_t_newRow ad_t_view tI t_value _ rfl) ⟨hx, hb, hml, hown, hts⟩ q1456 q1458 q85 q108 q1459 okyX11_isGood ⟨Nat.le_of_ble_eq_true rfl, Nat.le_of_ble_eq_true rfl⟩ hP hG hS [0] rfl 0 rfl rfl hl.1 rfl (Nat.le_of_ble_eq_true rfl) dX11_isWord_1 ⟨Nat.zero_le _, Nat.zero_le _⟩ (fun locs hS => ?_)
  refine W.eq (g2 := F0 m 4 ls [.int (bi (fX11_isGood tI))]) rfl ?_
  refine lv_if_eq (tgt := 28) hx hb dX11_isWord_4 (by decide) (fun c4 => ?_) (fun c4 => ?_)
  · have hf := if_t hf c4
    refine lv_iconst (v := 0) hx hb dX11_isWord_28 (by decide) ?_
    subst hf
    exact pRetZ (v := false) hx hb hr hlocks hS dX11_isWord_29
  · have hf := if_f hf c4
    refine lv_aload_n hx hb dX11_isWord_7 rfl (lv_at hl 0 rfl) ?_
    refine va_get (D := G.1) (cl := vwCl) (ci := 11) (v := .int (tI 24)) (C := RX11) (T := TX11) (N := 29) hx hb hts inG11 hown hK hP 0 rfl rfl 24 (Nat.le_of_ble_eq_true rfl) (hts _ q1065) (fun _ h9 => h9) rfl dX11_isWord_8 ?_
    refine lv_iconst (v := 1) hx hb dX11_isWord_11 (by decide) ?_
    refine lv_icmp_ne (tgt := 28) hx hb dX11_isWord_12 (by decide) (fun c5 => ?_) (fun c5 => ?_)
    · have hf := if_f hf c5
      refine lv_iconst (v := 0) hx hb dX11_isWord_28 (by decide) ?_
      subst hf
      exact pRetZ (v := false) hx hb hr hlocks hS dX11_isWord_29
    · have hf := if_t hf c5
      refine lv_aload_n hx hb dX11_isWord_15 rfl (lv_at hl 0 rfl) ?_
      refine va_get (D := G.1) (cl := vwCl) (ci := 11) (v := .long t_value) (C := RX11) (T := TX11) (N := 29) hx hb hts inG11 hown hK hP 0 rfl rfl 26 (Nat.le_of_ble_eq_true rfl) (hts _ q1067) (fun _ h9 => h9) rfl dX11_isWord_16 ?_
      refine lv_lload_n hx hb dX11_isWord_19 rfl (lv_at hl 1 rfl) ?_
      refine W.lcmp hx hb dX11_isWord_20 ?_
      refine lv_if_ne (tgt := 28) hx hb dX11_isWord_21 (by decide) (fun c6 => ?_) (fun c6 => ?_)
      · have hf := if_f hf c6
        refine lv_iconst (v := 0) hx hb dX11_isWord_28 (by decide) ?_
        subst hf
        exact pRetZ (v := false) hx hb hr hlocks hS dX11_isWord_29
      · have hf := if_t hf c6
        refine lv_iconst (v := 1) hx hb dX11_isWord_24 (by decide) ?_
        refine lv_goto (tgt := 29) hx hb dX11_isWord_25 (by decide) ?_
        subst hf
        exact pRetZ (v := true) hx hb hr hlocks hS dX11_isWord_29

def fX11_numeral_j24 (x1 : Int32) (x2 : Int32) (tI : Nat → Int32) (t_value : Int64) (t_tape : Nat → Int32) : Option (Int32 × (Nat → Int32) × (Int64)) :=
  (if (bi (fX11_isGood tI)) = 0 then some ((-1 : Int32), tI, t_value) else bn (fX11_takes (upd (upd tI 27 (t_value.toInt32)) 28 (tI 25)) t_value t_tape) fun a2 => (if (bi (fX11_isIn (a2.1 27) x1 x2)) = 0 then bn (fX11_fails a2.1 (2 : Int32) (a2.1 28)) fun a5 => some ((-1 : Int32), a5, a2.2) else some ((a2.1 27), a2.1, a2.2)))
def fX11_numeral (tI : Nat → Int32) (t_value : Int64) (t_tape : Nat → Int32) (p0 : Int32) (p1 : Int32) : Option (Int32 × (Nat → Int32) × (Int64)) :=
  (if (bi (fX11_isGood tI)) = 0 then fX11_numeral_j24 p0 p1 tI t_value t_tape else (if (tI 24) = (2 : Int32) then fX11_numeral_j24 p0 p1 tI t_value t_tape else bn (fX11_fails tI (1 : Int32) (tI 25)) fun a11 => fX11_numeral_j24 p0 p1 a11 t_value t_tape))
set_option maxRecDepth 100000 in
set_option maxHeartbeats 4000000 in
theorem tX11_numeral (l : Launch) (G : gG) (ad_t ad_t_all ad_t_tape ad_t_isImage ad_t_size ad_t_givenRow ad_t_givenColumn ad_t_newRow ad_t_view : Nat) (tI : Nat → Int32) (t_value : Int64) (t_tape : Nat → Int32) (p0 : Int32) (p1 : Int32) (o : Int32 × (Nat → Int32) × (Int64)) (hf : fX11_numeral tI t_value t_tape p0 p1 = some o) : mE G l yX11_numeral cX11_numeral 3 (some .int) 2 42 0 0 [.ref ad_t, .int p0, .int p1] [(ad_t, .inr (11, [.ref ad_t_all, .ref ad_t_tape, .ref ad_t_isImage, .int (tI 3), .int (tI 4), .int (tI 5), .int (tI 6), .ref ad_t_size, .ref ad_t_givenRow, .ref ad_t_givenColumn, .ref ad_t_newRow, .int (tI 11), .int (tI 12), .int (tI 13), .int (tI 14), .int (tI 15), .int (tI 16), .int (tI 17), .int (tI 18), .int (tI 19), .ref ad_t_view, .int (tI 21), .int (tI 22), .int (tI 23), .int (tI 24), .int (tI 25), .long t_value, .int (tI 27), .int (tI 28)])), (ad_t_tape, .inl (G.2.1 0, 300, .inl t_tape))] (fun r w => r = (some (.int o.1)) ∧ w = [(ad_t, .inr (11, [.ref ad_t_all, .ref ad_t_tape, .ref ad_t_isImage, .int (o.2.1 3), .int (o.2.1 4), .int (o.2.1 5), .int (o.2.1 6), .ref ad_t_size, .ref ad_t_givenRow, .ref ad_t_givenColumn, .ref ad_t_newRow, .int (o.2.1 11), .int (o.2.1 12), .int (o.2.1 13), .int (o.2.1 14), .int (o.2.1 15), .int (o.2.1 16), .int (o.2.1 17), .int (o.2.1 18), .int (o.2.1 19), .ref ad_t_view, .int (o.2.1 21), .int (o.2.1 22), .int (o.2.1 23), .int (o.2.1 24), .int (o.2.1 25), .long o.2.2, .int (o.2.1 27), .int (o.2.1 28)])), (ad_t_tape, .inl (G.2.1 0, 300, .inl t_tape))]) := by
  refine mE_of (by decide) (Nat.le_of_ble_eq_true rfl) ?_
  intro p e s m below meth cd ls A hx hb hml hown hts hr hlocks hnm hl hA hP hD hS hG
  have hK := hG.1
  have hown : s.vm.findClass RX11 = some m.cls := hown
  have hl : lv_has ls 3 [(0, .ref ad_t), (1, .int p0), (2, .int p1)] := hl
  have hS := hS
  unfold fX11_numeral at hf
  obtain ⟨H, locs, eH, eL⟩ : ∃ (H : Heap) (locs : List Loc), H = s.heap ∧ locs = [] := ⟨_, _, rfl, rfl⟩
  have hP : va_P G.1 vwCl [(ad_t, .inr (11, [.ref ad_t_all, .ref ad_t_tape, .ref ad_t_isImage, .int (tI 3), .int (tI 4), .int (tI 5), .int (tI 6), .ref ad_t_size, .ref ad_t_givenRow, .ref ad_t_givenColumn, .ref ad_t_newRow, .int (tI 11), .int (tI 12), .int (tI 13), .int (tI 14), .int (tI 15), .int (tI 16), .int (tI 17), .int (tI 18), .int (tI 19), .ref ad_t_view, .int (tI 21), .int (tI 22), .int (tI 23), .int (tI 24), .int (tI 25), .long t_value, .int (tI 27), .int (tI 28)])), (ad_t_tape, .inl (G.2.1 0, 300, .inl t_tape))] H := eH ▸ hP
  have hS : va_S A s.heap H locs := by rw [eH, eL]; exact hS
  suffices hgo : wG p l e 2 42 s m [.ref ad_t, .int p0, .int p1] below meth cd H locs (eQ G A (fun r w => r = (some (.int o.1)) ∧ w = [(ad_t, .inr (11, [.ref ad_t_all, .ref ad_t_tape, .ref ad_t_isImage, .int (o.2.1 3), .int (o.2.1 4), .int (o.2.1 5), .int (o.2.1 6), .ref ad_t_size, .ref ad_t_givenRow, .ref ad_t_givenColumn, .ref ad_t_newRow, .int (o.2.1 11), .int (o.2.1 12), .int (o.2.1 13), .int (o.2.1 14), .int (o.2.1 15), .int (o.2.1 16), .int (o.2.1 17), .int (o.2.1 18), .int (o.2.1 19), .ref ad_t_view, .int (o.2.1 21), .int (o.2.1 22), .int (o.2.1 23), .int (o.2.1 24), .int (o.2.1 25), .long o.2.2, .int (o.2.1 27), .int (o.2.1 28)])), (ad_t_tape, .inl (G.2.1 0, 300, .inl t_tape))])) A (F0 m 0 ls []) by rw [eH, eL] at hgo; exact hgo
  clear eH eL
  refine lv_aload_n hx hb dX11_numeral_0 rfl (lv_at hl 0 rfl) ?_
  refine kPV (tX11_isGood l G ad_t ad_t_all ad_t_tape ad_t_isImage ad_t_size ad_t_givenRow ad_t_givenColumn ad_t_newRow ad_t_view tI t_value _ rfl) ⟨hx, hb, hml, hown, hts⟩ q1456 q1458 q85 q108 q1459 okyX11_isGood ⟨Nat.le_of_ble_eq_true rfl, Nat.le_of_ble_eq_true rfl⟩ hP hG hS [0] rfl 0 rfl rfl hl.1 rfl (Nat.le_of_ble_eq_true rfl) dX11_numeral_1 ⟨Nat.zero_le _, Nat.zero_le _⟩ (fun locs hS => ?_)
  refine W.eq (g2 := F0 m 4 ls [.int (bi (fX11_isGood tI))]) rfl ?_
  have J24_k14 : ∀ (g13 : Nat → Int32) (H : Heap) (locs : List Loc) (ls : Array Slot), lv_has ls 3 [(0, .ref ad_t), (1, .int p0), (2, .int p1)] → va_P G.1 vwCl [(ad_t, .inr (11, [.ref ad_t_all, .ref ad_t_tape, .ref ad_t_isImage, .int (g13 3), .int (g13 4), .int (g13 5), .int (g13 6), .ref ad_t_size, .ref ad_t_givenRow, .ref ad_t_givenColumn, .ref ad_t_newRow, .int (g13 11), .int (g13 12), .int (g13 13), .int (g13 14), .int (g13 15), .int (g13 16), .int (g13 17), .int (g13 18), .int (g13 19), .ref ad_t_view, .int (g13 21), .int (g13 22), .int (g13 23), .int (g13 24), .int (g13 25), .long t_value, .int (g13 27), .int (g13 28)])), (ad_t_tape, .inl (G.2.1 0, 300, .inl t_tape))] H → va_D A [(ad_t, .inr (11, [.ref ad_t_all, .ref ad_t_tape, .ref ad_t_isImage, .int (g13 3), .int (g13 4), .int (g13 5), .int (g13 6), .ref ad_t_size, .ref ad_t_givenRow, .ref ad_t_givenColumn, .ref ad_t_newRow, .int (g13 11), .int (g13 12), .int (g13 13), .int (g13 14), .int (g13 15), .int (g13 16), .int (g13 17), .int (g13 18), .int (g13 19), .ref ad_t_view, .int (g13 21), .int (g13 22), .int (g13 23), .int (g13 24), .int (g13 25), .long t_value, .int (g13 27), .int (g13 28)])), (ad_t_tape, .inl (G.2.1 0, 300, .inl t_tape))] → va_S A s.heap H locs → fX11_numeral_j24 p0 p1 g13 t_value t_tape = some o → wG p l e 2 42 s m [.ref ad_t, .int p0, .int p1] below meth cd H locs (eQ G A (fun r w => r = (some (.int o.1)) ∧ w = [(ad_t, .inr (11, [.ref ad_t_all, .ref ad_t_tape, .ref ad_t_isImage, .int (o.2.1 3), .int (o.2.1 4), .int (o.2.1 5), .int (o.2.1 6), .ref ad_t_size, .ref ad_t_givenRow, .ref ad_t_givenColumn, .ref ad_t_newRow, .int (o.2.1 11), .int (o.2.1 12), .int (o.2.1 13), .int (o.2.1 14), .int (o.2.1 15), .int (o.2.1 16), .int (o.2.1 17), .int (o.2.1 18), .int (o.2.1 19), .ref ad_t_view, .int (o.2.1 21), .int (o.2.1 22), .int (o.2.1 23), .int (o.2.1 24), .int (o.2.1 25), .long o.2.2, .int (o.2.1 27), .int (o.2.1 28)])), (ad_t_tape, .inl (G.2.1 0, 300, .inl t_tape))])) A (F0 m 24 ls []) := by
    intro g13 H locs ls hl hP hD hS hf
    unfold fX11_numeral_j24 at hf
    refine lv_aload_n hx hb dX11_numeral_24 rfl (lv_at hl 0 rfl) ?_
    refine kPV (tX11_isGood l G ad_t ad_t_all ad_t_tape ad_t_isImage ad_t_size ad_t_givenRow ad_t_givenColumn ad_t_newRow ad_t_view g13 t_value _ rfl) ⟨hx, hb, hml, hown, hts⟩ q1456 q1458 q85 q108 q1459 okyX11_isGood ⟨Nat.le_of_ble_eq_true rfl, Nat.le_of_ble_eq_true rfl⟩ hP hG hS [0] rfl 0 rfl rfl hl.1 rfl (Nat.le_of_ble_eq_true rfl) dX11_numeral_25 ⟨Nat.zero_le _, Nat.zero_le _⟩ (fun locs hS => ?_)
    refine W.eq (g2 := F0 m 28 ls [.int (bi (fX11_isGood g13))]) rfl ?_
    refine lv_if_ne (tgt := 33) hx hb dX11_numeral_28 (by decide) (fun c15 => ?_) (fun c15 => ?_)
    · have hf := if_f hf c15
      refine lv_aload_n hx hb dX11_numeral_33 rfl (lv_at hl 0 rfl) ?_
      refine lv_aload_n hx hb dX11_numeral_34 rfl (lv_at hl 0 rfl) ?_
      refine va_get (D := G.1) (cl := vwCl) (ci := 11) (v := .int (g13 25)) (C := RX11) (T := TX11) (N := 29) hx hb hts inG11 hown hK hP 0 rfl rfl 25 (Nat.le_of_ble_eq_true rfl) (hts _ q1066) (fun _ h9 => h9) rfl dX11_numeral_35 ?_
      refine va_put (D := G.1) (cl := vwCl) (ci := 11) (v := .int (g13 25)) (ty := .int) (C := RX11) (T := TX11) (N := 29) hx hb hts inG11 tyX11 tyX11_ok nmX11 hown hK hP hD hS 0 rfl rfl 28 (Nat.le_of_ble_eq_true rfl) (hts _ q1069) (fun _ h9 => h9) rfl (tyX11_ok 28 (Nat.le_of_ble_eq_true rfl)) rfl rfl (Nat.le_of_ble_eq_true rfl) dX11_numeral_38 (fun H locs hP hD hS => ?_)
      have hP : va_P G.1 vwCl [(ad_t, .inr (11, [.ref ad_t_all, .ref ad_t_tape, .ref ad_t_isImage, .int (g13 3), .int (g13 4), .int (g13 5), .int (g13 6), .ref ad_t_size, .ref ad_t_givenRow, .ref ad_t_givenColumn, .ref ad_t_newRow, .int (g13 11), .int (g13 12), .int (g13 13), .int (g13 14), .int (g13 15), .int (g13 16), .int (g13 17), .int (g13 18), .int (g13 19), .ref ad_t_view, .int (g13 21), .int (g13 22), .int (g13 23), .int (g13 24), .int (g13 25), .long t_value, .int (g13 27), .int (g13 25)])), (ad_t_tape, .inl (G.2.1 0, 300, .inl t_tape))] H := hP
      have hD : va_D A [(ad_t, .inr (11, [.ref ad_t_all, .ref ad_t_tape, .ref ad_t_isImage, .int (g13 3), .int (g13 4), .int (g13 5), .int (g13 6), .ref ad_t_size, .ref ad_t_givenRow, .ref ad_t_givenColumn, .ref ad_t_newRow, .int (g13 11), .int (g13 12), .int (g13 13), .int (g13 14), .int (g13 15), .int (g13 16), .int (g13 17), .int (g13 18), .int (g13 19), .ref ad_t_view, .int (g13 21), .int (g13 22), .int (g13 23), .int (g13 24), .int (g13 25), .long t_value, .int (g13 27), .int (g13 25)])), (ad_t_tape, .inl (G.2.1 0, 300, .inl t_tape))] := hD
      refine lv_aload_n hx hb dX11_numeral_41 rfl (lv_at hl 0 rfl) ?_
      refine lv_aload_n hx hb dX11_numeral_42 rfl (lv_at hl 0 rfl) ?_
      refine va_get (D := G.1) (cl := vwCl) (ci := 11) (v := .long t_value) (C := RX11) (T := TX11) (N := 29) hx hb hts inG11 hown hK hP 0 rfl rfl 26 (Nat.le_of_ble_eq_true rfl) (hts _ q1067) (fun _ h9 => h9) rfl dX11_numeral_43 ?_
      refine lv_l2i (v := (t_value.toInt32)) hx hb dX11_numeral_46 rfl ?_
      refine va_put (D := G.1) (cl := vwCl) (ci := 11) (v := .int (t_value.toInt32)) (ty := .int) (C := RX11) (T := TX11) (N := 29) hx hb hts inG11 tyX11 tyX11_ok nmX11 hown hK hP hD hS 0 rfl rfl 27 (Nat.le_of_ble_eq_true rfl) (hts _ q1068) (fun _ h9 => h9) rfl (tyX11_ok 27 (Nat.le_of_ble_eq_true rfl)) rfl rfl (Nat.le_of_ble_eq_true rfl) dX11_numeral_47 (fun H locs hP hD hS => ?_)
      have hP : va_P G.1 vwCl [(ad_t, .inr (11, [.ref ad_t_all, .ref ad_t_tape, .ref ad_t_isImage, .int (g13 3), .int (g13 4), .int (g13 5), .int (g13 6), .ref ad_t_size, .ref ad_t_givenRow, .ref ad_t_givenColumn, .ref ad_t_newRow, .int (g13 11), .int (g13 12), .int (g13 13), .int (g13 14), .int (g13 15), .int (g13 16), .int (g13 17), .int (g13 18), .int (g13 19), .ref ad_t_view, .int (g13 21), .int (g13 22), .int (g13 23), .int (g13 24), .int (g13 25), .long t_value, .int (t_value.toInt32), .int (g13 25)])), (ad_t_tape, .inl (G.2.1 0, 300, .inl t_tape))] H := hP
      have hD : va_D A [(ad_t, .inr (11, [.ref ad_t_all, .ref ad_t_tape, .ref ad_t_isImage, .int (g13 3), .int (g13 4), .int (g13 5), .int (g13 6), .ref ad_t_size, .ref ad_t_givenRow, .ref ad_t_givenColumn, .ref ad_t_newRow, .int (g13 11), .int (g13 12), .int (g13 13), .int (g13 14), .int (g13 15), .int (g13 16), .int (g13 17), .int (g13 18), .int (g13 19), .ref ad_t_view, .int (g13 21), .int (g13 22), .int (g13 23), .int (g13 24), .int (g13 25), .long t_value, .int (t_value.toInt32), .int (g13 25)])), (ad_t_tape, .inl (G.2.1 0, 300, .inl t_tape))] := hD
      refine lv_aload_n hx hb dX11_numeral_50 rfl (lv_at hl 0 rfl) ?_
      obtain ⟨a16, h17, hf⟩ := bn_some hf
      refine kEV (tX11_takes l G ad_t ad_t_all ad_t_tape ad_t_isImage ad_t_size ad_t_givenRow ad_t_givenColumn ad_t_newRow ad_t_view (upd (upd g13 27 (t_value.toInt32)) 28 (g13 25)) t_value t_tape a16 h17) ⟨hx, hb, hml, hown, hts⟩ q1439 q1441 q83 q108 q1442 okyX11_takes ⟨Nat.le_of_ble_eq_true rfl, Nat.le_of_ble_eq_true rfl⟩ hP hD hG hS hA [0, 1] [] rfl (wr := []) rfl (by decide) 0 rfl rfl hl.1 rfl (Nat.le_of_ble_eq_true rfl) dX11_numeral_51 ⟨Nat.zero_le _, Nat.zero_le _⟩ (fun r w H locs hR hP hD hS => ?_)
      obtain ⟨rfl, rfl⟩ := hR
      have hP : va_P G.1 vwCl [(ad_t, .inr (11, [.ref ad_t_all, .ref ad_t_tape, .ref ad_t_isImage, .int (a16.1 3), .int (a16.1 4), .int (a16.1 5), .int (a16.1 6), .ref ad_t_size, .ref ad_t_givenRow, .ref ad_t_givenColumn, .ref ad_t_newRow, .int (a16.1 11), .int (a16.1 12), .int (a16.1 13), .int (a16.1 14), .int (a16.1 15), .int (a16.1 16), .int (a16.1 17), .int (a16.1 18), .int (a16.1 19), .ref ad_t_view, .int (a16.1 21), .int (a16.1 22), .int (a16.1 23), .int (a16.1 24), .int (a16.1 25), .long a16.2, .int (a16.1 27), .int (a16.1 28)])), (ad_t_tape, .inl (G.2.1 0, 300, .inl t_tape))] H := hP
      have hD : va_D A [(ad_t, .inr (11, [.ref ad_t_all, .ref ad_t_tape, .ref ad_t_isImage, .int (a16.1 3), .int (a16.1 4), .int (a16.1 5), .int (a16.1 6), .ref ad_t_size, .ref ad_t_givenRow, .ref ad_t_givenColumn, .ref ad_t_newRow, .int (a16.1 11), .int (a16.1 12), .int (a16.1 13), .int (a16.1 14), .int (a16.1 15), .int (a16.1 16), .int (a16.1 17), .int (a16.1 18), .int (a16.1 19), .ref ad_t_view, .int (a16.1 21), .int (a16.1 22), .int (a16.1 23), .int (a16.1 24), .int (a16.1 25), .long a16.2, .int (a16.1 27), .int (a16.1 28)])), (ad_t_tape, .inl (G.2.1 0, 300, .inl t_tape))] := hD
      refine W.eq (g2 := F0 m 54 ls []) rfl ?_
      refine lv_aload_n hx hb dX11_numeral_54 rfl (lv_at hl 0 rfl) ?_
      refine va_get (D := G.1) (cl := vwCl) (ci := 11) (v := .int (a16.1 27)) (C := RX11) (T := TX11) (N := 29) hx hb hts inG11 hown hK hP 0 rfl rfl 27 (Nat.le_of_ble_eq_true rfl) (hts _ q1068) (fun _ h9 => h9) rfl dX11_numeral_55 ?_
      refine lv_iload_n hx hb dX11_numeral_58 rfl (lv_at hl 1 rfl) ?_
      refine lv_iload_n hx hb dX11_numeral_59 rfl (lv_at hl 2 rfl) ?_
      refine kPS (tX11_isIn l G (a16.1 27) p0 p1 _ rfl) ⟨hx, hb, hml, hown, hts⟩ q1137 q1138 q108 q1139 okyX11_isIn ⟨Nat.le_of_ble_eq_true rfl, Nat.le_of_ble_eq_true rfl⟩ hP hG hS [] rfl hl.1 rfl (Nat.le_of_ble_eq_true rfl) dX11_numeral_60 ⟨Nat.zero_le _, Nat.zero_le _⟩ (fun locs hS => ?_)
      refine W.eq (g2 := F0 m 63 ls [.int (bi (fX11_isIn (a16.1 27) p0 p1))]) rfl ?_
      refine lv_if_eq (tgt := 71) hx hb dX11_numeral_63 (by decide) (fun c18 => ?_) (fun c18 => ?_)
      · have hf := if_t hf c18
        refine lv_aload_n hx hb dX11_numeral_71 rfl (lv_at hl 0 rfl) ?_
        refine lv_iconst (v := 2) hx hb dX11_numeral_72 (by decide) ?_
        refine lv_aload_n hx hb dX11_numeral_73 rfl (lv_at hl 0 rfl) ?_
        refine va_get (D := G.1) (cl := vwCl) (ci := 11) (v := .int (a16.1 28)) (C := RX11) (T := TX11) (N := 29) hx hb hts inG11 hown hK hP 0 rfl rfl 28 (Nat.le_of_ble_eq_true rfl) (hts _ q1069) (fun _ h9 => h9) rfl dX11_numeral_74 ?_
        obtain ⟨a19, h20, hf⟩ := bn_some hf
        refine kEV (tX11_fails l G ad_t ad_t_all ad_t_tape ad_t_isImage ad_t_size ad_t_givenRow ad_t_givenColumn ad_t_newRow ad_t_view a16.1 a16.2 (2 : Int32) (a16.1 28) a19 h20) ⟨hx, hb, hml, hown, hts⟩ q1464 q1466 q87 q108 q1467 okyX11_fails ⟨Nat.le_of_ble_eq_true rfl, Nat.le_of_ble_eq_true rfl⟩ hP hD hG hS hA [0] [1] rfl (wr := [(ad_t_tape, .inl (G.2.1 0, 300, .inl t_tape))]) rfl (by decide) 0 rfl rfl hl.1 rfl (Nat.le_of_ble_eq_true rfl) dX11_numeral_77 ⟨Nat.zero_le _, Nat.zero_le _⟩ (fun r w H locs hR hP hD hS => ?_)
        obtain ⟨rfl, rfl⟩ := hR
        have hP : va_P G.1 vwCl [(ad_t_tape, .inl (G.2.1 0, 300, .inl t_tape)), (ad_t, .inr (11, [.ref ad_t_all, .ref ad_t_tape, .ref ad_t_isImage, .int (a19 3), .int (a19 4), .int (a19 5), .int (a19 6), .ref ad_t_size, .ref ad_t_givenRow, .ref ad_t_givenColumn, .ref ad_t_newRow, .int (a19 11), .int (a19 12), .int (a19 13), .int (a19 14), .int (a19 15), .int (a19 16), .int (a19 17), .int (a19 18), .int (a19 19), .ref ad_t_view, .int (a19 21), .int (a19 22), .int (a19 23), .int (a19 24), .int (a19 25), .long a16.2, .int (a19 27), .int (a19 28)]))] H := hP
        have hD : va_D A [(ad_t_tape, .inl (G.2.1 0, 300, .inl t_tape)), (ad_t, .inr (11, [.ref ad_t_all, .ref ad_t_tape, .ref ad_t_isImage, .int (a19 3), .int (a19 4), .int (a19 5), .int (a19 6), .ref ad_t_size, .ref ad_t_givenRow, .ref ad_t_givenColumn, .ref ad_t_newRow, .int (a19 11), .int (a19 12), .int (a19 13), .int (a19 14), .int (a19 15), .int (a19 16), .int (a19 17), .int (a19 18), .int (a19 19), .ref ad_t_view, .int (a19 21), .int (a19 22), .int (a19 23), .int (a19 24), .int (a19 25), .long a16.2, .int (a19 27), .int (a19 28)]))] := hD
        refine W.eq (g2 := F0 m 80 ls []) rfl ?_
        refine lv_iconst (v := -1) hx hb dX11_numeral_80 (by decide) ?_
        have hf := Option.some.inj hf
        subst hf
        have hP := hP.sub (ws' := [(ad_t, .inr (11, [.ref ad_t_all, .ref ad_t_tape, .ref ad_t_isImage, .int (a19 3), .int (a19 4), .int (a19 5), .int (a19 6), .ref ad_t_size, .ref ad_t_givenRow, .ref ad_t_givenColumn, .ref ad_t_newRow, .int (a19 11), .int (a19 12), .int (a19 13), .int (a19 14), .int (a19 15), .int (a19 16), .int (a19 17), .int (a19 18), .int (a19 19), .ref ad_t_view, .int (a19 21), .int (a19 22), .int (a19 23), .int (a19 24), .int (a19 25), .long a16.2, .int (a19 27), .int (a19 28)])), (ad_t_tape, .inl (G.2.1 0, 300, .inl t_tape))]) [1, 0] rfl
        have hD := hD.sub (ws' := [(ad_t, .inr (11, [.ref ad_t_all, .ref ad_t_tape, .ref ad_t_isImage, .int (a19 3), .int (a19 4), .int (a19 5), .int (a19 6), .ref ad_t_size, .ref ad_t_givenRow, .ref ad_t_givenColumn, .ref ad_t_newRow, .int (a19 11), .int (a19 12), .int (a19 13), .int (a19 14), .int (a19 15), .int (a19 16), .int (a19 17), .int (a19 18), .int (a19 19), .ref ad_t_view, .int (a19 21), .int (a19 22), .int (a19 23), .int (a19 24), .int (a19 25), .long a16.2, .int (a19 27), .int (a19 28)])), (ad_t_tape, .inl (G.2.1 0, 300, .inl t_tape))]) [1, 0] (by decide) rfl
        exact eRet hx hb hr hlocks hP hD hS ⟨rfl, rfl⟩ dX11_numeral_81
      · have hf := if_f hf c18
        refine lv_aload_n hx hb dX11_numeral_66 rfl (lv_at hl 0 rfl) ?_
        refine va_get (D := G.1) (cl := vwCl) (ci := 11) (v := .int (a16.1 27)) (C := RX11) (T := TX11) (N := 29) hx hb hts inG11 hown hK hP 0 rfl rfl 27 (Nat.le_of_ble_eq_true rfl) (hts _ q1068) (fun _ h9 => h9) rfl dX11_numeral_67 ?_
        have hf := Option.some.inj hf
        subst hf
        exact eRet hx hb hr hlocks hP hD hS ⟨rfl, rfl⟩ dX11_numeral_70
    · have hf := if_t hf c15
      refine lv_iconst (v := -1) hx hb dX11_numeral_31 (by decide) ?_
      have hf := Option.some.inj hf
      subst hf
      exact eRet hx hb hr hlocks hP hD hS ⟨rfl, rfl⟩ dX11_numeral_32
  refine lv_if_eq (tgt := 24) hx hb dX11_numeral_4 (by decide) (fun c21 => ?_) (fun c21 => ?_)
  · have hf := if_t hf c21
    exact J24_k14 tI H locs ls (lv_sub hl [0, 1, 2] rfl) hP hD hS hf
  · have hf := if_f hf c21
    refine lv_aload_n hx hb dX11_numeral_7 rfl (lv_at hl 0 rfl) ?_
    refine va_get (D := G.1) (cl := vwCl) (ci := 11) (v := .int (tI 24)) (C := RX11) (T := TX11) (N := 29) hx hb hts inG11 hown hK hP 0 rfl rfl 24 (Nat.le_of_ble_eq_true rfl) (hts _ q1065) (fun _ h9 => h9) rfl dX11_numeral_8 ?_
    refine lv_iconst (v := 2) hx hb dX11_numeral_11 (by decide) ?_
    refine lv_icmp_eq (tgt := 24) hx hb dX11_numeral_12 (by decide) (fun c22 => ?_) (fun c22 => ?_)
    · have hf := if_t hf c22
      exact J24_k14 tI H locs ls (lv_sub hl [0, 1, 2] rfl) hP hD hS hf
    · have hf := if_f hf c22
      refine lv_aload_n hx hb dX11_numeral_15 rfl (lv_at hl 0 rfl) ?_
      refine lv_iconst (v := 1) hx hb dX11_numeral_16 (by decide) ?_
      refine lv_aload_n hx hb dX11_numeral_17 rfl (lv_at hl 0 rfl) ?_
      refine va_get (D := G.1) (cl := vwCl) (ci := 11) (v := .int (tI 25)) (C := RX11) (T := TX11) (N := 29) hx hb hts inG11 hown hK hP 0 rfl rfl 25 (Nat.le_of_ble_eq_true rfl) (hts _ q1066) (fun _ h9 => h9) rfl dX11_numeral_18 ?_
      obtain ⟨a23, h24, hf⟩ := bn_some hf
      refine kEV (tX11_fails l G ad_t ad_t_all ad_t_tape ad_t_isImage ad_t_size ad_t_givenRow ad_t_givenColumn ad_t_newRow ad_t_view tI t_value (1 : Int32) (tI 25) a23 h24) ⟨hx, hb, hml, hown, hts⟩ q1464 q1466 q87 q108 q1467 okyX11_fails ⟨Nat.le_of_ble_eq_true rfl, Nat.le_of_ble_eq_true rfl⟩ hP hD hG hS hA [0] [1] rfl (wr := [(ad_t_tape, .inl (G.2.1 0, 300, .inl t_tape))]) rfl (by decide) 0 rfl rfl hl.1 rfl (Nat.le_of_ble_eq_true rfl) dX11_numeral_21 ⟨Nat.zero_le _, Nat.zero_le _⟩ (fun r w H locs hR hP hD hS => ?_)
      obtain ⟨rfl, rfl⟩ := hR
      have hP : va_P G.1 vwCl [(ad_t_tape, .inl (G.2.1 0, 300, .inl t_tape)), (ad_t, .inr (11, [.ref ad_t_all, .ref ad_t_tape, .ref ad_t_isImage, .int (a23 3), .int (a23 4), .int (a23 5), .int (a23 6), .ref ad_t_size, .ref ad_t_givenRow, .ref ad_t_givenColumn, .ref ad_t_newRow, .int (a23 11), .int (a23 12), .int (a23 13), .int (a23 14), .int (a23 15), .int (a23 16), .int (a23 17), .int (a23 18), .int (a23 19), .ref ad_t_view, .int (a23 21), .int (a23 22), .int (a23 23), .int (a23 24), .int (a23 25), .long t_value, .int (a23 27), .int (a23 28)]))] H := hP
      have hD : va_D A [(ad_t_tape, .inl (G.2.1 0, 300, .inl t_tape)), (ad_t, .inr (11, [.ref ad_t_all, .ref ad_t_tape, .ref ad_t_isImage, .int (a23 3), .int (a23 4), .int (a23 5), .int (a23 6), .ref ad_t_size, .ref ad_t_givenRow, .ref ad_t_givenColumn, .ref ad_t_newRow, .int (a23 11), .int (a23 12), .int (a23 13), .int (a23 14), .int (a23 15), .int (a23 16), .int (a23 17), .int (a23 18), .int (a23 19), .ref ad_t_view, .int (a23 21), .int (a23 22), .int (a23 23), .int (a23 24), .int (a23 25), .long t_value, .int (a23 27), .int (a23 28)]))] := hD
      refine W.eq (g2 := F0 m 24 ls []) rfl ?_
      have hP := hP.sub (ws' := [(ad_t, .inr (11, [.ref ad_t_all, .ref ad_t_tape, .ref ad_t_isImage, .int (a23 3), .int (a23 4), .int (a23 5), .int (a23 6), .ref ad_t_size, .ref ad_t_givenRow, .ref ad_t_givenColumn, .ref ad_t_newRow, .int (a23 11), .int (a23 12), .int (a23 13), .int (a23 14), .int (a23 15), .int (a23 16), .int (a23 17), .int (a23 18), .int (a23 19), .ref ad_t_view, .int (a23 21), .int (a23 22), .int (a23 23), .int (a23 24), .int (a23 25), .long t_value, .int (a23 27), .int (a23 28)])), (ad_t_tape, .inl (G.2.1 0, 300, .inl t_tape))]) [1, 0] rfl
      have hD := hD.sub (ws' := [(ad_t, .inr (11, [.ref ad_t_all, .ref ad_t_tape, .ref ad_t_isImage, .int (a23 3), .int (a23 4), .int (a23 5), .int (a23 6), .ref ad_t_size, .ref ad_t_givenRow, .ref ad_t_givenColumn, .ref ad_t_newRow, .int (a23 11), .int (a23 12), .int (a23 13), .int (a23 14), .int (a23 15), .int (a23 16), .int (a23 17), .int (a23 18), .int (a23 19), .ref ad_t_view, .int (a23 21), .int (a23 22), .int (a23 23), .int (a23 24), .int (a23 25), .long t_value, .int (a23 27), .int (a23 28)])), (ad_t_tape, .inl (G.2.1 0, 300, .inl t_tape))]) [1, 0] (by decide) rfl
      exact J24_k14 a23 H locs ls (lv_sub hl [0, 1, 2] rfl) hP hD hS hf

def fX11_one (tI : Nat → Int32) (t_value : Int64) (t_all : Nat → Int32) (t_tape : Nat → Int32) (p0 : Int32) : Option ((Nat → Int32) × (Int64) × (Nat → Int32)) :=
  bn (fX11_numeral tI t_value t_tape (0 : Int32) (999999 : Int32)) fun a1 => (if (bi (fX11_isGood a1.2.1)) = 0 then some (a1.2.1, a1.2.2, t_all) else (if (bi (fX11_canBe p0 a1.1)) = 0 then bn (fX11_fails a1.2.1 (2 : Int32) (a1.2.1 28)) fun a5 => some (a5, a1.2.2, t_all) else gd (gi ((4211 : Int32) + p0) 43047) (some (a1.2.1, a1.2.2, (upd t_all ((4211 : Int32) + p0).toNatClampNeg a1.1)))))
set_option maxRecDepth 100000 in
set_option maxHeartbeats 4000000 in
theorem tX11_one (l : Launch) (G : gG) (ad_t ad_t_all ad_t_tape ad_t_isImage ad_t_size ad_t_givenRow ad_t_givenColumn ad_t_newRow ad_t_view : Nat) (tI : Nat → Int32) (t_value : Int64) (t_all : Nat → Int32) (t_tape : Nat → Int32) (p0 : Int32) (o : (Nat → Int32) × (Int64) × (Nat → Int32)) (hf : fX11_one tI t_value t_all t_tape p0 = some o) : mE G l yX11_one cX11_one 3 none 3 64 0 0 [.ref ad_t, .int p0] [(ad_t, .inr (11, [.ref ad_t_all, .ref ad_t_tape, .ref ad_t_isImage, .int (tI 3), .int (tI 4), .int (tI 5), .int (tI 6), .ref ad_t_size, .ref ad_t_givenRow, .ref ad_t_givenColumn, .ref ad_t_newRow, .int (tI 11), .int (tI 12), .int (tI 13), .int (tI 14), .int (tI 15), .int (tI 16), .int (tI 17), .int (tI 18), .int (tI 19), .ref ad_t_view, .int (tI 21), .int (tI 22), .int (tI 23), .int (tI 24), .int (tI 25), .long t_value, .int (tI 27), .int (tI 28)])), (ad_t_all, .inl (G.2.1 0, 43047, .inl t_all)), (ad_t_tape, .inl (G.2.1 0, 300, .inl t_tape))] (fun r w => r = none ∧ w = [(ad_t, .inr (11, [.ref ad_t_all, .ref ad_t_tape, .ref ad_t_isImage, .int (o.1 3), .int (o.1 4), .int (o.1 5), .int (o.1 6), .ref ad_t_size, .ref ad_t_givenRow, .ref ad_t_givenColumn, .ref ad_t_newRow, .int (o.1 11), .int (o.1 12), .int (o.1 13), .int (o.1 14), .int (o.1 15), .int (o.1 16), .int (o.1 17), .int (o.1 18), .int (o.1 19), .ref ad_t_view, .int (o.1 21), .int (o.1 22), .int (o.1 23), .int (o.1 24), .int (o.1 25), .long o.2.1, .int (o.1 27), .int (o.1 28)])), (ad_t_all, .inl (G.2.1 0, 43047, .inl o.2.2)), (ad_t_tape, .inl (G.2.1 0, 300, .inl t_tape))]) := by
  refine mE_of (by decide) (Nat.le_of_ble_eq_true rfl) ?_
  intro p e s m below meth cd ls A hx hb hml hown hts hr hlocks hnm hl hA hP hD hS hG
  have hK := hG.1
  have hown : s.vm.findClass RX11 = some m.cls := hown
  have hl : lv_has ls 3 [(0, .ref ad_t), (1, .int p0)] := hl
  have hS := hS
  unfold fX11_one at hf
  obtain ⟨H, locs, eH, eL⟩ : ∃ (H : Heap) (locs : List Loc), H = s.heap ∧ locs = [] := ⟨_, _, rfl, rfl⟩
  have hP : va_P G.1 vwCl [(ad_t, .inr (11, [.ref ad_t_all, .ref ad_t_tape, .ref ad_t_isImage, .int (tI 3), .int (tI 4), .int (tI 5), .int (tI 6), .ref ad_t_size, .ref ad_t_givenRow, .ref ad_t_givenColumn, .ref ad_t_newRow, .int (tI 11), .int (tI 12), .int (tI 13), .int (tI 14), .int (tI 15), .int (tI 16), .int (tI 17), .int (tI 18), .int (tI 19), .ref ad_t_view, .int (tI 21), .int (tI 22), .int (tI 23), .int (tI 24), .int (tI 25), .long t_value, .int (tI 27), .int (tI 28)])), (ad_t_all, .inl (G.2.1 0, 43047, .inl t_all)), (ad_t_tape, .inl (G.2.1 0, 300, .inl t_tape))] H := eH ▸ hP
  have hS : va_S A s.heap H locs := by rw [eH, eL]; exact hS
  suffices hgo : wG p l e 3 64 s m [.ref ad_t, .int p0] below meth cd H locs (eQ G A (fun r w => r = none ∧ w = [(ad_t, .inr (11, [.ref ad_t_all, .ref ad_t_tape, .ref ad_t_isImage, .int (o.1 3), .int (o.1 4), .int (o.1 5), .int (o.1 6), .ref ad_t_size, .ref ad_t_givenRow, .ref ad_t_givenColumn, .ref ad_t_newRow, .int (o.1 11), .int (o.1 12), .int (o.1 13), .int (o.1 14), .int (o.1 15), .int (o.1 16), .int (o.1 17), .int (o.1 18), .int (o.1 19), .ref ad_t_view, .int (o.1 21), .int (o.1 22), .int (o.1 23), .int (o.1 24), .int (o.1 25), .long o.2.1, .int (o.1 27), .int (o.1 28)])), (ad_t_all, .inl (G.2.1 0, 43047, .inl o.2.2)), (ad_t_tape, .inl (G.2.1 0, 300, .inl t_tape))])) A (F0 m 0 ls []) by rw [eH, eL] at hgo; exact hgo
  clear eH eL
  refine lv_aload_n hx hb dX11_one_0 rfl (lv_at hl 0 rfl) ?_
  refine lv_iconst (v := 0) hx hb dX11_one_1 (by decide) ?_
  refine lv_ldcw (v := 999999) hx hb hown (hts _ q1472) dX11_one_2 ?_
  obtain ⟨a8, h9, hf⟩ := bn_some hf
  refine kEV (tX11_numeral l G ad_t ad_t_all ad_t_tape ad_t_isImage ad_t_size ad_t_givenRow ad_t_givenColumn ad_t_newRow ad_t_view tI t_value t_tape (0 : Int32) (999999 : Int32) a8 h9) ⟨hx, hb, hml, hown, hts⟩ q1473 q1475 q89 q108 q1476 okyX11_numeral ⟨Nat.le_of_ble_eq_true rfl, Nat.le_of_ble_eq_true rfl⟩ hP hD hG hS hA [0, 2] [1] rfl (wr := [(ad_t_all, .inl (G.2.1 0, 43047, .inl t_all))]) rfl (by decide) 0 rfl rfl hl.1 rfl (Nat.le_of_ble_eq_true rfl) dX11_one_5 ⟨Nat.zero_le _, Nat.zero_le _⟩ (fun r w H locs hR hP hD hS => ?_)
  obtain ⟨rfl, rfl⟩ := hR
  have hP : va_P G.1 vwCl [(ad_t_all, .inl (G.2.1 0, 43047, .inl t_all)), (ad_t, .inr (11, [.ref ad_t_all, .ref ad_t_tape, .ref ad_t_isImage, .int (a8.2.1 3), .int (a8.2.1 4), .int (a8.2.1 5), .int (a8.2.1 6), .ref ad_t_size, .ref ad_t_givenRow, .ref ad_t_givenColumn, .ref ad_t_newRow, .int (a8.2.1 11), .int (a8.2.1 12), .int (a8.2.1 13), .int (a8.2.1 14), .int (a8.2.1 15), .int (a8.2.1 16), .int (a8.2.1 17), .int (a8.2.1 18), .int (a8.2.1 19), .ref ad_t_view, .int (a8.2.1 21), .int (a8.2.1 22), .int (a8.2.1 23), .int (a8.2.1 24), .int (a8.2.1 25), .long a8.2.2, .int (a8.2.1 27), .int (a8.2.1 28)])), (ad_t_tape, .inl (G.2.1 0, 300, .inl t_tape))] H := hP
  have hD : va_D A [(ad_t_all, .inl (G.2.1 0, 43047, .inl t_all)), (ad_t, .inr (11, [.ref ad_t_all, .ref ad_t_tape, .ref ad_t_isImage, .int (a8.2.1 3), .int (a8.2.1 4), .int (a8.2.1 5), .int (a8.2.1 6), .ref ad_t_size, .ref ad_t_givenRow, .ref ad_t_givenColumn, .ref ad_t_newRow, .int (a8.2.1 11), .int (a8.2.1 12), .int (a8.2.1 13), .int (a8.2.1 14), .int (a8.2.1 15), .int (a8.2.1 16), .int (a8.2.1 17), .int (a8.2.1 18), .int (a8.2.1 19), .ref ad_t_view, .int (a8.2.1 21), .int (a8.2.1 22), .int (a8.2.1 23), .int (a8.2.1 24), .int (a8.2.1 25), .long a8.2.2, .int (a8.2.1 27), .int (a8.2.1 28)])), (ad_t_tape, .inl (G.2.1 0, 300, .inl t_tape))] := hD
  refine W.eq (g2 := F0 m 8 ls [.int a8.1]) rfl ?_
  refine lv_istore_n (lv' := [(2, .int a8.1), (0, .ref ad_t), (1, .int p0)]) hx hb dX11_one_8 rfl hl (by decide) rfl (fun ls hl => ?_)
  refine lv_aload_n hx hb dX11_one_9 rfl (lv_at hl 1 rfl) ?_
  refine kPV (tX11_isGood l G ad_t ad_t_all ad_t_tape ad_t_isImage ad_t_size ad_t_givenRow ad_t_givenColumn ad_t_newRow ad_t_view a8.2.1 a8.2.2 _ rfl) ⟨hx, hb, hml, hown, hts⟩ q1456 q1458 q85 q108 q1459 okyX11_isGood ⟨Nat.le_of_ble_eq_true rfl, Nat.le_of_ble_eq_true rfl⟩ hP hG hS [1] rfl 1 rfl rfl hl.1 rfl (Nat.le_of_ble_eq_true rfl) dX11_one_10 ⟨Nat.zero_le _, Nat.zero_le _⟩ (fun locs hS => ?_)
  refine W.eq (g2 := F0 m 13 ls [.int (bi (fX11_isGood a8.2.1))]) rfl ?_
  refine lv_if_ne (tgt := 17) hx hb dX11_one_13 (by decide) (fun c10 => ?_) (fun c10 => ?_)
  · have hf := if_f hf c10
    refine lv_iload_n hx hb dX11_one_17 rfl (lv_at hl 2 rfl) ?_
    refine lv_iload_n hx hb dX11_one_18 rfl (lv_at hl 0 rfl) ?_
    refine kPS (tX11_canBe l G p0 a8.1 _ rfl) ⟨hx, hb, hml, hown, hts⟩ q1134 q1135 q108 q1136 okyX11_canBe ⟨Nat.le_of_ble_eq_true rfl, Nat.le_of_ble_eq_true rfl⟩ hP hG hS [] rfl hl.1 rfl (Nat.le_of_ble_eq_true rfl) dX11_one_19 ⟨Nat.zero_le _, Nat.zero_le _⟩ (fun locs hS => ?_)
    refine W.eq (g2 := F0 m 22 ls [.int (bi (fX11_canBe p0 a8.1))]) rfl ?_
    refine lv_if_eq (tgt := 39) hx hb dX11_one_22 (by decide) (fun c11 => ?_) (fun c11 => ?_)
    · have hf := if_t hf c11
      refine lv_aload_n hx hb dX11_one_39 rfl (lv_at hl 1 rfl) ?_
      refine lv_iconst (v := 2) hx hb dX11_one_40 (by decide) ?_
      refine lv_aload_n hx hb dX11_one_41 rfl (lv_at hl 1 rfl) ?_
      refine va_get (D := G.1) (cl := vwCl) (ci := 11) (v := .int (a8.2.1 28)) (C := RX11) (T := TX11) (N := 29) hx hb hts inG11 hown hK hP 1 rfl rfl 28 (Nat.le_of_ble_eq_true rfl) (hts _ q1069) (fun _ h9 => h9) rfl dX11_one_42 ?_
      obtain ⟨a12, h13, hf⟩ := bn_some hf
      refine kEV (tX11_fails l G ad_t ad_t_all ad_t_tape ad_t_isImage ad_t_size ad_t_givenRow ad_t_givenColumn ad_t_newRow ad_t_view a8.2.1 a8.2.2 (2 : Int32) (a8.2.1 28) a12 h13) ⟨hx, hb, hml, hown, hts⟩ q1464 q1466 q87 q108 q1467 okyX11_fails ⟨Nat.le_of_ble_eq_true rfl, Nat.le_of_ble_eq_true rfl⟩ hP hD hG hS hA [1] [0, 2] rfl (wr := [(ad_t_all, .inl (G.2.1 0, 43047, .inl t_all)), (ad_t_tape, .inl (G.2.1 0, 300, .inl t_tape))]) rfl (by decide) 1 rfl rfl hl.1 rfl (Nat.le_of_ble_eq_true rfl) dX11_one_45 ⟨Nat.zero_le _, Nat.zero_le _⟩ (fun r w H locs hR hP hD hS => ?_)
      obtain ⟨rfl, rfl⟩ := hR
      have hP : va_P G.1 vwCl [(ad_t_all, .inl (G.2.1 0, 43047, .inl t_all)), (ad_t_tape, .inl (G.2.1 0, 300, .inl t_tape)), (ad_t, .inr (11, [.ref ad_t_all, .ref ad_t_tape, .ref ad_t_isImage, .int (a12 3), .int (a12 4), .int (a12 5), .int (a12 6), .ref ad_t_size, .ref ad_t_givenRow, .ref ad_t_givenColumn, .ref ad_t_newRow, .int (a12 11), .int (a12 12), .int (a12 13), .int (a12 14), .int (a12 15), .int (a12 16), .int (a12 17), .int (a12 18), .int (a12 19), .ref ad_t_view, .int (a12 21), .int (a12 22), .int (a12 23), .int (a12 24), .int (a12 25), .long a8.2.2, .int (a12 27), .int (a12 28)]))] H := hP
      have hD : va_D A [(ad_t_all, .inl (G.2.1 0, 43047, .inl t_all)), (ad_t_tape, .inl (G.2.1 0, 300, .inl t_tape)), (ad_t, .inr (11, [.ref ad_t_all, .ref ad_t_tape, .ref ad_t_isImage, .int (a12 3), .int (a12 4), .int (a12 5), .int (a12 6), .ref ad_t_size, .ref ad_t_givenRow, .ref ad_t_givenColumn, .ref ad_t_newRow, .int (a12 11), .int (a12 12), .int (a12 13), .int (a12 14), .int (a12 15), .int (a12 16), .int (a12 17), .int (a12 18), .int (a12 19), .ref ad_t_view, .int (a12 21), .int (a12 22), .int (a12 23), .int (a12 24), .int (a12 25), .long a8.2.2, .int (a12 27), .int (a12 28)]))] := hD
      refine W.eq (g2 := F0 m 48 ls []) rfl ?_
      have hf := Option.some.inj hf
      subst hf
      have hP := hP.sub (ws' := [(ad_t, .inr (11, [.ref ad_t_all, .ref ad_t_tape, .ref ad_t_isImage, .int (a12 3), .int (a12 4), .int (a12 5), .int (a12 6), .ref ad_t_size, .ref ad_t_givenRow, .ref ad_t_givenColumn, .ref ad_t_newRow, .int (a12 11), .int (a12 12), .int (a12 13), .int (a12 14), .int (a12 15), .int (a12 16), .int (a12 17), .int (a12 18), .int (a12 19), .ref ad_t_view, .int (a12 21), .int (a12 22), .int (a12 23), .int (a12 24), .int (a12 25), .long a8.2.2, .int (a12 27), .int (a12 28)])), (ad_t_all, .inl (G.2.1 0, 43047, .inl t_all)), (ad_t_tape, .inl (G.2.1 0, 300, .inl t_tape))]) [2, 0, 1] rfl
      have hD := hD.sub (ws' := [(ad_t, .inr (11, [.ref ad_t_all, .ref ad_t_tape, .ref ad_t_isImage, .int (a12 3), .int (a12 4), .int (a12 5), .int (a12 6), .ref ad_t_size, .ref ad_t_givenRow, .ref ad_t_givenColumn, .ref ad_t_newRow, .int (a12 11), .int (a12 12), .int (a12 13), .int (a12 14), .int (a12 15), .int (a12 16), .int (a12 17), .int (a12 18), .int (a12 19), .ref ad_t_view, .int (a12 21), .int (a12 22), .int (a12 23), .int (a12 24), .int (a12 25), .long a8.2.2, .int (a12 27), .int (a12 28)])), (ad_t_all, .inl (G.2.1 0, 43047, .inl t_all)), (ad_t_tape, .inl (G.2.1 0, 300, .inl t_tape))]) [2, 0, 1] (by decide) rfl
      exact eRetV hx hb hr hlocks hP hD hS ⟨rfl, rfl⟩ dX11_one_48
    · have hf := if_f hf c11
      refine lv_aload_n hx hb dX11_one_25 rfl (lv_at hl 1 rfl) ?_
      refine va_get (D := G.1) (cl := vwCl) (ci := 11) (v := .ref ad_t_all) (C := RX11) (T := TX11) (N := 29) hx hb hts inG11 hown hK hP 1 rfl rfl 0 (Nat.le_of_ble_eq_true rfl) (hts _ q1041) (fun _ h9 => h9) rfl dX11_one_26 ?_
      refine lv_sipush (v := 4211) hx hb dX11_one_29 (by decide) ?_
      refine lv_iload_n hx hb dX11_one_32 rfl (lv_at hl 2 rfl) ?_
      refine lv_iadd hx hb dX11_one_33 ?_
      refine lv_iload_n hx hb dX11_one_34 rfl (lv_at hl 0 rfl) ?_
      obtain ⟨h14, hf⟩ := gd_some hf
      refine va_iast (D := G.1) (cl := vwCl) hx hb hK hP hD hS 0 0 rfl rfl (gi_in h14) dX11_one_35 (fun H locs hP hD hS => ?_)
      have hP : va_P G.1 vwCl [(ad_t_all, .inl (G.2.1 0, 43047, .inl (upd t_all ((4211 : Int32) + p0).toNatClampNeg a8.1))), (ad_t, .inr (11, [.ref ad_t_all, .ref ad_t_tape, .ref ad_t_isImage, .int (a8.2.1 3), .int (a8.2.1 4), .int (a8.2.1 5), .int (a8.2.1 6), .ref ad_t_size, .ref ad_t_givenRow, .ref ad_t_givenColumn, .ref ad_t_newRow, .int (a8.2.1 11), .int (a8.2.1 12), .int (a8.2.1 13), .int (a8.2.1 14), .int (a8.2.1 15), .int (a8.2.1 16), .int (a8.2.1 17), .int (a8.2.1 18), .int (a8.2.1 19), .ref ad_t_view, .int (a8.2.1 21), .int (a8.2.1 22), .int (a8.2.1 23), .int (a8.2.1 24), .int (a8.2.1 25), .long a8.2.2, .int (a8.2.1 27), .int (a8.2.1 28)])), (ad_t_tape, .inl (G.2.1 0, 300, .inl t_tape))] H := hP
      have hD : va_D A [(ad_t_all, .inl (G.2.1 0, 43047, .inl (upd t_all ((4211 : Int32) + p0).toNatClampNeg a8.1))), (ad_t, .inr (11, [.ref ad_t_all, .ref ad_t_tape, .ref ad_t_isImage, .int (a8.2.1 3), .int (a8.2.1 4), .int (a8.2.1 5), .int (a8.2.1 6), .ref ad_t_size, .ref ad_t_givenRow, .ref ad_t_givenColumn, .ref ad_t_newRow, .int (a8.2.1 11), .int (a8.2.1 12), .int (a8.2.1 13), .int (a8.2.1 14), .int (a8.2.1 15), .int (a8.2.1 16), .int (a8.2.1 17), .int (a8.2.1 18), .int (a8.2.1 19), .ref ad_t_view, .int (a8.2.1 21), .int (a8.2.1 22), .int (a8.2.1 23), .int (a8.2.1 24), .int (a8.2.1 25), .long a8.2.2, .int (a8.2.1 27), .int (a8.2.1 28)])), (ad_t_tape, .inl (G.2.1 0, 300, .inl t_tape))] := hD
      refine lv_goto (tgt := 48) hx hb dX11_one_36 (by decide) ?_
      have hf := Option.some.inj hf
      subst hf
      have hP := hP.sub (ws' := [(ad_t, .inr (11, [.ref ad_t_all, .ref ad_t_tape, .ref ad_t_isImage, .int (a8.2.1 3), .int (a8.2.1 4), .int (a8.2.1 5), .int (a8.2.1 6), .ref ad_t_size, .ref ad_t_givenRow, .ref ad_t_givenColumn, .ref ad_t_newRow, .int (a8.2.1 11), .int (a8.2.1 12), .int (a8.2.1 13), .int (a8.2.1 14), .int (a8.2.1 15), .int (a8.2.1 16), .int (a8.2.1 17), .int (a8.2.1 18), .int (a8.2.1 19), .ref ad_t_view, .int (a8.2.1 21), .int (a8.2.1 22), .int (a8.2.1 23), .int (a8.2.1 24), .int (a8.2.1 25), .long a8.2.2, .int (a8.2.1 27), .int (a8.2.1 28)])), (ad_t_all, .inl (G.2.1 0, 43047, .inl (upd t_all ((4211 : Int32) + p0).toNatClampNeg a8.1))), (ad_t_tape, .inl (G.2.1 0, 300, .inl t_tape))]) [1, 0, 2] rfl
      have hD := hD.sub (ws' := [(ad_t, .inr (11, [.ref ad_t_all, .ref ad_t_tape, .ref ad_t_isImage, .int (a8.2.1 3), .int (a8.2.1 4), .int (a8.2.1 5), .int (a8.2.1 6), .ref ad_t_size, .ref ad_t_givenRow, .ref ad_t_givenColumn, .ref ad_t_newRow, .int (a8.2.1 11), .int (a8.2.1 12), .int (a8.2.1 13), .int (a8.2.1 14), .int (a8.2.1 15), .int (a8.2.1 16), .int (a8.2.1 17), .int (a8.2.1 18), .int (a8.2.1 19), .ref ad_t_view, .int (a8.2.1 21), .int (a8.2.1 22), .int (a8.2.1 23), .int (a8.2.1 24), .int (a8.2.1 25), .long a8.2.2, .int (a8.2.1 27), .int (a8.2.1 28)])), (ad_t_all, .inl (G.2.1 0, 43047, .inl (upd t_all ((4211 : Int32) + p0).toNatClampNeg a8.1))), (ad_t_tape, .inl (G.2.1 0, 300, .inl t_tape))]) [1, 0, 2] (by decide) rfl
      exact eRetV hx hb hr hlocks hP hD hS ⟨rfl, rfl⟩ dX11_one_48
  · have hf := if_t hf c10
    have hf := Option.some.inj hf
    subst hf
    have hP := hP.sub (ws' := [(ad_t, .inr (11, [.ref ad_t_all, .ref ad_t_tape, .ref ad_t_isImage, .int (a8.2.1 3), .int (a8.2.1 4), .int (a8.2.1 5), .int (a8.2.1 6), .ref ad_t_size, .ref ad_t_givenRow, .ref ad_t_givenColumn, .ref ad_t_newRow, .int (a8.2.1 11), .int (a8.2.1 12), .int (a8.2.1 13), .int (a8.2.1 14), .int (a8.2.1 15), .int (a8.2.1 16), .int (a8.2.1 17), .int (a8.2.1 18), .int (a8.2.1 19), .ref ad_t_view, .int (a8.2.1 21), .int (a8.2.1 22), .int (a8.2.1 23), .int (a8.2.1 24), .int (a8.2.1 25), .long a8.2.2, .int (a8.2.1 27), .int (a8.2.1 28)])), (ad_t_all, .inl (G.2.1 0, 43047, .inl t_all)), (ad_t_tape, .inl (G.2.1 0, 300, .inl t_tape))]) [1, 0, 2] rfl
    have hD := hD.sub (ws' := [(ad_t, .inr (11, [.ref ad_t_all, .ref ad_t_tape, .ref ad_t_isImage, .int (a8.2.1 3), .int (a8.2.1 4), .int (a8.2.1 5), .int (a8.2.1 6), .ref ad_t_size, .ref ad_t_givenRow, .ref ad_t_givenColumn, .ref ad_t_newRow, .int (a8.2.1 11), .int (a8.2.1 12), .int (a8.2.1 13), .int (a8.2.1 14), .int (a8.2.1 15), .int (a8.2.1 16), .int (a8.2.1 17), .int (a8.2.1 18), .int (a8.2.1 19), .ref ad_t_view, .int (a8.2.1 21), .int (a8.2.1 22), .int (a8.2.1 23), .int (a8.2.1 24), .int (a8.2.1 25), .long a8.2.2, .int (a8.2.1 27), .int (a8.2.1 28)])), (ad_t_all, .inl (G.2.1 0, 43047, .inl t_all)), (ad_t_tape, .inl (G.2.1 0, 300, .inl t_tape))]) [1, 0, 2] (by decide) rfl
    exact eRetV hx hb hr hlocks hP hD hS ⟨rfl, rfl⟩ dX11_one_16
