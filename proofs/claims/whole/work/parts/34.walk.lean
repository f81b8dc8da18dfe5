def fX11_count (tI : Nat → Int32) (t_all : Nat → Int32) (t_size : Nat → Int32) (t_givenRow : Nat → Int32) (t_givenColumn : Nat → Int32) (t_newRow : Nat → Int32) (p0 : Int32) : Option (Int32 × (Nat → Int32) × (Nat → Int32) × (Nat → Int32) × (Nat → Int32) × (Nat → Int32)) :=
  bn (fX11_laysAll tI t_all t_size t_givenRow t_givenColumn t_newRow) fun a1 => (if (bi (fX11_isIn p0 (0 : Int32) (9 : Int32))) = 0 then (if p0 = (10 : Int32) then some ((a1.1 19), a1.1, a1.2.1, a1.2.2.1, a1.2.2.2.1, a1.2.2.2.2) else (if p0 = (11 : Int32) then some ((if (a1.1 14) = 0 then (0 : Int32) else (1 : Int32)), a1.1, a1.2.1, a1.2.2.1, a1.2.2.2.1, a1.2.2.2.2) else (if p0 = (12 : Int32) then some ((a1.1 11), a1.1, a1.2.1, a1.2.2.1, a1.2.2.2.1, a1.2.2.2.2) else (if p0 = (13 : Int32) then some ((a1.1 12), a1.1, a1.2.1, a1.2.2.1, a1.2.2.2.1, a1.2.2.2.2) else (if p0 = (14 : Int32) then bn (fX11_summed a1.1 t_all a1.2.1 a1.2.2.1 a1.2.2.2.1 a1.2.2.2.2 (0 : Int32)) fun a11 => some (a11.1, a11.2.1, a11.2.2.1, a11.2.2.2.1, a11.2.2.2.2.1, a11.2.2.2.2.2) else (if p0 = (15 : Int32) then some ((a1.1 6), a1.1, a1.2.1, a1.2.2.1, a1.2.2.2.1, a1.2.2.2.2) else (if p0 = (16 : Int32) then some ((a1.1 3), a1.1, a1.2.1, a1.2.2.1, a1.2.2.2.1, a1.2.2.2.2) else (if p0 = (17 : Int32) then bn (fX11_summed a1.1 t_all a1.2.1 a1.2.2.1 a1.2.2.2.1 a1.2.2.2.2 (1 : Int32)) fun a16 => some (a16.1, a16.2.1, a16.2.2.1, a16.2.2.2.1, a16.2.2.2.2.1, a16.2.2.2.2.2) else some ((-1 : Int32), a1.1, a1.2.1, a1.2.2.1, a1.2.2.2.1, a1.2.2.2.2))))))))) else gd (gi p0 43047) (some ((t_all p0.toNatClampNeg), a1.1, a1.2.1, a1.2.2.1, a1.2.2.2.1, a1.2.2.2.2)))
set_option maxRecDepth 100000 in
set_option maxHeartbeats 4000000 in
theorem tX11_count (l : Launch) (G : gG) (ad_t ad_t_all ad_t_tape ad_t_isImage ad_t_size ad_t_givenRow ad_t_givenColumn ad_t_newRow ad_t_view : Nat) (tI : Nat → Int32) (t_value : Int64) (t_all : Nat → Int32) (t_size : Nat → Int32) (t_givenRow : Nat → Int32) (t_givenColumn : Nat → Int32) (t_newRow : Nat → Int32) (p0 : Int32) (o : Int32 × (Nat → Int32) × (Nat → Int32) × (Nat → Int32) × (Nat → Int32) × (Nat → Int32)) (hf : fX11_count tI t_all t_size t_givenRow t_givenColumn t_newRow p0 = some o) : mE G l yX11_count cX11_count 2 (some .int) 14 326 0 0 [.ref ad_t, .int p0] [(ad_t, .inr (11, [.ref ad_t_all, .ref ad_t_tape, .ref ad_t_isImage, .int (tI 3), .int (tI 4), .int (tI 5), .int (tI 6), .ref ad_t_size, .ref ad_t_givenRow, .ref ad_t_givenColumn, .ref ad_t_newRow, .int (tI 11), .int (tI 12), .int (tI 13), .int (tI 14), .int (tI 15), .int (tI 16), .int (tI 17), .int (tI 18), .int (tI 19), .ref ad_t_view, .int (tI 21), .int (tI 22), .int (tI 23), .int (tI 24), .int (tI 25), .long t_value, .int (tI 27), .int (tI 28)])), (ad_t_all, .inl (G.2.1 0, 43047, .inl t_all)), (ad_t_size, .inl (G.2.1 0, 8, .inl t_size)), (ad_t_givenRow, .inl (G.2.1 0, 12, .inl t_givenRow)), (ad_t_givenColumn, .inl (G.2.1 0, 2, .inl t_givenColumn)), (ad_t_newRow, .inl (G.2.1 0, 13, .inl t_newRow))] (fun r w => r = (some (.int o.1)) ∧ w = [(ad_t, .inr (11, [.ref ad_t_all, .ref ad_t_tape, .ref ad_t_isImage, .int (o.2.1 3), .int (o.2.1 4), .int (o.2.1 5), .int (o.2.1 6), .ref ad_t_size, .ref ad_t_givenRow, .ref ad_t_givenColumn, .ref ad_t_newRow, .int (o.2.1 11), .int (o.2.1 12), .int (o.2.1 13), .int (o.2.1 14), .int (o.2.1 15), .int (o.2.1 16), .int (o.2.1 17), .int (o.2.1 18), .int (o.2.1 19), .ref ad_t_view, .int (o.2.1 21), .int (o.2.1 22), .int (o.2.1 23), .int (o.2.1 24), .int (o.2.1 25), .long t_value, .int (o.2.1 27), .int (o.2.1 28)])), (ad_t_all, .inl (G.2.1 0, 43047, .inl t_all)), (ad_t_size, .inl (G.2.1 0, 8, .inl o.2.2.1)), (ad_t_givenRow, .inl (G.2.1 0, 12, .inl o.2.2.2.1)), (ad_t_givenColumn, .inl (G.2.1 0, 2, .inl o.2.2.2.2.1)), (ad_t_newRow, .inl (G.2.1 0, 13, .inl o.2.2.2.2.2))]) := by
  refine mE_of (by decide) (Nat.le_of_ble_eq_true rfl) ?_
  intro p e s m below meth cd ls A hx hb hml hown hts hr hlocks hnm hl hA hP hD hS hG
  have hK := hG.1
  have hown : s.vm.findClass RX11 = some m.cls := hown
  have hl : lv_has ls 2 [(0, .ref ad_t), (1, .int p0)] := hl
  have hS := hS
  unfold fX11_count at hf
  obtain ⟨H, locs, eH, eL⟩ : ∃ (H : Heap) (locs : List Loc), H = s.heap ∧ locs = [] := ⟨_, _, rfl, rfl⟩
  have hP : va_P G.1 vwCl [(ad_t, .inr (11, [.ref ad_t_all, .ref ad_t_tape, .ref ad_t_isImage, .int (tI 3), .int (tI 4), .int (tI 5), .int (tI 6), .ref ad_t_size, .ref ad_t_givenRow, .ref ad_t_givenColumn, .ref ad_t_newRow, .int (tI 11), .int (tI 12), .int (tI 13), .int (tI 14), .int (tI 15), .int (tI 16), .int (tI 17), .int (tI 18), .int (tI 19), .ref ad_t_view, .int (tI 21), .int (tI 22), .int (tI 23), .int (tI 24), .int (tI 25), .long t_value, .int (tI 27), .int (tI 28)])), (ad_t_all, .inl (G.2.1 0, 43047, .inl t_all)), (ad_t_size, .inl (G.2.1 0, 8, .inl t_size)), (ad_t_givenRow, .inl (G.2.1 0, 12, .inl t_givenRow)), (ad_t_givenColumn, .inl (G.2.1 0, 2, .inl t_givenColumn)), (ad_t_newRow, .inl (G.2.1 0, 13, .inl t_newRow))] H := eH ▸ hP
  have hS : va_S A s.heap H locs := by rw [eH, eL]; exact hS
  suffices hgo : wG p l e 14 326 s m [.ref ad_t, .int p0] below meth cd H locs (eQ G A (fun r w => r = (some (.int o.1)) ∧ w = [(ad_t, .inr (11, [.ref ad_t_all, .ref ad_t_tape, .ref ad_t_isImage, .int (o.2.1 3), .int (o.2.1 4), .int (o.2.1 5), .int (o.2.1 6), .ref ad_t_size, .ref ad_t_givenRow, .ref ad_t_givenColumn, .ref ad_t_newRow, .int (o.2.1 11), .int (o.2.1 12), .int (o.2.1 13), .int (o.2.1 14), .int (o.2.1 15), .int (o.2.1 16), .int (o.2.1 17), .int (o.2.1 18), .int (o.2.1 19), .ref ad_t_view, .int (o.2.1 21), .int (o.2.1 22), .int (o.2.1 23), .int (o.2.1 24), .int (o.2.1 25), .long t_value, .int (o.2.1 27), .int (o.2.1 28)])), (ad_t_all, .inl (G.2.1 0, 43047, .inl t_all)), (ad_t_size, .inl (G.2.1 0, 8, .inl o.2.2.1)), (ad_t_givenRow, .inl (G.2.1 0, 12, .inl o.2.2.2.1)), (ad_t_givenColumn, .inl (G.2.1 0, 2, .inl o.2.2.2.2.1)), (ad_t_newRow, .inl (G.2.1 0, 13, .inl o.2.2.2.2.2))])) A (F0 m 0 ls []) by rw [eH, eL] at hgo; exact hgo
  clear eH eL
  refine lv_aload_n hx hb dX11_count_0 rfl (lv_at hl 0 rfl) ?_
  obtain ⟨a19, h20, hf⟩ := bn_some hf
  refine kEV (tX11_laysAll l G ad_t ad_t_all ad_t_tape ad_t_isImage ad_t_size ad_t_givenRow ad_t_givenColumn ad_t_newRow ad_t_view tI t_value t_all t_size t_givenRow t_givenColumn t_newRow a19 h20) ⟨hx, hb, hml, hown, hts⟩ q1294 q1296 q69 q108 q1297 okyX11_laysAll ⟨Nat.le_of_ble_eq_true rfl, Nat.le_of_ble_eq_true rfl⟩ hP hD hG hS hA [0, 1, 2, 3, 4, 5] [] rfl (wr := []) rfl (by decide) 0 rfl rfl hl.1 rfl (Nat.le_of_ble_eq_true rfl) dX11_count_1 ⟨Nat.zero_le _, Nat.zero_le _⟩ (fun r w H locs hR hP hD hS => ?_)
  obtain ⟨rfl, rfl⟩ := hR
  have hP : va_P G.1 vwCl [(ad_t, .inr (11, [.ref ad_t_all, .ref ad_t_tape, .ref ad_t_isImage, .int (a19.1 3), .int (a19.1 4), .int (a19.1 5), .int (a19.1 6), .ref ad_t_size, .ref ad_t_givenRow, .ref ad_t_givenColumn, .ref ad_t_newRow, .int (a19.1 11), .int (a19.1 12), .int (a19.1 13), .int (a19.1 14), .int (a19.1 15), .int (a19.1 16), .int (a19.1 17), .int (a19.1 18), .int (a19.1 19), .ref ad_t_view, .int (a19.1 21), .int (a19.1 22), .int (a19.1 23), .int (a19.1 24), .int (a19.1 25), .long t_value, .int (a19.1 27), .int (a19.1 28)])), (ad_t_all, .inl (G.2.1 0, 43047, .inl t_all)), (ad_t_size, .inl (G.2.1 0, 8, .inl a19.2.1)), (ad_t_givenRow, .inl (G.2.1 0, 12, .inl a19.2.2.1)), (ad_t_givenColumn, .inl (G.2.1 0, 2, .inl a19.2.2.2.1)), (ad_t_newRow, .inl (G.2.1 0, 13, .inl a19.2.2.2.2))] H := hP
  have hD : va_D A [(ad_t, .inr (11, [.ref ad_t_all, .ref ad_t_tape, .ref ad_t_isImage, .int (a19.1 3), .int (a19.1 4), .int (a19.1 5), .int (a19.1 6), .ref ad_t_size, .ref ad_t_givenRow, .ref ad_t_givenColumn, .ref ad_t_newRow, .int (a19.1 11), .int (a19.1 12), .int (a19.1 13), .int (a19.1 14), .int (a19.1 15), .int (a19.1 16), .int (a19.1 17), .int (a19.1 18), .int (a19.1 19), .ref ad_t_view, .int (a19.1 21), .int (a19.1 22), .int (a19.1 23), .int (a19.1 24), .int (a19.1 25), .long t_value, .int (a19.1 27), .int (a19.1 28)])), (ad_t_all, .inl (G.2.1 0, 43047, .inl t_all)), (ad_t_size, .inl (G.2.1 0, 8, .inl a19.2.1)), (ad_t_givenRow, .inl (G.2.1 0, 12, .inl a19.2.2.1)), (ad_t_givenColumn, .inl (G.2.1 0, 2, .inl a19.2.2.2.1)), (ad_t_newRow, .inl (G.2.1 0, 13, .inl a19.2.2.2.2))] := hD
  refine W.eq (g2 := F0 m 4 ls []) rfl ?_
  refine lv_iload_n hx hb dX11_count_4 rfl (lv_at hl 1 rfl) ?_
  refine lv_iconst (v := 0) hx hb dX11_count_5 (by decide) ?_
  refine lv_bipush (v := 9) hx hb dX11_count_6 (by decide) ?_
  refine kPS (tX11_isIn l G p0 (0 : Int32) (9 : Int32) _ rfl) ⟨hx, hb, hml, hown, hts⟩ q1137 q1138 q108 q1139 okyX11_isIn ⟨Nat.le_of_ble_eq_true rfl, Nat.le_of_ble_eq_true rfl⟩ hP hG hS [] rfl hl.1 rfl (Nat.le_of_ble_eq_true rfl) dX11_count_8 ⟨Nat.zero_le _, Nat.zero_le _⟩ (fun locs hS => ?_)
  refine W.eq (g2 := F0 m 11 ls [.int (bi (fX11_isIn p0 (0 : Int32) (9 : Int32)))]) rfl ?_
  refine lv_if_eq (tgt := 21) hx hb dX11_count_11 (by decide) (fun c21 => ?_) (fun c21 => ?_)
  · have hf := if_t hf c21
    refine lv_iload_n hx hb dX11_count_21 rfl (lv_at hl 1 rfl) ?_
    by_cases c22 : p0 = (10 : Int32)
    · have hf := if_t hf c22
      refine lv_tableIn (off := 46) (tgt := 68) hx hb dX11_count_22 (by rw [c22]; decide) (by rw [c22]; decide) (by rw [c22]; decide) (by decide) ?_
      refine lv_aload_n hx hb dX11_count_68 rfl (lv_at hl 0 rfl) ?_
      refine va_get (D := G.1) (cl := vwCl) (ci := 11) (v := .int (a19.1 19)) (C := RX11) (T := TX11) (N := 29) hx hb hts inG11 hown hK hP 0 rfl rfl 19 (Nat.le_of_ble_eq_true rfl) (hts _ q1060) (fun _ h9 => h9) rfl dX11_count_69 ?_
      have hf := Option.some.inj hf
      subst hf
      exact eRet hx hb hr hlocks hP hD hS ⟨rfl, rfl⟩ dX11_count_72
    · have hf := if_f hf c22
      by_cases c23 : p0 = (11 : Int32)
      · have hf := if_t hf c23
        refine lv_tableIn (off := 51) (tgt := 73) hx hb dX11_count_22 (by rw [c23]; decide) (by rw [c23]; decide) (by rw [c23]; decide) (by decide) ?_
        refine lv_aload_n hx hb dX11_count_73 rfl (lv_at hl 0 rfl) ?_
        refine va_get (D := G.1) (cl := vwCl) (ci := 11) (v := .int (a19.1 14)) (C := RX11) (T := TX11) (N := 29) hx hb hts inG11 hown hK hP 0 rfl rfl 14 (Nat.le_of_ble_eq_true rfl) (hts _ q1055) (fun _ h9 => h9) rfl dX11_count_74 ?_
        have J24 : wG p l e 14 326 s m [.ref ad_t, .int p0] below meth cd H locs (eQ G A (fun r w => r = (some (.int o.1)) ∧ w = [(ad_t, .inr (11, [.ref ad_t_all, .ref ad_t_tape, .ref ad_t_isImage, .int (o.2.1 3), .int (o.2.1 4), .int (o.2.1 5), .int (o.2.1 6), .ref ad_t_size, .ref ad_t_givenRow, .ref ad_t_givenColumn, .ref ad_t_newRow, .int (o.2.1 11), .int (o.2.1 12), .int (o.2.1 13), .int (o.2.1 14), .int (o.2.1 15), .int (o.2.1 16), .int (o.2.1 17), .int (o.2.1 18), .int (o.2.1 19), .ref ad_t_view, .int (o.2.1 21), .int (o.2.1 22), .int (o.2.1 23), .int (o.2.1 24), .int (o.2.1 25), .long t_value, .int (o.2.1 27), .int (o.2.1 28)])), (ad_t_all, .inl (G.2.1 0, 43047, .inl t_all)), (ad_t_size, .inl (G.2.1 0, 8, .inl o.2.2.1)), (ad_t_givenRow, .inl (G.2.1 0, 12, .inl o.2.2.2.1)), (ad_t_givenColumn, .inl (G.2.1 0, 2, .inl o.2.2.2.2.1)), (ad_t_newRow, .inl (G.2.1 0, 13, .inl o.2.2.2.2.2))])) A (F0 m 85 ls [.int (if (a19.1 14) = 0 then (0 : Int32) else (1 : Int32))]) := by
          have hf := Option.some.inj hf
          subst hf
          exact eRet hx hb hr hlocks hP hD hS ⟨rfl, rfl⟩ dX11_count_85
        refine lv_if_eq (tgt := 84) hx hb dX11_count_77 (by decide) (fun c25 => ?_) (fun c25 => ?_)
        · refine lv_iconst (v := 0) hx hb dX11_count_84 (by decide) ?_
          exact (mgT c25 J24)
        · refine lv_iconst (v := 1) hx hb dX11_count_80 (by decide) ?_
          refine lv_goto (tgt := 85) hx hb dX11_count_81 (by decide) ?_
          exact (mgF c25 J24)
      · have hf := if_f hf c23
        by_cases c26 : p0 = (12 : Int32)
        · have hf := if_t hf c26
          refine lv_tableIn (off := 64) (tgt := 86) hx hb dX11_count_22 (by rw [c26]; decide) (by rw [c26]; decide) (by rw [c26]; decide) (by decide) ?_
          refine lv_aload_n hx hb dX11_count_86 rfl (lv_at hl 0 rfl) ?_
          refine va_get (D := G.1) (cl := vwCl) (ci := 11) (v := .int (a19.1 11)) (C := RX11) (T := TX11) (N := 29) hx hb hts inG11 hown hK hP 0 rfl rfl 11 (Nat.le_of_ble_eq_true rfl) (hts _ q1052) (fun _ h9 => h9) rfl dX11_count_87 ?_
          have hf := Option.some.inj hf
          subst hf
          exact eRet hx hb hr hlocks hP hD hS ⟨rfl, rfl⟩ dX11_count_90
        · have hf := if_f hf c26
          by_cases c27 : p0 = (13 : Int32)
          · have hf := if_t hf c27
            refine lv_tableIn (off := 69) (tgt := 91) hx hb dX11_count_22 (by rw [c27]; decide) (by rw [c27]; decide) (by rw [c27]; decide) (by decide) ?_
            refine lv_aload_n hx hb dX11_count_91 rfl (lv_at hl 0 rfl) ?_
            refine va_get (D := G.1) (cl := vwCl) (ci := 11) (v := .int (a19.1 12)) (C := RX11) (T := TX11) (N := 29) hx hb hts inG11 hown hK hP 0 rfl rfl 12 (Nat.le_of_ble_eq_true rfl) (hts _ q1053) (fun _ h9 => h9) rfl dX11_count_92 ?_
            have hf := Option.some.inj hf
            subst hf
            exact eRet hx hb hr hlocks hP hD hS ⟨rfl, rfl⟩ dX11_count_95
          · have hf := if_f hf c27
            by_cases c28 : p0 = (14 : Int32)
            · have hf := if_t hf c28
              refine lv_tableIn (off := 74) (tgt := 96) hx hb dX11_count_22 (by rw [c28]; decide) (by rw [c28]; decide) (by rw [c28]; decide) (by decide) ?_
              refine lv_aload_n hx hb dX11_count_96 rfl (lv_at hl 0 rfl) ?_
              refine lv_iconst (v := 0) hx hb dX11_count_97 (by decide) ?_
              obtain ⟨a29, h30, hf⟩ := bn_some hf
              refine kEV (tX11_summed l G ad_t ad_t_all ad_t_tape ad_t_isImage ad_t_size ad_t_givenRow ad_t_givenColumn ad_t_newRow ad_t_view a19.1 t_value t_all a19.2.1 a19.2.2.1 a19.2.2.2.1 a19.2.2.2.2 (0 : Int32) a29 h30) ⟨hx, hb, hml, hown, hts⟩ q1334 q1336 q76 q108 q1337 okyX11_summed ⟨Nat.le_of_ble_eq_true rfl, Nat.le_of_ble_eq_true rfl⟩ hP hD hG hS hA [0, 1, 2, 3, 4, 5] [] rfl (wr := []) rfl (by decide) 0 rfl rfl hl.1 rfl (Nat.le_of_ble_eq_true rfl) dX11_count_98 ⟨Nat.zero_le _, Nat.zero_le _⟩ (fun r w H locs hR hP hD hS => ?_)
              obtain ⟨rfl, rfl⟩ := hR
              have hP : va_P G.1 vwCl [(ad_t, .inr (11, [.ref ad_t_all, .ref ad_t_tape, .ref ad_t_isImage, .int (a29.2.1 3), .int (a29.2.1 4), .int (a29.2.1 5), .int (a29.2.1 6), .ref ad_t_size, .ref ad_t_givenRow, .ref ad_t_givenColumn, .ref ad_t_newRow, .int (a29.2.1 11), .int (a29.2.1 12), .int (a29.2.1 13), .int (a29.2.1 14), .int (a29.2.1 15), .int (a29.2.1 16), .int (a29.2.1 17), .int (a29.2.1 18), .int (a29.2.1 19), .ref ad_t_view, .int (a29.2.1 21), .int (a29.2.1 22), .int (a29.2.1 23), .int (a29.2.1 24), .int (a29.2.1 25), .long t_value, .int (a29.2.1 27), .int (a29.2.1 28)])), (ad_t_all, .inl (G.2.1 0, 43047, .inl t_all)), (ad_t_size, .inl (G.2.1 0, 8, .inl a29.2.2.1)), (ad_t_givenRow, .inl (G.2.1 0, 12, .inl a29.2.2.2.1)), (ad_t_givenColumn, .inl (G.2.1 0, 2, .inl a29.2.2.2.2.1)), (ad_t_newRow, .inl (G.2.1 0, 13, .inl a29.2.2.2.2.2))] H := hP
              have hD : va_D A [(ad_t, .inr (11, [.ref ad_t_all, .ref ad_t_tape, .ref ad_t_isImage, .int (a29.2.1 3), .int (a29.2.1 4), .int (a29.2.1 5), .int (a29.2.1 6), .ref ad_t_size, .ref ad_t_givenRow, .ref ad_t_givenColumn, .ref ad_t_newRow, .int (a29.2.1 11), .int (a29.2.1 12), .int (a29.2.1 13), .int (a29.2.1 14), .int (a29.2.1 15), .int (a29.2.1 16), .int (a29.2.1 17), .int (a29.2.1 18), .int (a29.2.1 19), .ref ad_t_view, .int (a29.2.1 21), .int (a29.2.1 22), .int (a29.2.1 23), .int (a29.2.1 24), .int (a29.2.1 25), .long t_value, .int (a29.2.1 27), .int (a29.2.1 28)])), (ad_t_all, .inl (G.2.1 0, 43047, .inl t_all)), (ad_t_size, .inl (G.2.1 0, 8, .inl a29.2.2.1)), (ad_t_givenRow, .inl (G.2.1 0, 12, .inl a29.2.2.2.1)), (ad_t_givenColumn, .inl (G.2.1 0, 2, .inl a29.2.2.2.2.1)), (ad_t_newRow, .inl (G.2.1 0, 13, .inl a29.2.2.2.2.2))] := hD
              refine W.eq (g2 := F0 m 101 ls [.int a29.1]) rfl ?_
              have hf := Option.some.inj hf
              subst hf
              exact eRet hx hb hr hlocks hP hD hS ⟨rfl, rfl⟩ dX11_count_101
            · have hf := if_f hf c28
              by_cases c31 : p0 = (15 : Int32)
              · have hf := if_t hf c31
                refine lv_tableIn (off := 80) (tgt := 102) hx hb dX11_count_22 (by rw [c31]; decide) (by rw [c31]; decide) (by rw [c31]; decide) (by decide) ?_
                refine lv_aload_n hx hb dX11_count_102 rfl (lv_at hl 0 rfl) ?_
                refine va_get (D := G.1) (cl := vwCl) (ci := 11) (v := .int (a19.1 6)) (C := RX11) (T := TX11) (N := 29) hx hb hts inG11 hown hK hP 0 rfl rfl 6 (Nat.le_of_ble_eq_true rfl) (hts _ q1047) (fun _ h9 => h9) rfl dX11_count_103 ?_
                have hf := Option.some.inj hf
                subst hf
                exact eRet hx hb hr hlocks hP hD hS ⟨rfl, rfl⟩ dX11_count_106
              · have hf := if_f hf c31
                by_cases c32 : p0 = (16 : Int32)
                · have hf := if_t hf c32
                  refine lv_tableIn (off := 85) (tgt := 107) hx hb dX11_count_22 (by rw [c32]; decide) (by rw [c32]; decide) (by rw [c32]; decide) (by decide) ?_
                  refine lv_aload_n hx hb dX11_count_107 rfl (lv_at hl 0 rfl) ?_
                  refine va_get (D := G.1) (cl := vwCl) (ci := 11) (v := .int (a19.1 3)) (C := RX11) (T := TX11) (N := 29) hx hb hts inG11 hown hK hP 0 rfl rfl 3 (Nat.le_of_ble_eq_true rfl) (hts _ q1044) (fun _ h9 => h9) rfl dX11_count_108 ?_
                  have hf := Option.some.inj hf
                  subst hf
                  exact eRet hx hb hr hlocks hP hD hS ⟨rfl, rfl⟩ dX11_count_111
                · have hf := if_f hf c32
                  by_cases c33 : p0 = (17 : Int32)
                  · have hf := if_t hf c33
                    refine lv_tableIn (off := 90) (tgt := 112) hx hb dX11_count_22 (by rw [c33]; decide) (by rw [c33]; decide) (by rw [c33]; decide) (by decide) ?_
                    refine lv_aload_n hx hb dX11_count_112 rfl (lv_at hl 0 rfl) ?_
                    refine lv_iconst (v := 1) hx hb dX11_count_113 (by decide) ?_
                    obtain ⟨a34, h35, hf⟩ := bn_some hf
                    refine kEV (tX11_summed l G ad_t ad_t_all ad_t_tape ad_t_isImage ad_t_size ad_t_givenRow ad_t_givenColumn ad_t_newRow ad_t_view a19.1 t_value t_all a19.2.1 a19.2.2.1 a19.2.2.2.1 a19.2.2.2.2 (1 : Int32) a34 h35) ⟨hx, hb, hml, hown, hts⟩ q1334 q1336 q76 q108 q1337 okyX11_summed ⟨Nat.le_of_ble_eq_true rfl, Nat.le_of_ble_eq_true rfl⟩ hP hD hG hS hA [0, 1, 2, 3, 4, 5] [] rfl (wr := []) rfl (by decide) 0 rfl rfl hl.1 rfl (Nat.le_of_ble_eq_true rfl) dX11_count_114 ⟨Nat.zero_le _, Nat.zero_le _⟩ (fun r w H locs hR hP hD hS => ?_)
                    obtain ⟨rfl, rfl⟩ := hR
                    have hP : va_P G.1 vwCl [(ad_t, .inr (11, [.ref ad_t_all, .ref ad_t_tape, .ref ad_t_isImage, .int (a34.2.1 3), .int (a34.2.1 4), .int (a34.2.1 5), .int (a34.2.1 6), .ref ad_t_size, .ref ad_t_givenRow, .ref ad_t_givenColumn, .ref ad_t_newRow, .int (a34.2.1 11), .int (a34.2.1 12), .int (a34.2.1 13), .int (a34.2.1 14), .int (a34.2.1 15), .int (a34.2.1 16), .int (a34.2.1 17), .int (a34.2.1 18), .int (a34.2.1 19), .ref ad_t_view, .int (a34.2.1 21), .int (a34.2.1 22), .int (a34.2.1 23), .int (a34.2.1 24), .int (a34.2.1 25), .long t_value, .int (a34.2.1 27), .int (a34.2.1 28)])), (ad_t_all, .inl (G.2.1 0, 43047, .inl t_all)), (ad_t_size, .inl (G.2.1 0, 8, .inl a34.2.2.1)), (ad_t_givenRow, .inl (G.2.1 0, 12, .inl a34.2.2.2.1)), (ad_t_givenColumn, .inl (G.2.1 0, 2, .inl a34.2.2.2.2.1)), (ad_t_newRow, .inl (G.2.1 0, 13, .inl a34.2.2.2.2.2))] H := hP
                    have hD : va_D A [(ad_t, .inr (11, [.ref ad_t_all, .ref ad_t_tape, .ref ad_t_isImage, .int (a34.2.1 3), .int (a34.2.1 4), .int (a34.2.1 5), .int (a34.2.1 6), .ref ad_t_size, .ref ad_t_givenRow, .ref ad_t_givenColumn, .ref ad_t_newRow, .int (a34.2.1 11), .int (a34.2.1 12), .int (a34.2.1 13), .int (a34.2.1 14), .int (a34.2.1 15), .int (a34.2.1 16), .int (a34.2.1 17), .int (a34.2.1 18), .int (a34.2.1 19), .ref ad_t_view, .int (a34.2.1 21), .int (a34.2.1 22), .int (a34.2.1 23), .int (a34.2.1 24), .int (a34.2.1 25), .long t_value, .int (a34.2.1 27), .int (a34.2.1 28)])), (ad_t_all, .inl (G.2.1 0, 43047, .inl t_all)), (ad_t_size, .inl (G.2.1 0, 8, .inl a34.2.2.1)), (ad_t_givenRow, .inl (G.2.1 0, 12, .inl a34.2.2.2.1)), (ad_t_givenColumn, .inl (G.2.1 0, 2, .inl a34.2.2.2.2.1)), (ad_t_newRow, .inl (G.2.1 0, 13, .inl a34.2.2.2.2.2))] := hD
                    refine W.eq (g2 := F0 m 117 ls [.int a34.1]) rfl ?_
                    have hf := Option.some.inj hf
                    subst hf
                    exact eRet hx hb hr hlocks hP hD hS ⟨rfl, rfl⟩ dX11_count_117
                  · have hf := if_f hf c33
                    refine lv_tableOut (tgt := 118) hx hb dX11_count_22 (by have ec22 := sw_ne (k := 10) (by decide) (by decide) c22; have ec23 := sw_ne (k := 11) (by decide) (by decide) c23; have ec26 := sw_ne (k := 12) (by decide) (by decide) c26; have ec27 := sw_ne (k := 13) (by decide) (by decide) c27; have ec28 := sw_ne (k := 14) (by decide) (by decide) c28; have ec31 := sw_ne (k := 15) (by decide) (by decide) c31; have ec32 := sw_ne (k := 16) (by decide) (by decide) c32; have ec33 := sw_ne (k := 17) (by decide) (by decide) c33; omega) (by decide) ?_
                    refine lv_iconst (v := -1) hx hb dX11_count_118 (by decide) ?_
                    have hf := Option.some.inj hf
                    subst hf
                    exact eRet hx hb hr hlocks hP hD hS ⟨rfl, rfl⟩ dX11_count_119
  · have hf := if_f hf c21
    refine lv_aload_n hx hb dX11_count_14 rfl (lv_at hl 0 rfl) ?_
    refine va_get (D := G.1) (cl := vwCl) (ci := 11) (v := .ref ad_t_all) (C := RX11) (T := TX11) (N := 29) hx hb hts inG11 hown hK hP 0 rfl rfl 0 (Nat.le_of_ble_eq_true rfl) (hts _ q1041) (fun _ h9 => h9) rfl dX11_count_15 ?_
    refine lv_iload_n hx hb dX11_count_18 rfl (lv_at hl 1 rfl) ?_
    obtain ⟨h36, hf⟩ := gd_some hf
    refine va_iald (D := G.1) (cl := vwCl) hx hb hK hP 1 0 rfl rfl (gi_in h36) dX11_count_19 ?_
    have hf := Option.some.inj hf
    subst hf
    exact eRet hx hb hr hlocks hP hD hS ⟨rfl, rfl⟩ dX11_count_20

def fX11_given (tI : Nat → Int32) (t_all : Nat → Int32) (t_size : Nat → Int32) (t_givenRow : Nat → Int32) (t_givenColumn : Nat → Int32) (t_newRow : Nat → Int32) (p0 : Int32) (p1 : Int32) : Option (Int32 × (Nat → Int32) × (Nat → Int32) × (Nat → Int32) × (Nat → Int32) × (Nat → Int32)) :=
  bn (fX11_laysAll tI t_all t_size t_givenRow t_givenColumn t_newRow) fun a1 => (if (bi (fX11_isIn p0 (0 : Int32) ((if p1 = 0 then (a1.1 11) else (a1.1 12)) - (1 : Int32)))) = 0 then some ((-1 : Int32), a1.1, a1.2.1, a1.2.2.1, a1.2.2.2.1, a1.2.2.2.2) else (if p1 = 0 then gd (gi p0 12) (some ((a1.2.2.1 p0.toNatClampNeg), a1.1, a1.2.1, a1.2.2.1, a1.2.2.2.1, a1.2.2.2.2)) else gd (gi p0 2) (some ((a1.2.2.2.1 p0.toNatClampNeg), a1.1, a1.2.1, a1.2.2.1, a1.2.2.2.1, a1.2.2.2.2))))
set_option maxRecDepth 100000 in
set_option maxHeartbeats 4000000 in
theorem tX11_given (l : Launch) (G : gG) (ad_t ad_t_all ad_t_tape ad_t_isImage ad_t_size ad_t_givenRow ad_t_givenColumn ad_t_newRow ad_t_view : Nat) (tI : Nat → Int32) (t_value : Int64) (t_all : Nat → Int32) (t_size : Nat → Int32) (t_givenRow : Nat → Int32) (t_givenColumn : Nat → Int32) (t_newRow : Nat → Int32) (p0 : Int32) (p1 : Int32) (o : Int32 × (Nat → Int32) × (Nat → Int32) × (Nat → Int32) × (Nat → Int32) × (Nat → Int32)) (hf : fX11_given tI t_all t_size t_givenRow t_givenColumn t_newRow p0 p1 = some o) : mE G l yX11_given cX11_given 3 (some .int) 13 302 0 0 [.ref ad_t, .int p0, .int p1] [(ad_t, .inr (11, [.ref ad_t_all, .ref ad_t_tape, .ref ad_t_isImage, .int (tI 3), .int (tI 4), .int (tI 5), .int (tI 6), .ref ad_t_size, .ref ad_t_givenRow, .ref ad_t_givenColumn, .ref ad_t_newRow, .int (tI 11), .int (tI 12), .int (tI 13), .int (tI 14), .int (tI 15), .int (tI 16), .int (tI 17), .int (tI 18), .int (tI 19), .ref ad_t_view, .int (tI 21), .int (tI 22), .int (tI 23), .int (tI 24), .int (tI 25), .long t_value, .int (tI 27), .int (tI 28)])), (ad_t_all, .inl (G.2.1 0, 43047, .inl t_all)), (ad_t_size, .inl (G.2.1 0, 8, .inl t_size)), (ad_t_givenRow, .inl (G.2.1 0, 12, .inl t_givenRow)), (ad_t_givenColumn, .inl (G.2.1 0, 2, .inl t_givenColumn)), (ad_t_newRow, .inl (G.2.1 0, 13, .inl t_newRow))] (fun r w => r = (some (.int o.1)) ∧ w = [(ad_t, .inr (11, [.ref ad_t_all, .ref ad_t_tape, .ref ad_t_isImage, .int (o.2.1 3), .int (o.2.1 4), .int (o.2.1 5), .int (o.2.1 6), .ref ad_t_size, .ref ad_t_givenRow, .ref ad_t_givenColumn, .ref ad_t_newRow, .int (o.2.1 11), .int (o.2.1 12), .int (o.2.1 13), .int (o.2.1 14), .int (o.2.1 15), .int (o.2.1 16), .int (o.2.1 17), .int (o.2.1 18), .int (o.2.1 19), .ref ad_t_view, .int (o.2.1 21), .int (o.2.1 22), .int (o.2.1 23), .int (o.2.1 24), .int (o.2.1 25), .long t_value, .int (o.2.1 27), .int (o.2.1 28)])), (ad_t_all, .inl (G.2.1 0, 43047, .inl t_all)), (ad_t_size, .inl (G.2.1 0, 8, .inl o.2.2.1)), (ad_t_givenRow, .inl (G.2.1 0, 12, .inl o.2.2.2.1)), (ad_t_givenColumn, .inl (G.2.1 0, 2, .inl o.2.2.2.2.1)), (ad_t_newRow, .inl (G.2.1 0, 13, .inl o.2.2.2.2.2))]) := by
  refine mE_of (by decide) (Nat.le_of_ble_eq_true rfl) ?_
  intro p e s m below meth cd ls A hx hb hml hown hts hr hlocks hnm hl hA hP hD hS hG
  have hK := hG.1
  have hown : s.vm.findClass RX11 = some m.cls := hown
  have hl : lv_has ls 3 [(0, .ref ad_t), (1, .int p0), (2, .int p1)] := hl
  have hS := hS
  unfold fX11_given at hf
  obtain ⟨H, locs, eH, eL⟩ : ∃ (H : Heap) (locs : List Loc), H = s.heap ∧ locs = [] := ⟨_, _, rfl, rfl⟩
  have hP : va_P G.1 vwCl [(ad_t, .inr (11, [.ref ad_t_all, .ref ad_t_tape, .ref ad_t_isImage, .int (tI 3), .int (tI 4), .int (tI 5), .int (tI 6), .ref ad_t_size, .ref ad_t_givenRow, .ref ad_t_givenColumn, .ref ad_t_newRow, .int (tI 11), .int (tI 12), .int (tI 13), .int (tI 14), .int (tI 15), .int (tI 16), .int (tI 17), .int (tI 18), .int (tI 19), .ref ad_t_view, .int (tI 21), .int (tI 22), .int (tI 23), .int (tI 24), .int (tI 25), .long t_value, .int (tI 27), .int (tI 28)])), (ad_t_all, .inl (G.2.1 0, 43047, .inl t_all)), (ad_t_size, .inl (G.2.1 0, 8, .inl t_size)), (ad_t_givenRow, .inl (G.2.1 0, 12, .inl t_givenRow)), (ad_t_givenColumn, .inl (G.2.1 0, 2, .inl t_givenColumn)), (ad_t_newRow, .inl (G.2.1 0, 13, .inl t_newRow))] H := eH ▸ hP
  have hS : va_S A s.heap H locs := by rw [eH, eL]; exact hS
  suffices hgo : wG p l e 13 302 s m [.ref ad_t, .int p0, .int p1] below meth cd H locs (eQ G A (fun r w => r = (some (.int o.1)) ∧ w = [(ad_t, .inr (11, [.ref ad_t_all, .ref ad_t_tape, .ref ad_t_isImage, .int (o.2.1 3), .int (o.2.1 4), .int (o.2.1 5), .int (o.2.1 6), .ref ad_t_size, .ref ad_t_givenRow, .ref ad_t_givenColumn, .ref ad_t_newRow, .int (o.2.1 11), .int (o.2.1 12), .int (o.2.1 13), .int (o.2.1 14), .int (o.2.1 15), .int (o.2.1 16), .int (o.2.1 17), .int (o.2.1 18), .int (o.2.1 19), .ref ad_t_view, .int (o.2.1 21), .int (o.2.1 22), .int (o.2.1 23), .int (o.2.1 24), .int (o.2.1 25), .long t_value, .int (o.2.1 27), .int (o.2.1 28)])), (ad_t_all, .inl (G.2.1 0, 43047, .inl t_all)), (ad_t_size, .inl (G.2.1 0, 8, .inl o.2.2.1)), (ad_t_givenRow, .inl (G.2.1 0, 12, .inl o.2.2.2.1)), (ad_t_givenColumn, .inl (G.2.1 0, 2, .inl o.2.2.2.2.1)), (ad_t_newRow, .inl (G.2.1 0, 13, .inl o.2.2.2.2.2))])) A (F0 m 0 ls []) by rw [eH, eL] at hgo; exact hgo
  clear eH eL
  refine lv_aload_n hx hb dX11_given_0 rfl (lv_at hl 0 rfl) ?_
  obtain ⟨a9, h10, hf⟩ := bn_some hf
  refine kEV (tX11_laysAll l G ad_t ad_t_all ad_t_tape ad_t_isImage ad_t_size ad_t_givenRow ad_t_givenColumn ad_t_newRow ad_t_view tI t_value t_all t_size t_givenRow t_givenColumn t_newRow a9 h10) ⟨hx, hb, hml, hown, hts⟩ q1294 q1296 q69 q108 q1297 okyX11_laysAll ⟨Nat.le_of_ble_eq_true rfl, Nat.le_of_ble_eq_true rfl⟩ hP hD hG hS hA [0, 1, 2, 3, 4, 5] [] rfl (wr := []) rfl (by decide) 0 rfl rfl hl.1 rfl (Nat.le_of_ble_eq_true rfl) dX11_given_1 ⟨Nat.zero_le _, Nat.zero_le _⟩ (fun r w H locs hR hP hD hS => ?_)
  obtain ⟨rfl, rfl⟩ := hR
  have hP : va_P G.1 vwCl [(ad_t, .inr (11, [.ref ad_t_all, .ref ad_t_tape, .ref ad_t_isImage, .int (a9.1 3), .int (a9.1 4), .int (a9.1 5), .int (a9.1 6), .ref ad_t_size, .ref ad_t_givenRow, .ref ad_t_givenColumn, .ref ad_t_newRow, .int (a9.1 11), .int (a9.1 12), .int (a9.1 13), .int (a9.1 14), .int (a9.1 15), .int (a9.1 16), .int (a9.1 17), .int (a9.1 18), .int (a9.1 19), .ref ad_t_view, .int (a9.1 21), .int (a9.1 22), .int (a9.1 23), .int (a9.1 24), .int (a9.1 25), .long t_value, .int (a9.1 27), .int (a9.1 28)])), (ad_t_all, .inl (G.2.1 0, 43047, .inl t_all)), (ad_t_size, .inl (G.2.1 0, 8, .inl a9.2.1)), (ad_t_givenRow, .inl (G.2.1 0, 12, .inl a9.2.2.1)), (ad_t_givenColumn, .inl (G.2.1 0, 2, .inl a9.2.2.2.1)), (ad_t_newRow, .inl (G.2.1 0, 13, .inl a9.2.2.2.2))] H := hP
  have hD : va_D A [(ad_t, .inr (11, [.ref ad_t_all, .ref ad_t_tape, .ref ad_t_isImage, .int (a9.1 3), .int (a9.1 4), .int (a9.1 5), .int (a9.1 6), .ref ad_t_size, .ref ad_t_givenRow, .ref ad_t_givenColumn, .ref ad_t_newRow, .int (a9.1 11), .int (a9.1 12), .int (a9.1 13), .int (a9.1 14), .int (a9.1 15), .int (a9.1 16), .int (a9.1 17), .int (a9.1 18), .int (a9.1 19), .ref ad_t_view, .int (a9.1 21), .int (a9.1 22), .int (a9.1 23), .int (a9.1 24), .int (a9.1 25), .long t_value, .int (a9.1 27), .int (a9.1 28)])), (ad_t_all, .inl (G.2.1 0, 43047, .inl t_all)), (ad_t_size, .inl (G.2.1 0, 8, .inl a9.2.1)), (ad_t_givenRow, .inl (G.2.1 0, 12, .inl a9.2.2.1)), (ad_t_givenColumn, .inl (G.2.1 0, 2, .inl a9.2.2.2.1)), (ad_t_newRow, .inl (G.2.1 0, 13, .inl a9.2.2.2.2))] := hD
  refine W.eq (g2 := F0 m 4 ls []) rfl ?_
  refine lv_iload_n hx hb dX11_given_4 rfl (lv_at hl 1 rfl) ?_
  refine lv_iconst (v := 0) hx hb dX11_given_5 (by decide) ?_
  refine lv_iload_n hx hb dX11_given_6 rfl (lv_at hl 2 rfl) ?_
  have J15 : wG p l e 13 302 s m [.ref ad_t, .int p0, .int p1] below meth cd H locs (eQ G A (fun r w => r = (some (.int o.1)) ∧ w = [(ad_t, .inr (11, [.ref ad_t_all, .ref ad_t_tape, .ref ad_t_isImage, .int (o.2.1 3), .int (o.2.1 4), .int (o.2.1 5), .int (o.2.1 6), .ref ad_t_size, .ref ad_t_givenRow, .ref ad_t_givenColumn, .ref ad_t_newRow, .int (o.2.1 11), .int (o.2.1 12), .int (o.2.1 13), .int (o.2.1 14), .int (o.2.1 15), .int (o.2.1 16), .int (o.2.1 17), .int (o.2.1 18), .int (o.2.1 19), .ref ad_t_view, .int (o.2.1 21), .int (o.2.1 22), .int (o.2.1 23), .int (o.2.1 24), .int (o.2.1 25), .long t_value, .int (o.2.1 27), .int (o.2.1 28)])), (ad_t_all, .inl (G.2.1 0, 43047, .inl t_all)), (ad_t_size, .inl (G.2.1 0, 8, .inl o.2.2.1)), (ad_t_givenRow, .inl (G.2.1 0, 12, .inl o.2.2.2.1)), (ad_t_givenColumn, .inl (G.2.1 0, 2, .inl o.2.2.2.2.1)), (ad_t_newRow, .inl (G.2.1 0, 13, .inl o.2.2.2.2.2))])) A (F0 m 21 ls [.int (if p1 = 0 then (a9.1 11) else (a9.1 12)), .int (0 : Int32), .int p0]) := by
    refine lv_iconst (v := 1) hx hb dX11_given_21 (by decide) ?_
    refine lv_isub hx hb dX11_given_22 ?_
    refine kPS (tX11_isIn l G p0 (0 : Int32) ((if p1 = 0 then (a9.1 11) else (a9.1 12)) - (1 : Int32)) _ rfl) ⟨hx, hb, hml, hown, hts⟩ q1137 q1138 q108 q1139 okyX11_isIn ⟨Nat.le_of_ble_eq_true rfl, Nat.le_of_ble_eq_true rfl⟩ hP hG hS [] rfl hl.1 rfl (Nat.le_of_ble_eq_true rfl) dX11_given_23 ⟨Nat.zero_le _, Nat.zero_le _⟩ (fun locs hS => ?_)
    refine W.eq (g2 := F0 m 26 ls [.int (bi (fX11_isIn p0 (0 : Int32) ((if p1 = 0 then (a9.1 11) else (a9.1 12)) - (1 : Int32))))]) rfl ?_
    refine lv_if_ne (tgt := 33) hx hb dX11_given_26 (by decide) (fun c11 => ?_) (fun c11 => ?_)
    · have hf := if_f hf c11
      refine lv_iload_n hx hb dX11_given_33 rfl (lv_at hl 2 rfl) ?_
      refine lv_if_eq (tgt := 46) hx hb dX11_given_34 (by decide) (fun c12 => ?_) (fun c12 => ?_)
      · have hf := if_t hf c12
        refine lv_aload_n hx hb dX11_given_46 rfl (lv_at hl 0 rfl) ?_
        refine va_get (D := G.1) (cl := vwCl) (ci := 11) (v := .ref ad_t_givenRow) (C := RX11) (T := TX11) (N := 29) hx hb hts inG11 hown hK hP 0 rfl rfl 8 (Nat.le_of_ble_eq_true rfl) (hts _ q1049) (fun _ h9 => h9) rfl dX11_given_47 ?_
        refine lv_iload_n hx hb dX11_given_50 rfl (lv_at hl 1 rfl) ?_
        obtain ⟨h13, hf⟩ := gd_some hf
        refine va_iald (D := G.1) (cl := vwCl) hx hb hK hP 3 0 rfl rfl (gi_in h13) dX11_given_51 ?_
        have hf := Option.some.inj hf
        subst hf
        exact eRet hx hb hr hlocks hP hD hS ⟨rfl, rfl⟩ dX11_given_52
      · have hf := if_f hf c12
        refine lv_aload_n hx hb dX11_given_37 rfl (lv_at hl 0 rfl) ?_
        refine va_get (D := G.1) (cl := vwCl) (ci := 11) (v := .ref ad_t_givenColumn) (C := RX11) (T := TX11) (N := 29) hx hb hts inG11 hown hK hP 0 rfl rfl 9 (Nat.le_of_ble_eq_true rfl) (hts _ q1050) (fun _ h9 => h9) rfl dX11_given_38 ?_
        refine lv_iload_n hx hb dX11_given_41 rfl (lv_at hl 1 rfl) ?_
        obtain ⟨h14, hf⟩ := gd_some hf
        refine va_iald (D := G.1) (cl := vwCl) hx hb hK hP 4 0 rfl rfl (gi_in h14) dX11_given_42 ?_
        refine lv_goto (tgt := 52) hx hb dX11_given_43 (by decide) ?_
        have hf := Option.some.inj hf
        subst hf
        exact eRet hx hb hr hlocks hP hD hS ⟨rfl, rfl⟩ dX11_given_52
    · have hf := if_t hf c11
      refine lv_iconst (v := -1) hx hb dX11_given_29 (by decide) ?_
      refine lv_goto (tgt := 52) hx hb dX11_given_30 (by decide) ?_
      have hf := Option.some.inj hf
      subst hf
      exact eRet hx hb hr hlocks hP hD hS ⟨rfl, rfl⟩ dX11_given_52
  refine lv_if_eq (tgt := 17) hx hb dX11_given_7 (by decide) (fun c16 => ?_) (fun c16 => ?_)
  · refine lv_aload_n hx hb dX11_given_17 rfl (lv_at hl 0 rfl) ?_
    refine va_get (D := G.1) (cl := vwCl) (ci := 11) (v := .int (a9.1 11)) (C := RX11) (T := TX11) (N := 29) hx hb hts inG11 hown hK hP 0 rfl rfl 11 (Nat.le_of_ble_eq_true rfl) (hts _ q1052) (fun _ h9 => h9) rfl dX11_given_18 ?_
    exact (mgT c16 J15)
  · refine lv_aload_n hx hb dX11_given_10 rfl (lv_at hl 0 rfl) ?_
    refine va_get (D := G.1) (cl := vwCl) (ci := 11) (v := .int (a9.1 12)) (C := RX11) (T := TX11) (N := 29) hx hb hts inG11 hown hK hP 0 rfl rfl 12 (Nat.le_of_ble_eq_true rfl) (hts _ q1053) (fun _ h9 => h9) rfl dX11_given_11 ?_
    refine lv_goto (tgt := 21) hx hb dX11_given_14 (by decide) ?_
    exact (mgF c16 J15)

def fX11_cell_l51 (x1 : Int32) (tI : Nat → Int32) (t_all : Nat → Int32) (t_size : Nat → Int32) (t_givenRow : Nat → Int32) (t_givenColumn : Nat → Int32) (t_newRow : Nat → Int32) : Nat → Int32 → Option ((Unit) ⊕ (Int32 × (Nat → Int32) × (Nat → Int32) × (Nat → Int32) × (Nat → Int32) × (Nat → Int32)))
  | 0, _ => none
  | n + 1, x3 =>
    (if (tI 11) ≤ x3 then some (.inl ()) else gd (gi x3 12) (gd (gi (fX11_badAt x1) 43047) ((if (t_givenRow x3.toNatClampNeg) = (t_all (fX11_badAt x1).toNatClampNeg) then some (.inr ((1 : Int32), tI, t_size, t_givenRow, t_givenColumn, t_newRow)) else fX11_cell_l51 x1 tI t_all t_size t_givenRow t_givenColumn t_newRow n (x3 + (1 : Int32))))))
def fX11_cell_l87 (x1 : Int32) (tI : Nat → Int32) (t_all : Nat → Int32) (t_size : Nat → Int32) (t_givenRow : Nat → Int32) (t_givenColumn : Nat → Int32) (t_newRow : Nat → Int32) : Nat → Int32 → Option ((Unit) ⊕ (Int32 × (Nat → Int32) × (Nat → Int32) × (Nat → Int32) × (Nat → Int32) × (Nat → Int32)))
  | 0, _ => none
  | n + 1, x3 =>
    (if (tI 12) ≤ x3 then some (.inl ()) else gd (gi x3 2) (gd (gi ((fX11_badAt x1) + (1 : Int32)) 43047) ((if (t_givenColumn x3.toNatClampNeg) = (t_all ((fX11_badAt x1) + (1 : Int32)).toNatClampNeg) then some (.inr ((1 : Int32), tI, t_size, t_givenRow, t_givenColumn, t_newRow)) else fX11_cell_l87 x1 tI t_all t_size t_givenRow t_givenColumn t_newRow n (x3 + (1 : Int32))))))
def fX11_cell (tI : Nat → Int32) (t_all : Nat → Int32) (t_size : Nat → Int32) (t_givenRow : Nat → Int32) (t_givenColumn : Nat → Int32) (t_newRow : Nat → Int32) (p0 : Int32) (p1 : Int32) : Option (Int32 × (Nat → Int32) × (Nat → Int32) × (Nat → Int32) × (Nat → Int32) × (Nat → Int32)) :=
  (if (bi (fX11_isIn p0 (0 : Int32) ((t_all 9) - (1 : Int32)))) = 0 then some ((-1 : Int32), tI, t_size, t_givenRow, t_givenColumn, t_newRow) else (if (bi (fX11_isIn p1 (0 : Int32) (3 : Int32))) = 0 then some ((-1 : Int32), tI, t_size, t_givenRow, t_givenColumn, t_newRow) else (if (3 : Int32) ≤ p1 then bn (fX11_laysAll tI t_all t_size t_givenRow t_givenColumn t_newRow) fun a4 => (bn (fX11_cell_l51 p0 a4.1 t_all a4.2.1 a4.2.2.1 a4.2.2.2.1 a4.2.2.2.2 FU (0 : Int32)) fun y10 => match y10 with | .inl y10z => (bn (fX11_cell_l87 p0 a4.1 t_all a4.2.1 a4.2.2.1 a4.2.2.2.1 a4.2.2.2.2 FU (0 : Int32)) fun y15 => match y15 with | .inl y15z => some ((0 : Int32), a4.1, a4.2.1, a4.2.2.1, a4.2.2.2.1, a4.2.2.2.2) | .inr y15o => some y15o) | .inr y10o => some y10o) else gd (gi ((fX11_badAt p0) + p1) 43047) (some ((t_all ((fX11_badAt p0) + p1).toNatClampNeg), tI, t_size, t_givenRow, t_givenColumn, t_newRow)))))
set_option maxRecDepth 100000 in
set_option maxHeartbeats 4000000 in
theorem tX11_cell (l : Launch) (G : gG) (ad_t ad_t_all ad_t_tape ad_t_isImage ad_t_size ad_t_givenRow ad_t_givenColumn ad_t_newRow ad_t_view : Nat) (tI : Nat → Int32) (t_value : Int64) (t_all : Nat → Int32) (t_size : Nat → Int32) (t_givenRow : Nat → Int32) (t_givenColumn : Nat → Int32) (t_newRow : Nat → Int32) (p0 : Int32) (p1 : Int32) (o : Int32 × (Nat → Int32) × (Nat → Int32) × (Nat → Int32) × (Nat → Int32) × (Nat → Int32)) (hf : fX11_cell tI t_all t_size t_givenRow t_givenColumn t_newRow p0 p1 = some o) : mE G l yX11_cell cX11_cell 4 (some .int) 13 302 0 0 [.ref ad_t, .int p0, .int p1] [(ad_t, .inr (11, [.ref ad_t_all, .ref ad_t_tape, .ref ad_t_isImage, .int (tI 3), .int (tI 4), .int (tI 5), .int (tI 6), .ref ad_t_size, .ref ad_t_givenRow, .ref ad_t_givenColumn, .ref ad_t_newRow, .int (tI 11), .int (tI 12), .int (tI 13), .int (tI 14), .int (tI 15), .int (tI 16), .int (tI 17), .int (tI 18), .int (tI 19), .ref ad_t_view, .int (tI 21), .int (tI 22), .int (tI 23), .int (tI 24), .int (tI 25), .long t_value, .int (tI 27), .int (tI 28)])), (ad_t_all, .inl (G.2.1 0, 43047, .inl t_all)), (ad_t_size, .inl (G.2.1 0, 8, .inl t_size)), (ad_t_givenRow, .inl (G.2.1 0, 12, .inl t_givenRow)), (ad_t_givenColumn, .inl (G.2.1 0, 2, .inl t_givenColumn)), (ad_t_newRow, .inl (G.2.1 0, 13, .inl t_newRow))] (fun r w => r = (some (.int o.1)) ∧ w = [(ad_t, .inr (11, [.ref ad_t_all, .ref ad_t_tape, .ref ad_t_isImage, .int (o.2.1 3), .int (o.2.1 4), .int (o.2.1 5), .int (o.2.1 6), .ref ad_t_size, .ref ad_t_givenRow, .ref ad_t_givenColumn, .ref ad_t_newRow, .int (o.2.1 11), .int (o.2.1 12), .int (o.2.1 13), .int (o.2.1 14), .int (o.2.1 15), .int (o.2.1 16), .int (o.2.1 17), .int (o.2.1 18), .int (o.2.1 19), .ref ad_t_view, .int (o.2.1 21), .int (o.2.1 22), .int (o.2.1 23), .int (o.2.1 24), .int (o.2.1 25), .long t_value, .int (o.2.1 27), .int (o.2.1 28)])), (ad_t_all, .inl (G.2.1 0, 43047, .inl t_all)), (ad_t_size, .inl (G.2.1 0, 8, .inl o.2.2.1)), (ad_t_givenRow, .inl (G.2.1 0, 12, .inl o.2.2.2.1)), (ad_t_givenColumn, .inl (G.2.1 0, 2, .inl o.2.2.2.2.1)), (ad_t_newRow, .inl (G.2.1 0, 13, .inl o.2.2.2.2.2))]) := by
  refine mE_of (by decide) (Nat.le_of_ble_eq_true rfl) ?_
  intro p e s m below meth cd ls A hx hb hml hown hts hr hlocks hnm hl hA hP hD hS hG
  have hK := hG.1
  have hown : s.vm.findClass RX11 = some m.cls := hown
  have hl : lv_has ls 4 [(0, .ref ad_t), (1, .int p0), (2, .int p1)] := hl
  have hS := hS
  unfold fX11_cell at hf
  obtain ⟨H, locs, eH, eL⟩ : ∃ (H : Heap) (locs : List Loc), H = s.heap ∧ locs = [] := ⟨_, _, rfl, rfl⟩
  have hP : va_P G.1 vwCl [(ad_t, .inr (11, [.ref ad_t_all, .ref ad_t_tape, .ref ad_t_isImage, .int (tI 3), .int (tI 4), .int (tI 5), .int (tI 6), .ref ad_t_size, .ref ad_t_givenRow, .ref ad_t_givenColumn, .ref ad_t_newRow, .int (tI 11), .int (tI 12), .int (tI 13), .int (tI 14), .int (tI 15), .int (tI 16), .int (tI 17), .int (tI 18), .int (tI 19), .ref ad_t_view, .int (tI 21), .int (tI 22), .int (tI 23), .int (tI 24), .int (tI 25), .long t_value, .int (tI 27), .int (tI 28)])), (ad_t_all, .inl (G.2.1 0, 43047, .inl t_all)), (ad_t_size, .inl (G.2.1 0, 8, .inl t_size)), (ad_t_givenRow, .inl (G.2.1 0, 12, .inl t_givenRow)), (ad_t_givenColumn, .inl (G.2.1 0, 2, .inl t_givenColumn)), (ad_t_newRow, .inl (G.2.1 0, 13, .inl t_newRow))] H := eH ▸ hP
  have hS : va_S A s.heap H locs := by rw [eH, eL]; exact hS
  suffices hgo : wG p l e 13 302 s m [.ref ad_t, .int p0, .int p1] below meth cd H locs (eQ G A (fun r w => r = (some (.int o.1)) ∧ w = [(ad_t, .inr (11, [.ref ad_t_all, .ref ad_t_tape, .ref ad_t_isImage, .int (o.2.1 3), .int (o.2.1 4), .int (o.2.1 5), .int (o.2.1 6), .ref ad_t_size, .ref ad_t_givenRow, .ref ad_t_givenColumn, .ref ad_t_newRow, .int (o.2.1 11), .int (o.2.1 12), .int (o.2.1 13), .int (o.2.1 14), .int (o.2.1 15), .int (o.2.1 16), .int (o.2.1 17), .int (o.2.1 18), .int (o.2.1 19), .ref ad_t_view, .int (o.2.1 21), .int (o.2.1 22), .int (o.2.1 23), .int (o.2.1 24), .int (o.2.1 25), .long t_value, .int (o.2.1 27), .int (o.2.1 28)])), (ad_t_all, .inl (G.2.1 0, 43047, .inl t_all)), (ad_t_size, .inl (G.2.1 0, 8, .inl o.2.2.1)), (ad_t_givenRow, .inl (G.2.1 0, 12, .inl o.2.2.2.1)), (ad_t_givenColumn, .inl (G.2.1 0, 2, .inl o.2.2.2.2.1)), (ad_t_newRow, .inl (G.2.1 0, 13, .inl o.2.2.2.2.2))])) A (F0 m 0 ls []) by rw [eH, eL] at hgo; exact hgo
  clear eH eL
  refine lv_iload_n hx hb dX11_cell_0 rfl (lv_at hl 1 rfl) ?_
  refine lv_iconst (v := 0) hx hb dX11_cell_1 (by decide) ?_
  refine lv_aload_n hx hb dX11_cell_2 rfl (lv_at hl 0 rfl) ?_
  refine va_get (D := G.1) (cl := vwCl) (ci := 11) (v := .ref ad_t_all) (C := RX11) (T := TX11) (N := 29) hx hb hts inG11 hown hK hP 0 rfl rfl 0 (Nat.le_of_ble_eq_true rfl) (hts _ q1041) (fun _ h9 => h9) rfl dX11_cell_3 ?_
  refine lv_bipush (v := 9) hx hb dX11_cell_6 (by decide) ?_
  refine va_iald (D := G.1) (cl := vwCl) hx hb hK hP 1 0 rfl rfl (vin (by decide)) dX11_cell_8 ?_
  refine lv_ti (v := (t_all 9)) (congrArg (t_all) (tn 9)) ?_
  refine lv_iconst (v := 1) hx hb dX11_cell_9 (by decide) ?_
  refine lv_isub hx hb dX11_cell_10 ?_
  refine kPS (tX11_isIn l G p0 (0 : Int32) ((t_all 9) - (1 : Int32)) _ rfl) ⟨hx, hb, hml, hown, hts⟩ q1137 q1138 q108 q1139 okyX11_isIn ⟨Nat.le_of_ble_eq_true rfl, Nat.le_of_ble_eq_true rfl⟩ hP hG hS [] rfl hl.1 rfl (Nat.le_of_ble_eq_true rfl) dX11_cell_11 ⟨Nat.zero_le _, Nat.zero_le _⟩ (fun locs hS => ?_)
  refine W.eq (g2 := F0 m 14 ls [.int (bi (fX11_isIn p0 (0 : Int32) ((t_all 9) - (1 : Int32))))]) rfl ?_
  refine lv_if_eq (tgt := 26) hx hb dX11_cell_14 (by decide) (fun c17 => ?_) (fun c17 => ?_)
  · have hf := if_t hf c17
    refine lv_iconst (v := -1) hx hb dX11_cell_26 (by decide) ?_
    have hf := Option.some.inj hf
    subst hf
    exact eRet hx hb hr hlocks hP hD hS ⟨rfl, rfl⟩ dX11_cell_27
  · have hf := if_f hf c17
    refine lv_iload_n hx hb dX11_cell_17 rfl (lv_at hl 2 rfl) ?_
    refine lv_iconst (v := 0) hx hb dX11_cell_18 (by decide) ?_
    refine lv_iconst (v := 3) hx hb dX11_cell_19 (by decide) ?_
    refine kPS (tX11_isIn l G p1 (0 : Int32) (3 : Int32) _ rfl) ⟨hx, hb, hml, hown, hts⟩ q1137 q1138 q108 q1139 okyX11_isIn ⟨Nat.le_of_ble_eq_true rfl, Nat.le_of_ble_eq_true rfl⟩ hP hG hS [] rfl hl.1 rfl (Nat.le_of_ble_eq_true rfl) dX11_cell_20 ⟨Nat.zero_le _, Nat.zero_le _⟩ (fun locs hS => ?_)
    refine W.eq (g2 := F0 m 23 ls [.int (bi (fX11_isIn p1 (0 : Int32) (3 : Int32)))]) rfl ?_
    refine lv_if_ne (tgt := 28) hx hb dX11_cell_23 (by decide) (fun c18 => ?_) (fun c18 => ?_)
    · have hf := if_f hf c18
      refine lv_iload_n hx hb dX11_cell_28 rfl (lv_at hl 2 rfl) ?_
      refine lv_iconst (v := 3) hx hb dX11_cell_29 (by decide) ?_
      refine lv_icmp_ge (tgt := 45) hx hb dX11_cell_30 (by decide) (fun c19 => ?_) (fun c19 => ?_)
      · have hf := if_t hf c19
        refine lv_aload_n hx hb dX11_cell_45 rfl (lv_at hl 0 rfl) ?_
        obtain ⟨a20, h21, hf⟩ := bn_some hf
        refine kEV (tX11_laysAll l G ad_t ad_t_all ad_t_tape ad_t_isImage ad_t_size ad_t_givenRow ad_t_givenColumn ad_t_newRow ad_t_view tI t_value t_all t_size t_givenRow t_givenColumn t_newRow a20 h21) ⟨hx, hb, hml, hown, hts⟩ q1294 q1296 q69 q108 q1297 okyX11_laysAll ⟨Nat.le_of_ble_eq_true rfl, Nat.le_of_ble_eq_true rfl⟩ hP hD hG hS hA [0, 1, 2, 3, 4, 5] [] rfl (wr := []) rfl (by decide) 0 rfl rfl hl.1 rfl (Nat.le_of_ble_eq_true rfl) dX11_cell_46 ⟨Nat.zero_le _, Nat.zero_le _⟩ (fun r w H locs hR hP hD hS => ?_)
        obtain ⟨rfl, rfl⟩ := hR
        have hP : va_P G.1 vwCl [(ad_t, .inr (11, [.ref ad_t_all, .ref ad_t_tape, .ref ad_t_isImage, .int (a20.1 3), .int (a20.1 4), .int (a20.1 5), .int (a20.1 6), .ref ad_t_size, .ref ad_t_givenRow, .ref ad_t_givenColumn, .ref ad_t_newRow, .int (a20.1 11), .int (a20.1 12), .int (a20.1 13), .int (a20.1 14), .int (a20.1 15), .int (a20.1 16), .int (a20.1 17), .int (a20.1 18), .int (a20.1 19), .ref ad_t_view, .int (a20.1 21), .int (a20.1 22), .int (a20.1 23), .int (a20.1 24), .int (a20.1 25), .long t_value, .int (a20.1 27), .int (a20.1 28)])), (ad_t_all, .inl (G.2.1 0, 43047, .inl t_all)), (ad_t_size, .inl (G.2.1 0, 8, .inl a20.2.1)), (ad_t_givenRow, .inl (G.2.1 0, 12, .inl a20.2.2.1)), (ad_t_givenColumn, .inl (G.2.1 0, 2, .inl a20.2.2.2.1)), (ad_t_newRow, .inl (G.2.1 0, 13, .inl a20.2.2.2.2))] H := hP
        have hD : va_D A [(ad_t, .inr (11, [.ref ad_t_all, .ref ad_t_tape, .ref ad_t_isImage, .int (a20.1 3), .int (a20.1 4), .int (a20.1 5), .int (a20.1 6), .ref ad_t_size, .ref ad_t_givenRow, .ref ad_t_givenColumn, .ref ad_t_newRow, .int (a20.1 11), .int (a20.1 12), .int (a20.1 13), .int (a20.1 14), .int (a20.1 15), .int (a20.1 16), .int (a20.1 17), .int (a20.1 18), .int (a20.1 19), .ref ad_t_view, .int (a20.1 21), .int (a20.1 22), .int (a20.1 23), .int (a20.1 24), .int (a20.1 25), .long t_value, .int (a20.1 27), .int (a20.1 28)])), (ad_t_all, .inl (G.2.1 0, 43047, .inl t_all)), (ad_t_size, .inl (G.2.1 0, 8, .inl a20.2.1)), (ad_t_givenRow, .inl (G.2.1 0, 12, .inl a20.2.2.1)), (ad_t_givenColumn, .inl (G.2.1 0, 2, .inl a20.2.2.2.1)), (ad_t_newRow, .inl (G.2.1 0, 13, .inl a20.2.2.2.2))] := hD
        refine W.eq (g2 := F0 m 49 ls []) rfl ?_
        refine lv_iconst (v := 0) hx hb dX11_cell_49 (by decide) ?_
        refine lv_istore_n (lv' := [(3, .int (0 : Int32)), (0, .ref ad_t), (1, .int p0), (2, .int p1)]) hx hb dX11_cell_50 rfl hl (by decide) rfl (fun ls hl => ?_)
        obtain ⟨y22, hLy22, hky22⟩ := bn_some hf
        have Ey22 : ∀ y22z, y22 = .inl y22z → ∀  (H : Heap) (locs : List Loc) (ls : Array Slot), lv_has ls 4 [(0, .ref ad_t), (1, .int p0)] → va_P G.1 vwCl [(ad_t, .inr (11, [.ref ad_t_all, .ref ad_t_tape, .ref ad_t_isImage, .int (a20.1 3), .int (a20.1 4), .int (a20.1 5), .int (a20.1 6), .ref ad_t_size, .ref ad_t_givenRow, .ref ad_t_givenColumn, .ref ad_t_newRow, .int (a20.1 11), .int (a20.1 12), .int (a20.1 13), .int (a20.1 14), .int (a20.1 15), .int (a20.1 16), .int (a20.1 17), .int (a20.1 18), .int (a20.1 19), .ref ad_t_view, .int (a20.1 21), .int (a20.1 22), .int (a20.1 23), .int (a20.1 24), .int (a20.1 25), .long t_value, .int (a20.1 27), .int (a20.1 28)])), (ad_t_all, .inl (G.2.1 0, 43047, .inl t_all)), (ad_t_size, .inl (G.2.1 0, 8, .inl a20.2.1)), (ad_t_givenRow, .inl (G.2.1 0, 12, .inl a20.2.2.1)), (ad_t_givenColumn, .inl (G.2.1 0, 2, .inl a20.2.2.2.1)), (ad_t_newRow, .inl (G.2.1 0, 13, .inl a20.2.2.2.2))] H → va_D A [(ad_t, .inr (11, [.ref ad_t_all, .ref ad_t_tape, .ref ad_t_isImage, .int (a20.1 3), .int (a20.1 4), .int (a20.1 5), .int (a20.1 6), .ref ad_t_size, .ref ad_t_givenRow, .ref ad_t_givenColumn, .ref ad_t_newRow, .int (a20.1 11), .int (a20.1 12), .int (a20.1 13), .int (a20.1 14), .int (a20.1 15), .int (a20.1 16), .int (a20.1 17), .int (a20.1 18), .int (a20.1 19), .ref ad_t_view, .int (a20.1 21), .int (a20.1 22), .int (a20.1 23), .int (a20.1 24), .int (a20.1 25), .long t_value, .int (a20.1 27), .int (a20.1 28)])), (ad_t_all, .inl (G.2.1 0, 43047, .inl t_all)), (ad_t_size, .inl (G.2.1 0, 8, .inl a20.2.1)), (ad_t_givenRow, .inl (G.2.1 0, 12, .inl a20.2.2.1)), (ad_t_givenColumn, .inl (G.2.1 0, 2, .inl a20.2.2.2.1)), (ad_t_newRow, .inl (G.2.1 0, 13, .inl a20.2.2.2.2))] → va_S A s.heap H locs → wG p l e 13 302 s m [.ref ad_t, .int p0, .int p1] below meth cd H locs (eQ G A (fun r w => r = (some (.int o.1)) ∧ w = [(ad_t, .inr (11, [.ref ad_t_all, .ref ad_t_tape, .ref ad_t_isImage, .int (o.2.1 3), .int (o.2.1 4), .int (o.2.1 5), .int (o.2.1 6), .ref ad_t_size, .ref ad_t_givenRow, .ref ad_t_givenColumn, .ref ad_t_newRow, .int (o.2.1 11), .int (o.2.1 12), .int (o.2.1 13), .int (o.2.1 14), .int (o.2.1 15), .int (o.2.1 16), .int (o.2.1 17), .int (o.2.1 18), .int (o.2.1 19), .ref ad_t_view, .int (o.2.1 21), .int (o.2.1 22), .int (o.2.1 23), .int (o.2.1 24), .int (o.2.1 25), .long t_value, .int (o.2.1 27), .int (o.2.1 28)])), (ad_t_all, .inl (G.2.1 0, 43047, .inl t_all)), (ad_t_size, .inl (G.2.1 0, 8, .inl o.2.2.1)), (ad_t_givenRow, .inl (G.2.1 0, 12, .inl o.2.2.2.1)), (ad_t_givenColumn, .inl (G.2.1 0, 2, .inl o.2.2.2.2.1)), (ad_t_newRow, .inl (G.2.1 0, 13, .inl o.2.2.2.2.2))])) A (F0 m 85 ls []) := by
          intro y22z ez
          intro  H locs ls hl hP hD hS
          subst ez
          have hf := hky22
          (try dsimp only at hf)
          refine lv_iconst (v := 0) hx hb dX11_cell_85 (by decide) ?_
          refine lv_istore_n (lv' := [(3, .int (0 : Int32)), (0, .ref ad_t), (1, .int p0)]) hx hb dX11_cell_86 rfl hl (by decide) rfl (fun ls hl => ?_)
          obtain ⟨y23, hLy23, hky23⟩ := bn_some hf
          have Ey23 : ∀ y23z, y23 = .inl y23z → ∀  (H : Heap) (locs : List Loc) (ls : Array Slot), lv_has ls 4 [] → va_P G.1 vwCl [(ad_t, .inr (11, [.ref ad_t_all, .ref ad_t_tape, .ref ad_t_isImage, .int (a20.1 3), .int (a20.1 4), .int (a20.1 5), .int (a20.1 6), .ref ad_t_size, .ref ad_t_givenRow, .ref ad_t_givenColumn, .ref ad_t_newRow, .int (a20.1 11), .int (a20.1 12), .int (a20.1 13), .int (a20.1 14), .int (a20.1 15), .int (a20.1 16), .int (a20.1 17), .int (a20.1 18), .int (a20.1 19), .ref ad_t_view, .int (a20.1 21), .int (a20.1 22), .int (a20.1 23), .int (a20.1 24), .int (a20.1 25), .long t_value, .int (a20.1 27), .int (a20.1 28)])), (ad_t_all, .inl (G.2.1 0, 43047, .inl t_all)), (ad_t_size, .inl (G.2.1 0, 8, .inl a20.2.1)), (ad_t_givenRow, .inl (G.2.1 0, 12, .inl a20.2.2.1)), (ad_t_givenColumn, .inl (G.2.1 0, 2, .inl a20.2.2.2.1)), (ad_t_newRow, .inl (G.2.1 0, 13, .inl a20.2.2.2.2))] H → va_D A [(ad_t, .inr (11, [.ref ad_t_all, .ref ad_t_tape, .ref ad_t_isImage, .int (a20.1 3), .int (a20.1 4), .int (a20.1 5), .int (a20.1 6), .ref ad_t_size, .ref ad_t_givenRow, .ref ad_t_givenColumn, .ref ad_t_newRow, .int (a20.1 11), .int (a20.1 12), .int (a20.1 13), .int (a20.1 14), .int (a20.1 15), .int (a20.1 16), .int (a20.1 17), .int (a20.1 18), .int (a20.1 19), .ref ad_t_view, .int (a20.1 21), .int (a20.1 22), .int (a20.1 23), .int (a20.1 24), .int (a20.1 25), .long t_value, .int (a20.1 27), .int (a20.1 28)])), (ad_t_all, .inl (G.2.1 0, 43047, .inl t_all)), (ad_t_size, .inl (G.2.1 0, 8, .inl a20.2.1)), (ad_t_givenRow, .inl (G.2.1 0, 12, .inl a20.2.2.1)), (ad_t_givenColumn, .inl (G.2.1 0, 2, .inl a20.2.2.2.1)), (ad_t_newRow, .inl (G.2.1 0, 13, .inl a20.2.2.2.2))] → va_S A s.heap H locs → wG p l e 13 302 s m [.ref ad_t, .int p0, .int p1] below meth cd H locs (eQ G A (fun r w => r = (some (.int o.1)) ∧ w = [(ad_t, .inr (11, [.ref ad_t_all, .ref ad_t_tape, .ref ad_t_isImage, .int (o.2.1 3), .int (o.2.1 4), .int (o.2.1 5), .int (o.2.1 6), .ref ad_t_size, .ref ad_t_givenRow, .ref ad_t_givenColumn, .ref ad_t_newRow, .int (o.2.1 11), .int (o.2.1 12), .int (o.2.1 13), .int (o.2.1 14), .int (o.2.1 15), .int (o.2.1 16), .int (o.2.1 17), .int (o.2.1 18), .int (o.2.1 19), .ref ad_t_view, .int (o.2.1 21), .int (o.2.1 22), .int (o.2.1 23), .int (o.2.1 24), .int (o.2.1 25), .long t_value, .int (o.2.1 27), .int (o.2.1 28)])), (ad_t_all, .inl (G.2.1 0, 43047, .inl t_all)), (ad_t_size, .inl (G.2.1 0, 8, .inl o.2.2.1)), (ad_t_givenRow, .inl (G.2.1 0, 12, .inl o.2.2.2.1)), (ad_t_givenColumn, .inl (G.2.1 0, 2, .inl o.2.2.2.2.1)), (ad_t_newRow, .inl (G.2.1 0, 13, .inl o.2.2.2.2.2))])) A (F0 m 123 ls []) := by
            intro y23z ez
            intro  H locs ls hl hP hD hS
            subst ez
            have hf := hky23
            (try dsimp only at hf)
            refine lv_iconst (v := 0) hx hb dX11_cell_123 (by decide) ?_
            have hf := Option.some.inj hf
            subst hf
            exact eRet hx hb hr hlocks hP hD hS ⟨rfl, rfl⟩ dX11_cell_124
          have Ly23 : ∀ (n : Nat), ∀ (x24 : Int32) (H : Heap) (locs : List Loc) (ls : Array Slot), lv_has ls 4 [(3, .int x24), (0, .ref ad_t), (1, .int p0)] → va_P G.1 vwCl [(ad_t, .inr (11, [.ref ad_t_all, .ref ad_t_tape, .ref ad_t_isImage, .int (a20.1 3), .int (a20.1 4), .int (a20.1 5), .int (a20.1 6), .ref ad_t_size, .ref ad_t_givenRow, .ref ad_t_givenColumn, .ref ad_t_newRow, .int (a20.1 11), .int (a20.1 12), .int (a20.1 13), .int (a20.1 14), .int (a20.1 15), .int (a20.1 16), .int (a20.1 17), .int (a20.1 18), .int (a20.1 19), .ref ad_t_view, .int (a20.1 21), .int (a20.1 22), .int (a20.1 23), .int (a20.1 24), .int (a20.1 25), .long t_value, .int (a20.1 27), .int (a20.1 28)])), (ad_t_all, .inl (G.2.1 0, 43047, .inl t_all)), (ad_t_size, .inl (G.2.1 0, 8, .inl a20.2.1)), (ad_t_givenRow, .inl (G.2.1 0, 12, .inl a20.2.2.1)), (ad_t_givenColumn, .inl (G.2.1 0, 2, .inl a20.2.2.2.1)), (ad_t_newRow, .inl (G.2.1 0, 13, .inl a20.2.2.2.2))] H → va_D A [(ad_t, .inr (11, [.ref ad_t_all, .ref ad_t_tape, .ref ad_t_isImage, .int (a20.1 3), .int (a20.1 4), .int (a20.1 5), .int (a20.1 6), .ref ad_t_size, .ref ad_t_givenRow, .ref ad_t_givenColumn, .ref ad_t_newRow, .int (a20.1 11), .int (a20.1 12), .int (a20.1 13), .int (a20.1 14), .int (a20.1 15), .int (a20.1 16), .int (a20.1 17), .int (a20.1 18), .int (a20.1 19), .ref ad_t_view, .int (a20.1 21), .int (a20.1 22), .int (a20.1 23), .int (a20.1 24), .int (a20.1 25), .long t_value, .int (a20.1 27), .int (a20.1 28)])), (ad_t_all, .inl (G.2.1 0, 43047, .inl t_all)), (ad_t_size, .inl (G.2.1 0, 8, .inl a20.2.1)), (ad_t_givenRow, .inl (G.2.1 0, 12, .inl a20.2.2.1)), (ad_t_givenColumn, .inl (G.2.1 0, 2, .inl a20.2.2.2.1)), (ad_t_newRow, .inl (G.2.1 0, 13, .inl a20.2.2.2.2))] → va_S A s.heap H locs → fX11_cell_l87 p0 a20.1 t_all a20.2.1 a20.2.2.1 a20.2.2.2.1 a20.2.2.2.2 n x24 = some y23 → wG p l e 13 302 s m [.ref ad_t, .int p0, .int p1] below meth cd H locs (eQ G A (fun r w => r = (some (.int o.1)) ∧ w = [(ad_t, .inr (11, [.ref ad_t_all, .ref ad_t_tape, .ref ad_t_isImage, .int (o.2.1 3), .int (o.2.1 4), .int (o.2.1 5), .int (o.2.1 6), .ref ad_t_size, .ref ad_t_givenRow, .ref ad_t_givenColumn, .ref ad_t_newRow, .int (o.2.1 11), .int (o.2.1 12), .int (o.2.1 13), .int (o.2.1 14), .int (o.2.1 15), .int (o.2.1 16), .int (o.2.1 17), .int (o.2.1 18), .int (o.2.1 19), .ref ad_t_view, .int (o.2.1 21), .int (o.2.1 22), .int (o.2.1 23), .int (o.2.1 24), .int (o.2.1 25), .long t_value, .int (o.2.1 27), .int (o.2.1 28)])), (ad_t_all, .inl (G.2.1 0, 43047, .inl t_all)), (ad_t_size, .inl (G.2.1 0, 8, .inl o.2.2.1)), (ad_t_givenRow, .inl (G.2.1 0, 12, .inl o.2.2.2.1)), (ad_t_givenColumn, .inl (G.2.1 0, 2, .inl o.2.2.2.2.1)), (ad_t_newRow, .inl (G.2.1 0, 13, .inl o.2.2.2.2.2))])) A (F0 m 87 ls []) := by
            intro n
            induction n with
            | zero =>
              intro x24 H locs ls hl hP hD hS hf
              rw [fX11_cell_l87] at hf
              cases hf
            | succ n ih =>
              intro x24 H locs ls hl hP hD hS hf
              rw [fX11_cell_l87] at hf
              refine lv_iload_n hx hb dX11_cell_87 rfl (lv_at hl 0 rfl) ?_
              refine lv_aload_n hx hb dX11_cell_88 rfl (lv_at hl 1 rfl) ?_
              refine va_get (D := G.1) (cl := vwCl) (ci := 11) (v := .int (a20.1 12)) (C := RX11) (T := TX11) (N := 29) hx hb hts inG11 hown hK hP 0 rfl rfl 12 (Nat.le_of_ble_eq_true rfl) (hts _ q1053) (fun _ h9 => h9) rfl dX11_cell_89 ?_
              refine lv_icmp_ge (tgt := 123) hx hb dX11_cell_92 (by decide) (fun c25 => ?_) (fun c25 => ?_)
              · have hf := if_t hf c25
                have hf := Option.some.inj hf
                subst hf
                exact Ey23 _ rfl H locs ls (lv_sub hl [] rfl) hP hD hS 
              · have hf := if_f hf c25
                refine lv_aload_n hx hb dX11_cell_95 rfl (lv_at hl 1 rfl) ?_
                refine va_get (D := G.1) (cl := vwCl) (ci := 11) (v := .ref ad_t_givenColumn) (C := RX11) (T := TX11) (N := 29) hx hb hts inG11 hown hK hP 0 rfl rfl 9 (Nat.le_of_ble_eq_true rfl) (hts _ q1050) (fun _ h9 => h9) rfl dX11_cell_96 ?_
                refine lv_iload_n hx hb dX11_cell_99 rfl (lv_at hl 0 rfl) ?_
                obtain ⟨h26, hf⟩ := gd_some hf
                refine va_iald (D := G.1) (cl := vwCl) hx hb hK hP 4 0 rfl rfl (gi_in h26) dX11_cell_100 ?_
                refine lv_aload_n hx hb dX11_cell_101 rfl (lv_at hl 1 rfl) ?_
                refine va_get (D := G.1) (cl := vwCl) (ci := 11) (v := .ref ad_t_all) (C := RX11) (T := TX11) (N := 29) hx hb hts inG11 hown hK hP 0 rfl rfl 0 (Nat.le_of_ble_eq_true rfl) (hts _ q1041) (fun _ h9 => h9) rfl dX11_cell_102 ?_
                refine lv_iload_n hx hb dX11_cell_105 rfl (lv_at hl 2 rfl) ?_
                refine kPS (tX11_badAt l G p0 _ rfl) ⟨hx, hb, hml, hown, hts⟩ q1287 q1288 q108 q1289 okyX11_badAt ⟨Nat.le_of_ble_eq_true rfl, Nat.le_of_ble_eq_true rfl⟩ hP hG hS [] rfl hl.1 rfl (Nat.le_of_ble_eq_true rfl) dX11_cell_106 ⟨Nat.zero_le _, Nat.zero_le _⟩ (fun locs hS => ?_)
                refine W.eq (g2 := F0 m 109 ls [.int (fX11_badAt p0), .ref ad_t_all, .int (a20.2.2.2.1 x24.toNatClampNeg)]) rfl ?_
                refine lv_iconst (v := 1) hx hb dX11_cell_109 (by decide) ?_
                refine lv_iadd hx hb dX11_cell_110 ?_
                obtain ⟨h27, hf⟩ := gd_some hf
                refine va_iald (D := G.1) (cl := vwCl) hx hb hK hP 1 0 rfl rfl (gi_in h27) dX11_cell_111 ?_
                refine lv_icmp_ne (tgt := 117) hx hb dX11_cell_112 (by decide) (fun c28 => ?_) (fun c28 => ?_)
                · have hf := if_f hf c28
                  refine lv_iinc (v := (x24 + (1 : Int32))) (lv' := [(3, .int (x24 + (1 : Int32))), (0, .ref ad_t), (1, .int p0)]) hx hb dX11_cell_117 hl (k := 0) rfl (ii_1 _) (by decide) rfl (fun ls hl => ?_)
                  refine lv_goto (tgt := 87) hx hb dX11_cell_120 (by decide) ?_
                  exact ih (x24 + (1 : Int32)) H locs ls (lv_sub hl [0, 1, 2] rfl) hP hD hS hf
                · have hf := if_t hf c28
                  refine lv_iconst (v := 1) hx hb dX11_cell_115 (by decide) ?_
                  have hf := Option.some.inj hf
                  subst hf
                  have hf := hky23
                  (try dsimp only at hf)
                  have hf := Option.some.inj hf
                  subst hf
                  exact eRet hx hb hr hlocks hP hD hS ⟨rfl, rfl⟩ dX11_cell_116
          exact Ly23 FU (0 : Int32) H locs ls (lv_sub hl [0, 1, 2] rfl) hP hD hS hLy23
        have Ly22 : ∀ (n : Nat), ∀ (x29 : Int32) (H : Heap) (locs : List Loc) (ls : Array Slot), lv_has ls 4 [(3, .int x29), (0, .ref ad_t), (1, .int p0)] → va_P G.1 vwCl [(ad_t, .inr (11, [.ref ad_t_all, .ref ad_t_tape, .ref ad_t_isImage, .int (a20.1 3), .int (a20.1 4), .int (a20.1 5), .int (a20.1 6), .ref ad_t_size, .ref ad_t_givenRow, .ref ad_t_givenColumn, .ref ad_t_newRow, .int (a20.1 11), .int (a20.1 12), .int (a20.1 13), .int (a20.1 14), .int (a20.1 15), .int (a20.1 16), .int (a20.1 17), .int (a20.1 18), .int (a20.1 19), .ref ad_t_view, .int (a20.1 21), .int (a20.1 22), .int (a20.1 23), .int (a20.1 24), .int (a20.1 25), .long t_value, .int (a20.1 27), .int (a20.1 28)])), (ad_t_all, .inl (G.2.1 0, 43047, .inl t_all)), (ad_t_size, .inl (G.2.1 0, 8, .inl a20.2.1)), (ad_t_givenRow, .inl (G.2.1 0, 12, .inl a20.2.2.1)), (ad_t_givenColumn, .inl (G.2.1 0, 2, .inl a20.2.2.2.1)), (ad_t_newRow, .inl (G.2.1 0, 13, .inl a20.2.2.2.2))] H → va_D A [(ad_t, .inr (11, [.ref ad_t_all, .ref ad_t_tape, .ref ad_t_isImage, .int (a20.1 3), .int (a20.1 4), .int (a20.1 5), .int (a20.1 6), .ref ad_t_size, .ref ad_t_givenRow, .ref ad_t_givenColumn, .ref ad_t_newRow, .int (a20.1 11), .int (a20.1 12), .int (a20.1 13), .int (a20.1 14), .int (a20.1 15), .int (a20.1 16), .int (a20.1 17), .int (a20.1 18), .int (a20.1 19), .ref ad_t_view, .int (a20.1 21), .int (a20.1 22), .int (a20.1 23), .int (a20.1 24), .int (a20.1 25), .long t_value, .int (a20.1 27), .int (a20.1 28)])), (ad_t_all, .inl (G.2.1 0, 43047, .inl t_all)), (ad_t_size, .inl (G.2.1 0, 8, .inl a20.2.1)), (ad_t_givenRow, .inl (G.2.1 0, 12, .inl a20.2.2.1)), (ad_t_givenColumn, .inl (G.2.1 0, 2, .inl a20.2.2.2.1)), (ad_t_newRow, .inl (G.2.1 0, 13, .inl a20.2.2.2.2))] → va_S A s.heap H locs → fX11_cell_l51 p0 a20.1 t_all a20.2.1 a20.2.2.1 a20.2.2.2.1 a20.2.2.2.2 n x29 = some y22 → wG p l e 13 302 s m [.ref ad_t, .int p0, .int p1] below meth cd H locs (eQ G A (fun r w => r = (some (.int o.1)) ∧ w = [(ad_t, .inr (11, [.ref ad_t_all, .ref ad_t_tape, .ref ad_t_isImage, .int (o.2.1 3), .int (o.2.1 4), .int (o.2.1 5), .int (o.2.1 6), .ref ad_t_size, .ref ad_t_givenRow, .ref ad_t_givenColumn, .ref ad_t_newRow, .int (o.2.1 11), .int (o.2.1 12), .int (o.2.1 13), .int (o.2.1 14), .int (o.2.1 15), .int (o.2.1 16), .int (o.2.1 17), .int (o.2.1 18), .int (o.2.1 19), .ref ad_t_view, .int (o.2.1 21), .int (o.2.1 22), .int (o.2.1 23), .int (o.2.1 24), .int (o.2.1 25), .long t_value, .int (o.2.1 27), .int (o.2.1 28)])), (ad_t_all, .inl (G.2.1 0, 43047, .inl t_all)), (ad_t_size, .inl (G.2.1 0, 8, .inl o.2.2.1)), (ad_t_givenRow, .inl (G.2.1 0, 12, .inl o.2.2.2.1)), (ad_t_givenColumn, .inl (G.2.1 0, 2, .inl o.2.2.2.2.1)), (ad_t_newRow, .inl (G.2.1 0, 13, .inl o.2.2.2.2.2))])) A (F0 m 51 ls []) := by
          intro n
          induction n with
          | zero =>
            intro x29 H locs ls hl hP hD hS hf
            rw [fX11_cell_l51] at hf
            cases hf
          | succ n ih =>
            intro x29 H locs ls hl hP hD hS hf
            rw [fX11_cell_l51] at hf
            refine lv_iload_n hx hb dX11_cell_51 rfl (lv_at hl 0 rfl) ?_
            refine lv_aload_n hx hb dX11_cell_52 rfl (lv_at hl 1 rfl) ?_
            refine va_get (D := G.1) (cl := vwCl) (ci := 11) (v := .int (a20.1 11)) (C := RX11) (T := TX11) (N := 29) hx hb hts inG11 hown hK hP 0 rfl rfl 11 (Nat.le_of_ble_eq_true rfl) (hts _ q1052) (fun _ h9 => h9) rfl dX11_cell_53 ?_
            refine lv_icmp_ge (tgt := 85) hx hb dX11_cell_56 (by decide) (fun c30 => ?_) (fun c30 => ?_)
            · have hf := if_t hf c30
              have hf := Option.some.inj hf
              subst hf
              exact Ey22 _ rfl H locs ls (lv_sub hl [1, 2] rfl) hP hD hS 
            · have hf := if_f hf c30
              refine lv_aload_n hx hb dX11_cell_59 rfl (lv_at hl 1 rfl) ?_
              refine va_get (D := G.1) (cl := vwCl) (ci := 11) (v := .ref ad_t_givenRow) (C := RX11) (T := TX11) (N := 29) hx hb hts inG11 hown hK hP 0 rfl rfl 8 (Nat.le_of_ble_eq_true rfl) (hts _ q1049) (fun _ h9 => h9) rfl dX11_cell_60 ?_
              refine lv_iload_n hx hb dX11_cell_63 rfl (lv_at hl 0 rfl) ?_
              obtain ⟨h31, hf⟩ := gd_some hf
              refine va_iald (D := G.1) (cl := vwCl) hx hb hK hP 3 0 rfl rfl (gi_in h31) dX11_cell_64 ?_
              refine lv_aload_n hx hb dX11_cell_65 rfl (lv_at hl 1 rfl) ?_
              refine va_get (D := G.1) (cl := vwCl) (ci := 11) (v := .ref ad_t_all) (C := RX11) (T := TX11) (N := 29) hx hb hts inG11 hown hK hP 0 rfl rfl 0 (Nat.le_of_ble_eq_true rfl) (hts _ q1041) (fun _ h9 => h9) rfl dX11_cell_66 ?_
              refine lv_iload_n hx hb dX11_cell_69 rfl (lv_at hl 2 rfl) ?_
              refine kPS (tX11_badAt l G p0 _ rfl) ⟨hx, hb, hml, hown, hts⟩ q1287 q1288 q108 q1289 okyX11_badAt ⟨Nat.le_of_ble_eq_true rfl, Nat.le_of_ble_eq_true rfl⟩ hP hG hS [] rfl hl.1 rfl (Nat.le_of_ble_eq_true rfl) dX11_cell_70 ⟨Nat.zero_le _, Nat.zero_le _⟩ (fun locs hS => ?_)
              refine W.eq (g2 := F0 m 73 ls [.int (fX11_badAt p0), .ref ad_t_all, .int (a20.2.2.1 x29.toNatClampNeg)]) rfl ?_
              obtain ⟨h32, hf⟩ := gd_some hf
              refine va_iald (D := G.1) (cl := vwCl) hx hb hK hP 1 0 rfl rfl (gi_in h32) dX11_cell_73 ?_
              refine lv_icmp_ne (tgt := 79) hx hb dX11_cell_74 (by decide) (fun c33 => ?_) (fun c33 => ?_)
              · have hf := if_f hf c33
                refine lv_iinc (v := (x29 + (1 : Int32))) (lv' := [(3, .int (x29 + (1 : Int32))), (0, .ref ad_t), (1, .int p0)]) hx hb dX11_cell_79 hl (k := 0) rfl (ii_1 _) (by decide) rfl (fun ls hl => ?_)
                refine lv_goto (tgt := 51) hx hb dX11_cell_82 (by decide) ?_
                exact ih (x29 + (1 : Int32)) H locs ls (lv_sub hl [0, 1, 2] rfl) hP hD hS hf
              · have hf := if_t hf c33
                refine lv_iconst (v := 1) hx hb dX11_cell_77 (by decide) ?_
                have hf := Option.some.inj hf
                subst hf
                have hf := hky22
                (try dsimp only at hf)
                have hf := Option.some.inj hf
                subst hf
                exact eRet hx hb hr hlocks hP hD hS ⟨rfl, rfl⟩ dX11_cell_78
        exact Ly22 FU (0 : Int32) H locs ls (lv_sub hl [0, 1, 2] rfl) hP hD hS hLy22
      · have hf := if_f hf c19
        refine lv_aload_n hx hb dX11_cell_33 rfl (lv_at hl 0 rfl) ?_
        refine va_get (D := G.1) (cl := vwCl) (ci := 11) (v := .ref ad_t_all) (C := RX11) (T := TX11) (N := 29) hx hb hts inG11 hown hK hP 0 rfl rfl 0 (Nat.le_of_ble_eq_true rfl) (hts _ q1041) (fun _ h9 => h9) rfl dX11_cell_34 ?_
        refine lv_iload_n hx hb dX11_cell_37 rfl (lv_at hl 1 rfl) ?_
        refine kPS (tX11_badAt l G p0 _ rfl) ⟨hx, hb, hml, hown, hts⟩ q1287 q1288 q108 q1289 okyX11_badAt ⟨Nat.le_of_ble_eq_true rfl, Nat.le_of_ble_eq_true rfl⟩ hP hG hS [] rfl hl.1 rfl (Nat.le_of_ble_eq_true rfl) dX11_cell_38 ⟨Nat.zero_le _, Nat.zero_le _⟩ (fun locs hS => ?_)
        refine W.eq (g2 := F0 m 41 ls [.int (fX11_badAt p0), .ref ad_t_all]) rfl ?_
        refine lv_iload_n hx hb dX11_cell_41 rfl (lv_at hl 2 rfl) ?_
        refine lv_iadd hx hb dX11_cell_42 ?_
        obtain ⟨h34, hf⟩ := gd_some hf
        refine va_iald (D := G.1) (cl := vwCl) hx hb hK hP 1 0 rfl rfl (gi_in h34) dX11_cell_43 ?_
        have hf := Option.some.inj hf
        subst hf
        exact eRet hx hb hr hlocks hP hD hS ⟨rfl, rfl⟩ dX11_cell_44
    · have hf := if_t hf c18
      refine lv_iconst (v := -1) hx hb dX11_cell_26 (by decide) ?_
      have hf := Option.some.inj hf
      subst hf
      exact eRet hx hb hr hlocks hP hD hS ⟨rfl, rfl⟩ dX11_cell_27
