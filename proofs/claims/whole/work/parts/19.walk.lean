def fX11_heal (tI : Nat → Int32) (t_all : Nat → Int32) (p0 : Int32) (p1 : Int32) : Option (Int32 × (Nat → Int32) × (Nat → Int32)) :=
  (if (bi (fX11_canBad p0 p1)) = 0 then bn (fX11_refused t_all (1 : Int32) (0 : Int32)) fun a13 => some (a13.1, tI, a13.2) else bn (fX11_badBy t_all (0 : Int32) p0 p1) fun a2 => (if a2 = (-1 : Int32) then bn (fX11_refused t_all (2 : Int32) (0 : Int32)) fun a11 => some (a11.1, tI, a11.2) else bn (fX11_keeps tI t_all) fun a5 => bn (fX11_copies (upd a5.2 9 ((a5.2 9) - (1 : Int32))) (fX11_badAt (a2 + (1 : Int32))) (fX11_badAt a2) ((3 : Int32) * (((upd a5.2 9 ((a5.2 9) - (1 : Int32))) 9) - a2))) fun a7 => bn (fX11_refused a7 (0 : Int32) (0 : Int32)) fun a9 => some (a9.1, a5.1, a9.2)))
set_option maxRecDepth 100000 in
set_option maxHeartbeats 4000000 in
theorem tX11_heal (l : Launch) (G : gG) (ad_t ad_t_all ad_t_tape ad_t_isImage ad_t_size ad_t_givenRow ad_t_givenColumn ad_t_newRow ad_t_view : Nat) (tI : Nat → Int32) (t_value : Int64) (t_all : Nat → Int32) (p0 : Int32) (p1 : Int32) (o : Int32 × (Nat → Int32) × (Nat → Int32)) (hf : fX11_heal tI t_all p0 p1 = some o) : mE G l yX11_heal cX11_heal 4 (some .int) 2 45 0 0 [.ref ad_t, .int p0, .int p1] [(ad_t, .inr (11, [.ref ad_t_all, .ref ad_t_tape, .ref ad_t_isImage, .int (tI 3), .int (tI 4), .int (tI 5), .int (tI 6), .ref ad_t_size, .ref ad_t_givenRow, .ref ad_t_givenColumn, .ref ad_t_newRow, .int (tI 11), .int (tI 12), .int (tI 13), .int (tI 14), .int (tI 15), .int (tI 16), .int (tI 17), .int (tI 18), .int (tI 19), .ref ad_t_view, .int (tI 21), .int (tI 22), .int (tI 23), .int (tI 24), .int (tI 25), .long t_value, .int (tI 27), .int (tI 28)])), (ad_t_all, .inl (G.2.1 0, 43047, .inl t_all))] (fun r w => r = (some (.int o.1)) ∧ w = [(ad_t, .inr (11, [.ref ad_t_all, .ref ad_t_tape, .ref ad_t_isImage, .int (o.2.1 3), .int (o.2.1 4), .int (o.2.1 5), .int (o.2.1 6), .ref ad_t_size, .ref ad_t_givenRow, .ref ad_t_givenColumn, .ref ad_t_newRow, .int (o.2.1 11), .int (o.2.1 12), .int (o.2.1 13), .int (o.2.1 14), .int (o.2.1 15), .int (o.2.1 16), .int (o.2.1 17), .int (o.2.1 18), .int (o.2.1 19), .ref ad_t_view, .int (o.2.1 21), .int (o.2.1 22), .int (o.2.1 23), .int (o.2.1 24), .int (o.2.1 25), .long t_value, .int (o.2.1 27), .int (o.2.1 28)])), (ad_t_all, .inl (G.2.1 0, 43047, .inl o.2.2))]) := by
  refine mE_of (by decide) (Nat.le_of_ble_eq_true rfl) ?_
  intro p e s m below meth cd ls A hx hb hml hown hts hr hlocks hnm hl hA hP hD hS hG
  have hK := hG.1
  have hown : s.vm.findClass RX11 = some m.cls := hown
  have hl : lv_has ls 4 [(0, .ref ad_t), (1, .int p0), (2, .int p1)] := hl
  have hS := hS
  unfold fX11_heal at hf
  obtain ⟨H, locs, eH, eL⟩ : ∃ (H : Heap) (locs : List Loc), H = s.heap ∧ locs = [] := ⟨_, _, rfl, rfl⟩
  have hP : va_P G.1 vwCl [(ad_t, .inr (11, [.ref ad_t_all, .ref ad_t_tape, .ref ad_t_isImage, .int (tI 3), .int (tI 4), .int (tI 5), .int (tI 6), .ref ad_t_size, .ref ad_t_givenRow, .ref ad_t_givenColumn, .ref ad_t_newRow, .int (tI 11), .int (tI 12), .int (tI 13), .int (tI 14), .int (tI 15), .int (tI 16), .int (tI 17), .int (tI 18), .int (tI 19), .ref ad_t_view, .int (tI 21), .int (tI 22), .int (tI 23), .int (tI 24), .int (tI 25), .long t_value, .int (tI 27), .int (tI 28)])), (ad_t_all, .inl (G.2.1 0, 43047, .inl t_all))] H := eH ▸ hP
  have hS : va_S A s.heap H locs := by rw [eH, eL]; exact hS
  suffices hgo : wG p l e 2 45 s m [.ref ad_t, .int p0, .int p1] below meth cd H locs (eQ G A (fun r w => r = (some (.int o.1)) ∧ w = [(ad_t, .inr (11, [.ref ad_t_all, .ref ad_t_tape, .ref ad_t_isImage, .int (o.2.1 3), .int (o.2.1 4), .int (o.2.1 5), .int (o.2.1 6), .ref ad_t_size, .ref ad_t_givenRow, .ref ad_t_givenColumn, .ref ad_t_newRow, .int (o.2.1 11), .int (o.2.1 12), .int (o.2.1 13), .int (o.2.1 14), .int (o.2.1 15), .int (o.2.1 16), .int (o.2.1 17), .int (o.2.1 18), .int (o.2.1 19), .ref ad_t_view, .int (o.2.1 21), .int (o.2.1 22), .int (o.2.1 23), .int (o.2.1 24), .int (o.2.1 25), .long t_value, .int (o.2.1 27), .int (o.2.1 28)])), (ad_t_all, .inl (G.2.1 0, 43047, .inl o.2.2))])) A (F0 m 0 ls []) by rw [eH, eL] at hgo; exact hgo
  clear eH eL
  refine lv_iload_n hx hb dX11_heal_0 rfl (lv_at hl 1 rfl) ?_
  refine lv_iload_n hx hb dX11_heal_1 rfl (lv_at hl 2 rfl) ?_
  refine kPS (tX11_canBad l G p0 p1 _ rfl) ⟨hx, hb, hml, hown, hts⟩ q1272 q1273 q108 q1274 okyX11_canBad ⟨Nat.le_of_ble_eq_true rfl, Nat.le_of_ble_eq_true rfl⟩ hP hG hS [] rfl hl.1 rfl (Nat.le_of_ble_eq_true rfl) dX11_heal_2 ⟨Nat.zero_le _, Nat.zero_le _⟩ (fun locs hS => ?_)
  refine W.eq (g2 := F0 m 5 ls [.int (bi (fX11_canBad p0 p1))]) rfl ?_
  refine lv_if_ne (tgt := 15) hx hb dX11_heal_5 (by decide) (fun c15 => ?_) (fun c15 => ?_)
  · have hf := if_f hf c15
    refine lv_aload_n hx hb dX11_heal_15 rfl (lv_at hl 0 rfl) ?_
    refine lv_iconst (v := 0) hx hb dX11_heal_16 (by decide) ?_
    refine lv_iload_n hx hb dX11_heal_17 rfl (lv_at hl 1 rfl) ?_
    refine lv_iload_n hx hb dX11_heal_18 rfl (lv_at hl 2 rfl) ?_
    obtain ⟨a16, h17, hf⟩ := bn_some hf
    refine kPV (tX11_badBy l G ad_t ad_t_all ad_t_tape ad_t_isImage ad_t_size ad_t_givenRow ad_t_givenColumn ad_t_newRow ad_t_view tI t_value t_all (0 : Int32) p0 p1 a16 h17) ⟨hx, hb, hml, hown, hts⟩ q1275 q1277 q67 q108 q1278 okyX11_badBy ⟨Nat.le_of_ble_eq_true rfl, Nat.le_of_ble_eq_true rfl⟩ hP hG hS [0, 1] rfl 0 rfl rfl hl.1 rfl (Nat.le_of_ble_eq_true rfl) dX11_heal_19 ⟨Nat.zero_le _, Nat.zero_le _⟩ (fun locs hS => ?_)
    refine W.eq (g2 := F0 m 22 ls [.int a16]) rfl ?_
    refine lv_istore_n (lv' := [(3, .int a16), (0, .ref ad_t), (1, .int p0), (2, .int p1)]) hx hb dX11_heal_22 rfl hl (by decide) rfl (fun ls hl => ?_)
    refine lv_iload_n hx hb dX11_heal_23 rfl (lv_at hl 0 rfl) ?_
    refine lv_iconst (v := -1) hx hb dX11_heal_24 (by decide) ?_
    refine lv_icmp_ne (tgt := 35) hx hb dX11_heal_25 (by decide) (fun c18 => ?_) (fun c18 => ?_)
    · have hf := if_f hf c18
      refine lv_aload_n hx hb dX11_heal_35 rfl (lv_at hl 1 rfl) ?_
      obtain ⟨a19, h20, hf⟩ := bn_some hf
      refine kEV (tX11_keeps l G ad_t ad_t_all ad_t_tape ad_t_isImage ad_t_size ad_t_givenRow ad_t_givenColumn ad_t_newRow ad_t_view tI t_value t_all a19 h20) ⟨hx, hb, hml, hown, hts⟩ q1260 q1262 q65 q108 q1263 okyX11_keeps ⟨Nat.le_of_ble_eq_true rfl, Nat.le_of_ble_eq_true rfl⟩ hP hD hG hS hA [0, 1] [] rfl (wr := []) rfl (by decide) 0 rfl rfl hl.1 rfl (Nat.le_of_ble_eq_true rfl) dX11_heal_36 ⟨Nat.zero_le _, Nat.zero_le _⟩ (fun r w H locs hR hP hD hS => ?_)
      obtain ⟨rfl, rfl⟩ := hR
      have hP : va_P G.1 vwCl [(ad_t, .inr (11, [.ref ad_t_all, .ref ad_t_tape, .ref ad_t_isImage, .int (a19.1 3), .int (a19.1 4), .int (a19.1 5), .int (a19.1 6), .ref ad_t_size, .ref ad_t_givenRow, .ref ad_t_givenColumn, .ref ad_t_newRow, .int (a19.1 11), .int (a19.1 12), .int (a19.1 13), .int (a19.1 14), .int (a19.1 15), .int (a19.1 16), .int (a19.1 17), .int (a19.1 18), .int (a19.1 19), .ref ad_t_view, .int (a19.1 21), .int (a19.1 22), .int (a19.1 23), .int (a19.1 24), .int (a19.1 25), .long t_value, .int (a19.1 27), .int (a19.1 28)])), (ad_t_all, .inl (G.2.1 0, 43047, .inl a19.2))] H := hP
      have hD : va_D A [(ad_t, .inr (11, [.ref ad_t_all, .ref ad_t_tape, .ref ad_t_isImage, .int (a19.1 3), .int (a19.1 4), .int (a19.1 5), .int (a19.1 6), .ref ad_t_size, .ref ad_t_givenRow, .ref ad_t_givenColumn, .ref ad_t_newRow, .int (a19.1 11), .int (a19.1 12), .int (a19.1 13), .int (a19.1 14), .int (a19.1 15), .int (a19.1 16), .int (a19.1 17), .int (a19.1 18), .int (a19.1 19), .ref ad_t_view, .int (a19.1 21), .int (a19.1 22), .int (a19.1 23), .int (a19.1 24), .int (a19.1 25), .long t_value, .int (a19.1 27), .int (a19.1 28)])), (ad_t_all, .inl (G.2.1 0, 43047, .inl a19.2))] := hD
      refine W.eq (g2 := F0 m 39 ls []) rfl ?_
      refine lv_aload_n hx hb dX11_heal_39 rfl (lv_at hl 1 rfl) ?_
      refine va_get (D := G.1) (cl := vwCl) (ci := 11) (v := .ref ad_t_all) (C := RX11) (T := TX11) (N := 29) hx hb hts inG11 hown hK hP 0 rfl rfl 0 (Nat.le_of_ble_eq_true rfl) (hts _ q1041) (fun _ h9 => h9) rfl dX11_heal_40 ?_
      refine lv_bipush (v := 9) hx hb dX11_heal_43 (by decide) ?_
      refine lv_dup2_11 hx hb dX11_heal_45 rfl rfl ?_
      refine va_iald (D := G.1) (cl := vwCl) hx hb hK hP 1 0 rfl rfl (vin (by decide)) dX11_heal_46 ?_
      refine lv_ti (v := (a19.2 9)) (congrArg (a19.2) (tn 9)) ?_
      refine lv_iconst (v := 1) hx hb dX11_heal_47 (by decide) ?_
      refine lv_isub hx hb dX11_heal_48 ?_
      refine va_iast (D := G.1) (cl := vwCl) hx hb hK hP hD hS 1 0 rfl rfl (vin (by decide)) dX11_heal_49 (fun H locs hP hD hS => ?_)
      have hP : va_P G.1 vwCl [(ad_t, .inr (11, [.ref ad_t_all, .ref ad_t_tape, .ref ad_t_isImage, .int (a19.1 3), .int (a19.1 4), .int (a19.1 5), .int (a19.1 6), .ref ad_t_size, .ref ad_t_givenRow, .ref ad_t_givenColumn, .ref ad_t_newRow, .int (a19.1 11), .int (a19.1 12), .int (a19.1 13), .int (a19.1 14), .int (a19.1 15), .int (a19.1 16), .int (a19.1 17), .int (a19.1 18), .int (a19.1 19), .ref ad_t_view, .int (a19.1 21), .int (a19.1 22), .int (a19.1 23), .int (a19.1 24), .int (a19.1 25), .long t_value, .int (a19.1 27), .int (a19.1 28)])), (ad_t_all, .inl (G.2.1 0, 43047, .inl (upd a19.2 9 ((a19.2 9) - (1 : Int32)))))] H := hP
      have hD : va_D A [(ad_t, .inr (11, [.ref ad_t_all, .ref ad_t_tape, .ref ad_t_isImage, .int (a19.1 3), .int (a19.1 4), .int (a19.1 5), .int (a19.1 6), .ref ad_t_size, .ref ad_t_givenRow, .ref ad_t_givenColumn, .ref ad_t_newRow, .int (a19.1 11), .int (a19.1 12), .int (a19.1 13), .int (a19.1 14), .int (a19.1 15), .int (a19.1 16), .int (a19.1 17), .int (a19.1 18), .int (a19.1 19), .ref ad_t_view, .int (a19.1 21), .int (a19.1 22), .int (a19.1 23), .int (a19.1 24), .int (a19.1 25), .long t_value, .int (a19.1 27), .int (a19.1 28)])), (ad_t_all, .inl (G.2.1 0, 43047, .inl (upd a19.2 9 ((a19.2 9) - (1 : Int32)))))] := hD
      refine lv_aload_n hx hb dX11_heal_50 rfl (lv_at hl 1 rfl) ?_
      refine lv_iload_n hx hb dX11_heal_51 rfl (lv_at hl 0 rfl) ?_
      refine lv_iconst (v := 1) hx hb dX11_heal_52 (by decide) ?_
      refine lv_iadd hx hb dX11_heal_53 ?_
      refine kPS (tX11_badAt l G (a16 + (1 : Int32)) _ rfl) ⟨hx, hb, hml, hown, hts⟩ q1287 q1288 q108 q1289 okyX11_badAt ⟨Nat.le_of_ble_eq_true rfl, Nat.le_of_ble_eq_true rfl⟩ hP hG hS [] rfl hl.1 rfl (Nat.le_of_ble_eq_true rfl) dX11_heal_54 ⟨Nat.zero_le _, Nat.zero_le _⟩ (fun locs hS => ?_)
      refine W.eq (g2 := F0 m 57 ls [.int (fX11_badAt (a16 + (1 : Int32))), .ref ad_t]) rfl ?_
      refine lv_iload_n hx hb dX11_heal_57 rfl (lv_at hl 0 rfl) ?_
      refine kPS (tX11_badAt l G a16 _ rfl) ⟨hx, hb, hml, hown, hts⟩ q1287 q1288 q108 q1289 okyX11_badAt ⟨Nat.le_of_ble_eq_true rfl, Nat.le_of_ble_eq_true rfl⟩ hP hG hS [] rfl hl.1 rfl (Nat.le_of_ble_eq_true rfl) dX11_heal_58 ⟨Nat.zero_le _, Nat.zero_le _⟩ (fun locs hS => ?_)
      refine W.eq (g2 := F0 m 61 ls [.int (fX11_badAt a16), .int (fX11_badAt (a16 + (1 : Int32))), .ref ad_t]) rfl ?_
      refine lv_iconst (v := 3) hx hb dX11_heal_61 (by decide) ?_
      refine lv_aload_n hx hb dX11_heal_62 rfl (lv_at hl 1 rfl) ?_
      refine va_get (D := G.1) (cl := vwCl) (ci := 11) (v := .ref ad_t_all) (C := RX11) (T := TX11) (N := 29) hx hb hts inG11 hown hK hP 0 rfl rfl 0 (Nat.le_of_ble_eq_true rfl) (hts _ q1041) (fun _ h9 => h9) rfl dX11_heal_63 ?_
      refine lv_bipush (v := 9) hx hb dX11_heal_66 (by decide) ?_
      refine va_iald (D := G.1) (cl := vwCl) hx hb hK hP 1 0 rfl rfl (vin (by decide)) dX11_heal_68 ?_
      refine lv_ti (v := ((upd a19.2 9 ((a19.2 9) - (1 : Int32))) 9)) (congrArg ((upd a19.2 9 ((a19.2 9) - (1 : Int32)))) (tn 9)) ?_
      refine lv_iload_n hx hb dX11_heal_69 rfl (lv_at hl 0 rfl) ?_
      refine lv_isub hx hb dX11_heal_70 ?_
      refine lv_imul hx hb dX11_heal_71 ?_
      obtain ⟨a21, h22, hf⟩ := bn_some hf
      refine kEV (tX11_copies l G ad_t ad_t_all ad_t_tape ad_t_isImage ad_t_size ad_t_givenRow ad_t_givenColumn ad_t_newRow ad_t_view a19.1 t_value (upd a19.2 9 ((a19.2 9) - (1 : Int32))) (fX11_badAt (a16 + (1 : Int32))) (fX11_badAt a16) ((3 : Int32) * (((upd a19.2 9 ((a19.2 9) - (1 : Int32))) 9) - a16)) a21 h22) ⟨hx, hb, hml, hown, hts⟩ q1147 q1149 q40 q108 q1150 okyX11_copies ⟨Nat.le_of_ble_eq_true rfl, Nat.le_of_ble_eq_true rfl⟩ hP hD hG hS hA [0, 1] [] rfl (wr := []) rfl (by decide) 0 rfl rfl hl.1 rfl (Nat.le_of_ble_eq_true rfl) dX11_heal_72 ⟨Nat.zero_le _, Nat.zero_le _⟩ (fun r w H locs hR hP hD hS => ?_)
      obtain ⟨rfl, rfl⟩ := hR
      have hP : va_P G.1 vwCl [(ad_t, .inr (11, [.ref ad_t_all, .ref ad_t_tape, .ref ad_t_isImage, .int (a19.1 3), .int (a19.1 4), .int (a19.1 5), .int (a19.1 6), .ref ad_t_size, .ref ad_t_givenRow, .ref ad_t_givenColumn, .ref ad_t_newRow, .int (a19.1 11), .int (a19.1 12), .int (a19.1 13), .int (a19.1 14), .int (a19.1 15), .int (a19.1 16), .int (a19.1 17), .int (a19.1 18), .int (a19.1 19), .ref ad_t_view, .int (a19.1 21), .int (a19.1 22), .int (a19.1 23), .int (a19.1 24), .int (a19.1 25), .long t_value, .int (a19.1 27), .int (a19.1 28)])), (ad_t_all, .inl (G.2.1 0, 43047, .inl a21))] H := hP
      have hD : va_D A [(ad_t, .inr (11, [.ref ad_t_all, .ref ad_t_tape, .ref ad_t_isImage, .int (a19.1 3), .int (a19.1 4), .int (a19.1 5), .int (a19.1 6), .ref ad_t_size, .ref ad_t_givenRow, .ref ad_t_givenColumn, .ref ad_t_newRow, .int (a19.1 11), .int (a19.1 12), .int (a19.1 13), .int (a19.1 14), .int (a19.1 15), .int (a19.1 16), .int (a19.1 17), .int (a19.1 18), .int (a19.1 19), .ref ad_t_view, .int (a19.1 21), .int (a19.1 22), .int (a19.1 23), .int (a19.1 24), .int (a19.1 25), .long t_value, .int (a19.1 27), .int (a19.1 28)])), (ad_t_all, .inl (G.2.1 0, 43047, .inl a21))] := hD
      refine W.eq (g2 := F0 m 75 ls []) rfl ?_
      refine lv_aload_n hx hb dX11_heal_75 rfl (lv_at hl 1 rfl) ?_
      refine lv_iconst (v := 0) hx hb dX11_heal_76 (by decide) ?_
      refine lv_iconst (v := 0) hx hb dX11_heal_77 (by decide) ?_
      obtain ⟨a23, h24, hf⟩ := bn_some hf
      refine kEV (tX11_refused l G ad_t ad_t_all ad_t_tape ad_t_isImage ad_t_size ad_t_givenRow ad_t_givenColumn ad_t_newRow ad_t_view a19.1 t_value a21 (0 : Int32) (0 : Int32) a23 h24) ⟨hx, hb, hml, hown, hts⟩ q1143 q1145 q39 q108 q1146 okyX11_refused ⟨Nat.le_of_ble_eq_true rfl, Nat.le_of_ble_eq_true rfl⟩ hP hD hG hS hA [0, 1] [] rfl (wr := []) rfl (by decide) 0 rfl rfl hl.1 rfl (Nat.le_of_ble_eq_true rfl) dX11_heal_78 ⟨Nat.zero_le _, Nat.zero_le _⟩ (fun r w H locs hR hP hD hS => ?_)
      obtain ⟨rfl, rfl⟩ := hR
      have hP : va_P G.1 vwCl [(ad_t, .inr (11, [.ref ad_t_all, .ref ad_t_tape, .ref ad_t_isImage, .int (a19.1 3), .int (a19.1 4), .int (a19.1 5), .int (a19.1 6), .ref ad_t_size, .ref ad_t_givenRow, .ref ad_t_givenColumn, .ref ad_t_newRow, .int (a19.1 11), .int (a19.1 12), .int (a19.1 13), .int (a19.1 14), .int (a19.1 15), .int (a19.1 16), .int (a19.1 17), .int (a19.1 18), .int (a19.1 19), .ref ad_t_view, .int (a19.1 21), .int (a19.1 22), .int (a19.1 23), .int (a19.1 24), .int (a19.1 25), .long t_value, .int (a19.1 27), .int (a19.1 28)])), (ad_t_all, .inl (G.2.1 0, 43047, .inl a23.2))] H := hP
      have hD : va_D A [(ad_t, .inr (11, [.ref ad_t_all, .ref ad_t_tape, .ref ad_t_isImage, .int (a19.1 3), .int (a19.1 4), .int (a19.1 5), .int (a19.1 6), .ref ad_t_size, .ref ad_t_givenRow, .ref ad_t_givenColumn, .ref ad_t_newRow, .int (a19.1 11), .int (a19.1 12), .int (a19.1 13), .int (a19.1 14), .int (a19.1 15), .int (a19.1 16), .int (a19.1 17), .int (a19.1 18), .int (a19.1 19), .ref ad_t_view, .int (a19.1 21), .int (a19.1 22), .int (a19.1 23), .int (a19.1 24), .int (a19.1 25), .long t_value, .int (a19.1 27), .int (a19.1 28)])), (ad_t_all, .inl (G.2.1 0, 43047, .inl a23.2))] := hD
      refine W.eq (g2 := F0 m 81 ls [.int a23.1]) rfl ?_
      have hf := Option.some.inj hf
      subst hf
      exact eRet hx hb hr hlocks hP hD hS ⟨rfl, rfl⟩ dX11_heal_81
    · have hf := if_t hf c18
      refine lv_aload_n hx hb dX11_heal_28 rfl (lv_at hl 1 rfl) ?_
      refine lv_iconst (v := 2) hx hb dX11_heal_29 (by decide) ?_
      refine lv_iconst (v := 0) hx hb dX11_heal_30 (by decide) ?_
      obtain ⟨a25, h26, hf⟩ := bn_some hf
      refine kEV (tX11_refused l G ad_t ad_t_all ad_t_tape ad_t_isImage ad_t_size ad_t_givenRow ad_t_givenColumn ad_t_newRow ad_t_view tI t_value t_all (2 : Int32) (0 : Int32) a25 h26) ⟨hx, hb, hml, hown, hts⟩ q1143 q1145 q39 q108 q1146 okyX11_refused ⟨Nat.le_of_ble_eq_true rfl, Nat.le_of_ble_eq_true rfl⟩ hP hD hG hS hA [0, 1] [] rfl (wr := []) rfl (by decide) 0 rfl rfl hl.1 rfl (Nat.le_of_ble_eq_true rfl) dX11_heal_31 ⟨Nat.zero_le _, Nat.zero_le _⟩ (fun r w H locs hR hP hD hS => ?_)
      obtain ⟨rfl, rfl⟩ := hR
      have hP : va_P G.1 vwCl [(ad_t, .inr (11, [.ref ad_t_all, .ref ad_t_tape, .ref ad_t_isImage, .int (tI 3), .int (tI 4), .int (tI 5), .int (tI 6), .ref ad_t_size, .ref ad_t_givenRow, .ref ad_t_givenColumn, .ref ad_t_newRow, .int (tI 11), .int (tI 12), .int (tI 13), .int (tI 14), .int (tI 15), .int (tI 16), .int (tI 17), .int (tI 18), .int (tI 19), .ref ad_t_view, .int (tI 21), .int (tI 22), .int (tI 23), .int (tI 24), .int (tI 25), .long t_value, .int (tI 27), .int (tI 28)])), (ad_t_all, .inl (G.2.1 0, 43047, .inl a25.2))] H := hP
      have hD : va_D A [(ad_t, .inr (11, [.ref ad_t_all, .ref ad_t_tape, .ref ad_t_isImage, .int (tI 3), .int (tI 4), .int (tI 5), .int (tI 6), .ref ad_t_size, .ref ad_t_givenRow, .ref ad_t_givenColumn, .ref ad_t_newRow, .int (tI 11), .int (tI 12), .int (tI 13), .int (tI 14), .int (tI 15), .int (tI 16), .int (tI 17), .int (tI 18), .int (tI 19), .ref ad_t_view, .int (tI 21), .int (tI 22), .int (tI 23), .int (tI 24), .int (tI 25), .long t_value, .int (tI 27), .int (tI 28)])), (ad_t_all, .inl (G.2.1 0, 43047, .inl a25.2))] := hD
      refine W.eq (g2 := F0 m 34 ls [.int a25.1]) rfl ?_
      have hf := Option.some.inj hf
      subst hf
      exact eRet hx hb hr hlocks hP hD hS ⟨rfl, rfl⟩ dX11_heal_34
  · have hf := if_t hf c15
    refine lv_aload_n hx hb dX11_heal_8 rfl (lv_at hl 0 rfl) ?_
    refine lv_iconst (v := 1) hx hb dX11_heal_9 (by decide) ?_
    refine lv_iconst (v := 0) hx hb dX11_heal_10 (by decide) ?_
    obtain ⟨a27, h28, hf⟩ := bn_some hf
    refine kEV (tX11_refused l G ad_t ad_t_all ad_t_tape ad_t_isImage ad_t_size ad_t_givenRow ad_t_givenColumn ad_t_newRow ad_t_view tI t_value t_all (1 : Int32) (0 : Int32) a27 h28) ⟨hx, hb, hml, hown, hts⟩ q1143 q1145 q39 q108 q1146 okyX11_refused ⟨Nat.le_of_ble_eq_true rfl, Nat.le_of_ble_eq_true rfl⟩ hP hD hG hS hA [0, 1] [] rfl (wr := []) rfl (by decide) 0 rfl rfl hl.1 rfl (Nat.le_of_ble_eq_true rfl) dX11_heal_11 ⟨Nat.zero_le _, Nat.zero_le _⟩ (fun r w H locs hR hP hD hS => ?_)
    obtain ⟨rfl, rfl⟩ := hR
    have hP : va_P G.1 vwCl [(ad_t, .inr (11, [.ref ad_t_all, .ref ad_t_tape, .ref ad_t_isImage, .int (tI 3), .int (tI 4), .int (tI 5), .int (tI 6), .ref ad_t_size, .ref ad_t_givenRow, .ref ad_t_givenColumn, .ref ad_t_newRow, .int (tI 11), .int (tI 12), .int (tI 13), .int (tI 14), .int (tI 15), .int (tI 16), .int (tI 17), .int (tI 18), .int (tI 19), .ref ad_t_view, .int (tI 21), .int (tI 22), .int (tI 23), .int (tI 24), .int (tI 25), .long t_value, .int (tI 27), .int (tI 28)])), (ad_t_all, .inl (G.2.1 0, 43047, .inl a27.2))] H := hP
    have hD : va_D A [(ad_t, .inr (11, [.ref ad_t_all, .ref ad_t_tape, .ref ad_t_isImage, .int (tI 3), .int (tI 4), .int (tI 5), .int (tI 6), .ref ad_t_size, .ref ad_t_givenRow, .ref ad_t_givenColumn, .ref ad_t_newRow, .int (tI 11), .int (tI 12), .int (tI 13), .int (tI 14), .int (tI 15), .int (tI 16), .int (tI 17), .int (tI 18), .int (tI 19), .ref ad_t_view, .int (tI 21), .int (tI 22), .int (tI 23), .int (tI 24), .int (tI 25), .long t_value, .int (tI 27), .int (tI 28)])), (ad_t_all, .inl (G.2.1 0, 43047, .inl a27.2))] := hD
    refine W.eq (g2 := F0 m 14 ls [.int a27.1]) rfl ?_
    have hf := Option.some.inj hf
    subst hf
    exact eRet hx hb hr hlocks hP hD hS ⟨rfl, rfl⟩ dX11_heal_14

def fX11_why (t_all : Nat → Int32) (p0 : Int32) : Option (Int32) :=
  (if (bi (fX11_isIn p0 (0 : Int32) (2 : Int32))) = 0 then some (-1 : Int32) else gd (gi ((4208 : Int32) + p0) 43047) (some (t_all ((4208 : Int32) + p0).toNatClampNeg)))
set_option maxRecDepth 100000 in
set_option maxHeartbeats 4000000 in
theorem tX11_why (l : Launch) (G : gG) (ad_t ad_t_all ad_t_tape ad_t_isImage ad_t_size ad_t_givenRow ad_t_givenColumn ad_t_newRow ad_t_view : Nat) (tI : Nat → Int32) (t_value : Int64) (t_all : Nat → Int32) (p0 : Int32) (o : Int32) (hf : fX11_why t_all p0 = some o) : mP G l yX11_why cX11_why 2 (some .int) 1 22 [.ref ad_t, .int p0] [(ad_t, .inr (11, [.ref ad_t_all, .ref ad_t_tape, .ref ad_t_isImage, .int (tI 3), .int (tI 4), .int (tI 5), .int (tI 6), .ref ad_t_size, .ref ad_t_givenRow, .ref ad_t_givenColumn, .ref ad_t_newRow, .int (tI 11), .int (tI 12), .int (tI 13), .int (tI 14), .int (tI 15), .int (tI 16), .int (tI 17), .int (tI 18), .int (tI 19), .ref ad_t_view, .int (tI 21), .int (tI 22), .int (tI 23), .int (tI 24), .int (tI 25), .long t_value, .int (tI 27), .int (tI 28)])), (ad_t_all, .inl (G.2.1 0, 43047, .inl t_all))] (some (.int o)) := by
  refine mP_of (by decide) (Nat.le_of_ble_eq_true rfl) ?_
  intro p e s m below meth cd ls hx hb hml hown hts hr hlocks hl hP hG
  have hK := hG.1
  have hown : s.vm.findClass RX11 = some m.cls := hown
  have hl : lv_has ls 2 [(0, .ref ad_t), (1, .int p0)] := hl
  have hS : va_S no s.heap s.heap [] := va_S.rf
  generalize ([] : List Loc) = locs at hS ⊢
  unfold fX11_why at hf
  show wG p l e 1 22 s m [.ref ad_t, .int p0] below meth cd s.heap locs (pQ (some (.int o))) no (F0 m 0 ls [])
  refine lv_iload_n hx hb dX11_why_0 rfl (lv_at hl 1 rfl) ?_
  refine lv_iconst (v := 0) hx hb dX11_why_1 (by decide) ?_
  refine lv_iconst (v := 2) hx hb dX11_why_2 (by decide) ?_
  refine kPS (tX11_isIn l G p0 (0 : Int32) (2 : Int32) _ rfl) ⟨hx, hb, hml, hown, hts⟩ q1137 q1138 q108 q1139 okyX11_isIn ⟨Nat.le_of_ble_eq_true rfl, Nat.le_of_ble_eq_true rfl⟩ hP hG hS [] rfl hl.1 rfl (Nat.le_of_ble_eq_true rfl) dX11_why_3 ⟨Nat.zero_le _, Nat.zero_le _⟩ (fun locs hS => ?_)
  refine W.eq (g2 := F0 m 6 ls [.int (bi (fX11_isIn p0 (0 : Int32) (2 : Int32)))]) rfl ?_
  refine lv_if_eq (tgt := 22) hx hb dX11_why_6 (by decide) (fun c5 => ?_) (fun c5 => ?_)
  · have hf := if_t hf c5
    refine lv_iconst (v := -1) hx hb dX11_why_22 (by decide) ?_
    have hf := Option.some.inj hf
    subst hf
    exact pRet hx hb hr hlocks hS dX11_why_23
  · have hf := if_f hf c5
    refine lv_aload_n hx hb dX11_why_9 rfl (lv_at hl 0 rfl) ?_
    refine va_get (D := G.1) (cl := vwCl) (ci := 11) (v := .ref ad_t_all) (C := RX11) (T := TX11) (N := 29) hx hb hts inG11 hown hK hP 0 rfl rfl 0 (Nat.le_of_ble_eq_true rfl) (hts _ q1041) (fun _ h9 => h9) rfl dX11_why_10 ?_
    refine lv_sipush (v := 4208) hx hb dX11_why_13 (by decide) ?_
    refine lv_iload_n hx hb dX11_why_16 rfl (lv_at hl 1 rfl) ?_
    refine lv_iadd hx hb dX11_why_17 ?_
    obtain ⟨h6, hf⟩ := gd_some hf
    refine va_iald (D := G.1) (cl := vwCl) hx hb hK hP 1 0 rfl rfl (gi_in h6) dX11_why_18 ?_
    refine lv_goto (tgt := 23) hx hb dX11_why_19 (by decide) ?_
    have hf := Option.some.inj hf
    subst hf
    exact pRet hx hb hr hlocks hS dX11_why_23

def fX11_undo (tI : Nat → Int32) (t_all : Nat → Int32) : Option (Int32 × (Nat → Int32) × (Nat → Int32)) :=
  (if (tI 6) = 0 then some ((-1 : Int32), tI, t_all) else bn (fX11_copies t_all ((4257 : Int32) + ((4208 : Int32) * ((tI 6) - (1 : Int32)))) (0 : Int32) (4208 : Int32)) fun a2 => some (((tI 6) - (1 : Int32)), (upd tI 6 ((tI 6) - (1 : Int32))), a2))
set_option maxRecDepth 100000 in
set_option maxHeartbeats 4000000 in
theorem tX11_undo (l : Launch) (G : gG) (ad_t ad_t_all ad_t_tape ad_t_isImage ad_t_size ad_t_givenRow ad_t_givenColumn ad_t_newRow ad_t_view : Nat) (tI : Nat → Int32) (t_value : Int64) (t_all : Nat → Int32) (o : Int32 × (Nat → Int32) × (Nat → Int32)) (hf : fX11_undo tI t_all = some o) : mE G l yX11_undo cX11_undo 1 (some .int) 1 24 0 0 [.ref ad_t] [(ad_t, .inr (11, [.ref ad_t_all, .ref ad_t_tape, .ref ad_t_isImage, .int (tI 3), .int (tI 4), .int (tI 5), .int (tI 6), .ref ad_t_size, .ref ad_t_givenRow, .ref ad_t_givenColumn, .ref ad_t_newRow, .int (tI 11), .int (tI 12), .int (tI 13), .int (tI 14), .int (tI 15), .int (tI 16), .int (tI 17), .int (tI 18), .int (tI 19), .ref ad_t_view, .int (tI 21), .int (tI 22), .int (tI 23), .int (tI 24), .int (tI 25), .long t_value, .int (tI 27), .int (tI 28)])), (ad_t_all, .inl (G.2.1 0, 43047, .inl t_all))] (fun r w => r = (some (.int o.1)) ∧ w = [(ad_t, .inr (11, [.ref ad_t_all, .ref ad_t_tape, .ref ad_t_isImage, .int (o.2.1 3), .int (o.2.1 4), .int (o.2.1 5), .int (o.2.1 6), .ref ad_t_size, .ref ad_t_givenRow, .ref ad_t_givenColumn, .ref ad_t_newRow, .int (o.2.1 11), .int (o.2.1 12), .int (o.2.1 13), .int (o.2.1 14), .int (o.2.1 15), .int (o.2.1 16), .int (o.2.1 17), .int (o.2.1 18), .int (o.2.1 19), .ref ad_t_view, .int (o.2.1 21), .int (o.2.1 22), .int (o.2.1 23), .int (o.2.1 24), .int (o.2.1 25), .long t_value, .int (o.2.1 27), .int (o.2.1 28)])), (ad_t_all, .inl (G.2.1 0, 43047, .inl o.2.2))]) := by
  refine mE_of (by decide) (Nat.le_of_ble_eq_true rfl) ?_
  intro p e s m below meth cd ls A hx hb hml hown hts hr hlocks hnm hl hA hP hD hS hG
  have hK := hG.1
  have hown : s.vm.findClass RX11 = some m.cls := hown
  have hl : lv_has ls 1 [(0, .ref ad_t)] := hl
  have hS := hS
  unfold fX11_undo at hf
  obtain ⟨H, locs, eH, eL⟩ : ∃ (H : Heap) (locs : List Loc), H = s.heap ∧ locs = [] := ⟨_, _, rfl, rfl⟩
  have hP : va_P G.1 vwCl [(ad_t, .inr (11, [.ref ad_t_all, .ref ad_t_tape, .ref ad_t_isImage, .int (tI 3), .int (tI 4), .int (tI 5), .int (tI 6), .ref ad_t_size, .ref ad_t_givenRow, .ref ad_t_givenColumn, .ref ad_t_newRow, .int (tI 11), .int (tI 12), .int (tI 13), .int (tI 14), .int (tI 15), .int (tI 16), .int (tI 17), .int (tI 18), .int (tI 19), .ref ad_t_view, .int (tI 21), .int (tI 22), .int (tI 23), .int (tI 24), .int (tI 25), .long t_value, .int (tI 27), .int (tI 28)])), (ad_t_all, .inl (G.2.1 0, 43047, .inl t_all))] H := eH ▸ hP
  have hS : va_S A s.heap H locs := by rw [eH, eL]; exact hS
  suffices hgo : wG p l e 1 24 s m [.ref ad_t] below meth cd H locs (eQ G A (fun r w => r = (some (.int o.1)) ∧ w = [(ad_t, .inr (11, [.ref ad_t_all, .ref ad_t_tape, .ref ad_t_isImage, .int (o.2.1 3), .int (o.2.1 4), .int (o.2.1 5), .int (o.2.1 6), .ref ad_t_size, .ref ad_t_givenRow, .ref ad_t_givenColumn, .ref ad_t_newRow, .int (o.2.1 11), .int (o.2.1 12), .int (o.2.1 13), .int (o.2.1 14), .int (o.2.1 15), .int (o.2.1 16), .int (o.2.1 17), .int (o.2.1 18), .int (o.2.1 19), .ref ad_t_view, .int (o.2.1 21), .int (o.2.1 22), .int (o.2.1 23), .int (o.2.1 24), .int (o.2.1 25), .long t_value, .int (o.2.1 27), .int (o.2.1 28)])), (ad_t_all, .inl (G.2.1 0, 43047, .inl o.2.2))])) A (F0 m 0 ls []) by rw [eH, eL] at hgo; exact hgo
  clear eH eL
  refine lv_aload_n hx hb dX11_undo_0 rfl (lv_at hl 0 rfl) ?_
  refine va_get (D := G.1) (cl := vwCl) (ci := 11) (v := .int (tI 6)) (C := RX11) (T := TX11) (N := 29) hx hb hts inG11 hown hK hP 0 rfl rfl 6 (Nat.le_of_ble_eq_true rfl) (hts _ q1047) (fun _ h9 => h9) rfl dX11_undo_1 ?_
  refine lv_if_ne (tgt := 9) hx hb dX11_undo_4 (by decide) (fun c4 => ?_) (fun c4 => ?_)
  · have hf := if_f hf c4
    refine lv_aload_n hx hb dX11_undo_9 rfl (lv_at hl 0 rfl) ?_
    refine lv_dup hx hb dX11_undo_10 rfl ?_
    refine va_get (D := G.1) (cl := vwCl) (ci := 11) (v := .int (tI 6)) (C := RX11) (T := TX11) (N := 29) hx hb hts inG11 hown hK hP 0 rfl rfl 6 (Nat.le_of_ble_eq_true rfl) (hts _ q1047) (fun _ h9 => h9) rfl dX11_undo_11 ?_
    refine lv_iconst (v := 1) hx hb dX11_undo_14 (by decide) ?_
    refine lv_isub hx hb dX11_undo_15 ?_
    refine va_put (D := G.1) (cl := vwCl) (ci := 11) (v := .int ((tI 6) - (1 : Int32))) (ty := .int) (C := RX11) (T := TX11) (N := 29) hx hb hts inG11 tyX11 tyX11_ok nmX11 hown hK hP hD hS 0 rfl rfl 6 (Nat.le_of_ble_eq_true rfl) (hts _ q1047) (fun _ h9 => h9) rfl (tyX11_ok 6 (Nat.le_of_ble_eq_true rfl)) rfl rfl (Nat.le_of_ble_eq_true rfl) dX11_undo_16 (fun H locs hP hD hS => ?_)
    have hP : va_P G.1 vwCl [(ad_t, .inr (11, [.ref ad_t_all, .ref ad_t_tape, .ref ad_t_isImage, .int (tI 3), .int (tI 4), .int (tI 5), .int ((tI 6) - (1 : Int32)), .ref ad_t_size, .ref ad_t_givenRow, .ref ad_t_givenColumn, .ref ad_t_newRow, .int (tI 11), .int (tI 12), .int (tI 13), .int (tI 14), .int (tI 15), .int (tI 16), .int (tI 17), .int (tI 18), .int (tI 19), .ref ad_t_view, .int (tI 21), .int (tI 22), .int (tI 23), .int (tI 24), .int (tI 25), .long t_value, .int (tI 27), .int (tI 28)])), (ad_t_all, .inl (G.2.1 0, 43047, .inl t_all))] H := hP
    have hD : va_D A [(ad_t, .inr (11, [.ref ad_t_all, .ref ad_t_tape, .ref ad_t_isImage, .int (tI 3), .int (tI 4), .int (tI 5), .int ((tI 6) - (1 : Int32)), .ref ad_t_size, .ref ad_t_givenRow, .ref ad_t_givenColumn, .ref ad_t_newRow, .int (tI 11), .int (tI 12), .int (tI 13), .int (tI 14), .int (tI 15), .int (tI 16), .int (tI 17), .int (tI 18), .int (tI 19), .ref ad_t_view, .int (tI 21), .int (tI 22), .int (tI 23), .int (tI 24), .int (tI 25), .long t_value, .int (tI 27), .int (tI 28)])), (ad_t_all, .inl (G.2.1 0, 43047, .inl t_all))] := hD
    refine lv_aload_n hx hb dX11_undo_19 rfl (lv_at hl 0 rfl) ?_
    refine lv_sipush (v := 4257) hx hb dX11_undo_20 (by decide) ?_
    refine lv_sipush (v := 4208) hx hb dX11_undo_23 (by decide) ?_
    refine lv_aload_n hx hb dX11_undo_26 rfl (lv_at hl 0 rfl) ?_
    refine va_get (D := G.1) (cl := vwCl) (ci := 11) (v := .int ((tI 6) - (1 : Int32))) (C := RX11) (T := TX11) (N := 29) hx hb hts inG11 hown hK hP 0 rfl rfl 6 (Nat.le_of_ble_eq_true rfl) (hts _ q1047) (fun _ h9 => h9) rfl dX11_undo_27 ?_
    refine lv_imul hx hb dX11_undo_30 ?_
    refine lv_iadd hx hb dX11_undo_31 ?_
    refine lv_iconst (v := 0) hx hb dX11_undo_32 (by decide) ?_
    refine lv_sipush (v := 4208) hx hb dX11_undo_33 (by decide) ?_
    obtain ⟨a5, h6, hf⟩ := bn_some hf
    refine kEV (tX11_copies l G ad_t ad_t_all ad_t_tape ad_t_isImage ad_t_size ad_t_givenRow ad_t_givenColumn ad_t_newRow ad_t_view (upd tI 6 ((tI 6) - (1 : Int32))) t_value t_all ((4257 : Int32) + ((4208 : Int32) * ((tI 6) - (1 : Int32)))) (0 : Int32) (4208 : Int32) a5 h6) ⟨hx, hb, hml, hown, hts⟩ q1147 q1149 q40 q108 q1150 okyX11_copies ⟨Nat.le_of_ble_eq_true rfl, Nat.le_of_ble_eq_true rfl⟩ hP hD hG hS hA [0, 1] [] rfl (wr := []) rfl (by decide) 0 rfl rfl hl.1 rfl (Nat.le_of_ble_eq_true rfl) dX11_undo_36 ⟨Nat.zero_le _, Nat.zero_le _⟩ (fun r w H locs hR hP hD hS => ?_)
    obtain ⟨rfl, rfl⟩ := hR
    have hP : va_P G.1 vwCl [(ad_t, .inr (11, [.ref ad_t_all, .ref ad_t_tape, .ref ad_t_isImage, .int (tI 3), .int (tI 4), .int (tI 5), .int ((tI 6) - (1 : Int32)), .ref ad_t_size, .ref ad_t_givenRow, .ref ad_t_givenColumn, .ref ad_t_newRow, .int (tI 11), .int (tI 12), .int (tI 13), .int (tI 14), .int (tI 15), .int (tI 16), .int (tI 17), .int (tI 18), .int (tI 19), .ref ad_t_view, .int (tI 21), .int (tI 22), .int (tI 23), .int (tI 24), .int (tI 25), .long t_value, .int (tI 27), .int (tI 28)])), (ad_t_all, .inl (G.2.1 0, 43047, .inl a5))] H := hP
    have hD : va_D A [(ad_t, .inr (11, [.ref ad_t_all, .ref ad_t_tape, .ref ad_t_isImage, .int (tI 3), .int (tI 4), .int (tI 5), .int ((tI 6) - (1 : Int32)), .ref ad_t_size, .ref ad_t_givenRow, .ref ad_t_givenColumn, .ref ad_t_newRow, .int (tI 11), .int (tI 12), .int (tI 13), .int (tI 14), .int (tI 15), .int (tI 16), .int (tI 17), .int (tI 18), .int (tI 19), .ref ad_t_view, .int (tI 21), .int (tI 22), .int (tI 23), .int (tI 24), .int (tI 25), .long t_value, .int (tI 27), .int (tI 28)])), (ad_t_all, .inl (G.2.1 0, 43047, .inl a5))] := hD
    refine W.eq (g2 := F0 m 39 ls []) rfl ?_
    refine lv_aload_n hx hb dX11_undo_39 rfl (lv_at hl 0 rfl) ?_
    refine va_get (D := G.1) (cl := vwCl) (ci := 11) (v := .int ((tI 6) - (1 : Int32))) (C := RX11) (T := TX11) (N := 29) hx hb hts inG11 hown hK hP 0 rfl rfl 6 (Nat.le_of_ble_eq_true rfl) (hts _ q1047) (fun _ h9 => h9) rfl dX11_undo_40 ?_
    have hf := Option.some.inj hf
    subst hf
    exact eRet hx hb hr hlocks hP hD hS ⟨rfl, rfl⟩ dX11_undo_43
  · have hf := if_t hf c4
    refine lv_iconst (v := -1) hx hb dX11_undo_7 (by decide) ?_
    have hf := Option.some.inj hf
    subst hf
    exact eRet hx hb hr hlocks hP hD hS ⟨rfl, rfl⟩ dX11_undo_8

def fX11_shape (t_all : Nat → Int32) (t_size : Nat → Int32) (p0 : Int32) (p1 : Int32) : Option (Int32 × (Nat → Int32)) :=
  bn (fX11_isPossible t_all (0 : Int32) p0) fun a1 => (if (bi a1) = 0 then some ((-1 : Int32), t_size) else bn (fX11_stages t_all (0 : Int32) p0) fun a4 => (if (bi (fX11_isIn (p1 - (20 : Int32)) (0 : Int32) (a4 - (1 : Int32)))) = 0 then (if p1 = (0 : Int32) then bn (fX11_rows t_all (0 : Int32) p0) fun a8 => some (a8, t_size) else (if p1 = (1 : Int32) then bn (fX11_columns t_all (0 : Int32) p0) fun a11 => some (a11, t_size) else (if p1 = (2 : Int32) then bn (fX11_width t_all t_size (0 : Int32) p0) fun a14 => some (a14.1, a14.2) else (if p1 = (3 : Int32) then bn (fX11_height t_all (0 : Int32) p0) fun a17 => some (a17, t_size) else (if p1 = (4 : Int32) then bn (fX11_width t_all t_size (0 : Int32) p0) fun a20 => bn (fX11_height t_all (0 : Int32) p0) fun a22 => some ((a20.1 * a22), a20.2) else (if p1 = (5 : Int32) then bn (fX11_common t_all (0 : Int32) p0) fun a25 => bn (fX11_fall t_all (0 : Int32) p0) fun a27 => some ((a25 + a27), t_size) else (if p1 = (6 : Int32) then bn (fX11_cycle t_all (0 : Int32) p0) fun a30 => some (a30, t_size) else (if p1 = (7 : Int32) then some (a4, t_size) else (if p1 = (8 : Int32) then bn (fX11_tenths t_all (0 : Int32) p0 a4) fun a34 => some (a34, t_size) else (if p1 = (9 : Int32) then bn (fX11_delay t_all (0 : Int32) p0 a4) fun a37 => some (a37, t_size) else (if p1 = (10 : Int32) then bn (fX11_pulls t_all (0 : Int32) p0) fun a40 => some (a40, t_size) else (if p1 = (11 : Int32) then bn (fX11_wire t_all (0 : Int32) p0) fun a43 => some (a43, t_size) else (if p1 = (12 : Int32) then bn (fX11_fall t_all (0 : Int32) p0) fun a46 => some (a46, t_size) else some ((-1 : Int32), t_size)))))))))))))) else bn (fX11_laysSizes t_all t_size (0 : Int32) p0) fun a48 => gd (gi (p1 - (20 : Int32)) 8) (some ((a48 (p1 - (20 : Int32)).toNatClampNeg), a48))))
set_option maxRecDepth 100000 in
set_option maxHeartbeats 4000000 in
theorem tX11_shape (l : Launch) (G : gG) (ad_t ad_t_all ad_t_tape ad_t_isImage ad_t_size ad_t_givenRow ad_t_givenColumn ad_t_newRow ad_t_view : Nat) (tI : Nat → Int32) (t_value : Int64) (t_all : Nat → Int32) (t_size : Nat → Int32) (p0 : Int32) (p1 : Int32) (o : Int32 × (Nat → Int32)) (hf : fX11_shape t_all t_size p0 p1 = some o) : mE G l yX11_shape cX11_shape 4 (some .int) 9 211 0 0 [.ref ad_t, .int p0, .int p1] [(ad_t, .inr (11, [.ref ad_t_all, .ref ad_t_tape, .ref ad_t_isImage, .int (tI 3), .int (tI 4), .int (tI 5), .int (tI 6), .ref ad_t_size, .ref ad_t_givenRow, .ref ad_t_givenColumn, .ref ad_t_newRow, .int (tI 11), .int (tI 12), .int (tI 13), .int (tI 14), .int (tI 15), .int (tI 16), .int (tI 17), .int (tI 18), .int (tI 19), .ref ad_t_view, .int (tI 21), .int (tI 22), .int (tI 23), .int (tI 24), .int (tI 25), .long t_value, .int (tI 27), .int (tI 28)])), (ad_t_all, .inl (G.2.1 0, 43047, .inl t_all)), (ad_t_size, .inl (G.2.1 0, 8, .inl t_size))] (fun r w => r = (some (.int o.1)) ∧ w = [(ad_t, .inr (11, [.ref ad_t_all, .ref ad_t_tape, .ref ad_t_isImage, .int (tI 3), .int (tI 4), .int (tI 5), .int (tI 6), .ref ad_t_size, .ref ad_t_givenRow, .ref ad_t_givenColumn, .ref ad_t_newRow, .int (tI 11), .int (tI 12), .int (tI 13), .int (tI 14), .int (tI 15), .int (tI 16), .int (tI 17), .int (tI 18), .int (tI 19), .ref ad_t_view, .int (tI 21), .int (tI 22), .int (tI 23), .int (tI 24), .int (tI 25), .long t_value, .int (tI 27), .int (tI 28)])), (ad_t_all, .inl (G.2.1 0, 43047, .inl t_all)), (ad_t_size, .inl (G.2.1 0, 8, .inl o.2))]) := by
  refine mE_of (by decide) (Nat.le_of_ble_eq_true rfl) ?_
  intro p e s m below meth cd ls A hx hb hml hown hts hr hlocks hnm hl hA hP hD hS hG
  have hK := hG.1
  have hown : s.vm.findClass RX11 = some m.cls := hown
  have hl : lv_has ls 4 [(0, .ref ad_t), (1, .int p0), (2, .int p1)] := hl
  have hS := hS
  unfold fX11_shape at hf
  obtain ⟨H, locs, eH, eL⟩ : ∃ (H : Heap) (locs : List Loc), H = s.heap ∧ locs = [] := ⟨_, _, rfl, rfl⟩
  have hP : va_P G.1 vwCl [(ad_t, .inr (11, [.ref ad_t_all, .ref ad_t_tape, .ref ad_t_isImage, .int (tI 3), .int (tI 4), .int (tI 5), .int (tI 6), .ref ad_t_size, .ref ad_t_givenRow, .ref ad_t_givenColumn, .ref ad_t_newRow, .int (tI 11), .int (tI 12), .int (tI 13), .int (tI 14), .int (tI 15), .int (tI 16), .int (tI 17), .int (tI 18), .int (tI 19), .ref ad_t_view, .int (tI 21), .int (tI 22), .int (tI 23), .int (tI 24), .int (tI 25), .long t_value, .int (tI 27), .int (tI 28)])), (ad_t_all, .inl (G.2.1 0, 43047, .inl t_all)), (ad_t_size, .inl (G.2.1 0, 8, .inl t_size))] H := eH ▸ hP
  have hS : va_S A s.heap H locs := by rw [eH, eL]; exact hS
  suffices hgo : wG p l e 9 211 s m [.ref ad_t, .int p0, .int p1] below meth cd H locs (eQ G A (fun r w => r = (some (.int o.1)) ∧ w = [(ad_t, .inr (11, [.ref ad_t_all, .ref ad_t_tape, .ref ad_t_isImage, .int (tI 3), .int (tI 4), .int (tI 5), .int (tI 6), .ref ad_t_size, .ref ad_t_givenRow, .ref ad_t_givenColumn, .ref ad_t_newRow, .int (tI 11), .int (tI 12), .int (tI 13), .int (tI 14), .int (tI 15), .int (tI 16), .int (tI 17), .int (tI 18), .int (tI 19), .ref ad_t_view, .int (tI 21), .int (tI 22), .int (tI 23), .int (tI 24), .int (tI 25), .long t_value, .int (tI 27), .int (tI 28)])), (ad_t_all, .inl (G.2.1 0, 43047, .inl t_all)), (ad_t_size, .inl (G.2.1 0, 8, .inl o.2))])) A (F0 m 0 ls []) by rw [eH, eL] at hgo; exact hgo
  clear eH eL
  refine lv_aload_n hx hb dX11_shape_0 rfl (lv_at hl 0 rfl) ?_
  refine lv_iconst (v := 0) hx hb dX11_shape_1 (by decide) ?_
  refine lv_iload_n hx hb dX11_shape_2 rfl (lv_at hl 1 rfl) ?_
  obtain ⟨a51, h52, hf⟩ := bn_some hf
  refine kPV (tX11_isPossible l G ad_t ad_t_all ad_t_tape ad_t_isImage ad_t_size ad_t_givenRow ad_t_givenColumn ad_t_newRow ad_t_view tI t_value t_all (0 : Int32) p0 a51 h52) ⟨hx, hb, hml, hown, hts⟩ q1155 q1157 q42 q108 q1158 okyX11_isPossible ⟨Nat.le_of_ble_eq_true rfl, Nat.le_of_ble_eq_true rfl⟩ hP hG hS [0, 1] rfl 0 rfl rfl hl.1 rfl (Nat.le_of_ble_eq_true rfl) dX11_shape_3 ⟨Nat.zero_le _, Nat.zero_le _⟩ (fun locs hS => ?_)
  refine W.eq (g2 := F0 m 6 ls [.int (bi a51)]) rfl ?_
  refine lv_if_ne (tgt := 11) hx hb dX11_shape_6 (by decide) (fun c53 => ?_) (fun c53 => ?_)
  · have hf := if_f hf c53
    refine lv_aload_n hx hb dX11_shape_11 rfl (lv_at hl 0 rfl) ?_
    refine lv_iconst (v := 0) hx hb dX11_shape_12 (by decide) ?_
    refine lv_iload_n hx hb dX11_shape_13 rfl (lv_at hl 1 rfl) ?_
    obtain ⟨a54, h55, hf⟩ := bn_some hf
    refine kPV (tX11_stages l G ad_t ad_t_all ad_t_tape ad_t_isImage ad_t_size ad_t_givenRow ad_t_givenColumn ad_t_newRow ad_t_view tI t_value t_all (0 : Int32) p0 a54 h55) ⟨hx, hb, hml, hown, hts⟩ q1183 q1185 q49 q108 q1186 okyX11_stages ⟨Nat.le_of_ble_eq_true rfl, Nat.le_of_ble_eq_true rfl⟩ hP hG hS [0, 1] rfl 0 rfl rfl hl.1 rfl (Nat.le_of_ble_eq_true rfl) dX11_shape_14 ⟨Nat.zero_le _, Nat.zero_le _⟩ (fun locs hS => ?_)
    refine W.eq (g2 := F0 m 17 ls [.int a54]) rfl ?_
    refine lv_istore_n (lv' := [(3, .int a54), (0, .ref ad_t), (1, .int p0), (2, .int p1)]) hx hb dX11_shape_17 rfl hl (by decide) rfl (fun ls hl => ?_)
    refine lv_iload_n hx hb dX11_shape_18 rfl (lv_at hl 3 rfl) ?_
    refine lv_bipush (v := 20) hx hb dX11_shape_19 (by decide) ?_
    refine lv_isub hx hb dX11_shape_21 ?_
    refine lv_iconst (v := 0) hx hb dX11_shape_22 (by decide) ?_
    refine lv_iload_n hx hb dX11_shape_23 rfl (lv_at hl 0 rfl) ?_
    refine lv_iconst (v := 1) hx hb dX11_shape_24 (by decide) ?_
    refine lv_isub hx hb dX11_shape_25 ?_
    refine kPS (tX11_isIn l G (p1 - (20 : Int32)) (0 : Int32) (a54 - (1 : Int32)) _ rfl) ⟨hx, hb, hml, hown, hts⟩ q1137 q1138 q108 q1139 okyX11_isIn ⟨Nat.le_of_ble_eq_true rfl, Nat.le_of_ble_eq_true rfl⟩ hP hG hS [] rfl hl.1 rfl (Nat.le_of_ble_eq_true rfl) dX11_shape_26 ⟨Nat.zero_le _, Nat.zero_le _⟩ (fun locs hS => ?_)
    refine W.eq (g2 := F0 m 29 ls [.int (bi (fX11_isIn (p1 - (20 : Int32)) (0 : Int32) (a54 - (1 : Int32))))]) rfl ?_
    refine lv_if_eq (tgt := 48) hx hb dX11_shape_29 (by decide) (fun c56 => ?_) (fun c56 => ?_)
    · have hf := if_t hf c56
      refine lv_iload_n hx hb dX11_shape_48 rfl (lv_at hl 3 rfl) ?_
      by_cases c57 : p1 = (0 : Int32)
      · have hf := if_t hf c57
        refine lv_tableIn (off := 67) (tgt := 116) hx hb dX11_shape_49 (by rw [c57]; decide) (by rw [c57]; decide) (by rw [c57]; decide) (by decide) ?_
        refine lv_aload_n hx hb dX11_shape_116 rfl (lv_at hl 1 rfl) ?_
        refine lv_iconst (v := 0) hx hb dX11_shape_117 (by decide) ?_
        refine lv_iload_n hx hb dX11_shape_118 rfl (lv_at hl 2 rfl) ?_
        obtain ⟨a58, h59, hf⟩ := bn_some hf
        refine kPV (tX11_rows l G ad_t ad_t_all ad_t_tape ad_t_isImage ad_t_size ad_t_givenRow ad_t_givenColumn ad_t_newRow ad_t_view tI t_value t_all (0 : Int32) p0 a58 h59) ⟨hx, hb, hml, hown, hts⟩ q1159 q1161 q43 q108 q1162 okyX11_rows ⟨Nat.le_of_ble_eq_true rfl, Nat.le_of_ble_eq_true rfl⟩ hP hG hS [0, 1] rfl 0 rfl rfl hl.1 rfl (Nat.le_of_ble_eq_true rfl) dX11_shape_119 ⟨Nat.zero_le _, Nat.zero_le _⟩ (fun locs hS => ?_)
        refine W.eq (g2 := F0 m 122 ls [.int a58]) rfl ?_
        have hf := Option.some.inj hf
        subst hf
        exact eRet hx hb hr hlocks hP hD hS ⟨rfl, rfl⟩ dX11_shape_122
      · have hf := if_f hf c57
        by_cases c60 : p1 = (1 : Int32)
        · have hf := if_t hf c60
          refine lv_tableIn (off := 74) (tgt := 123) hx hb dX11_shape_49 (by rw [c60]; decide) (by rw [c60]; decide) (by rw [c60]; decide) (by decide) ?_
          refine lv_aload_n hx hb dX11_shape_123 rfl (lv_at hl 1 rfl) ?_
          refine lv_iconst (v := 0) hx hb dX11_shape_124 (by decide) ?_
          refine lv_iload_n hx hb dX11_shape_125 rfl (lv_at hl 2 rfl) ?_
          obtain ⟨a61, h62, hf⟩ := bn_some hf
          refine kPV (tX11_columns l G ad_t ad_t_all ad_t_tape ad_t_isImage ad_t_size ad_t_givenRow ad_t_givenColumn ad_t_newRow ad_t_view tI t_value t_all (0 : Int32) p0 a61 h62) ⟨hx, hb, hml, hown, hts⟩ q1217 q1219 q56 q108 q1220 okyX11_columns ⟨Nat.le_of_ble_eq_true rfl, Nat.le_of_ble_eq_true rfl⟩ hP hG hS [0, 1] rfl 0 rfl rfl hl.1 rfl (Nat.le_of_ble_eq_true rfl) dX11_shape_126 ⟨Nat.zero_le _, Nat.zero_le _⟩ (fun locs hS => ?_)
          refine W.eq (g2 := F0 m 129 ls [.int a61]) rfl ?_
          have hf := Option.some.inj hf
          subst hf
          exact eRet hx hb hr hlocks hP hD hS ⟨rfl, rfl⟩ dX11_shape_129
        · have hf := if_f hf c60
          by_cases c63 : p1 = (2 : Int32)
          · have hf := if_t hf c63
            refine lv_tableIn (off := 81) (tgt := 130) hx hb dX11_shape_49 (by rw [c63]; decide) (by rw [c63]; decide) (by rw [c63]; decide) (by decide) ?_
            refine lv_aload_n hx hb dX11_shape_130 rfl (lv_at hl 1 rfl) ?_
            refine lv_iconst (v := 0) hx hb dX11_shape_131 (by decide) ?_
            refine lv_iload_n hx hb dX11_shape_132 rfl (lv_at hl 2 rfl) ?_
            obtain ⟨a64, h65, hf⟩ := bn_some hf
            refine kEV (tX11_width l G ad_t ad_t_all ad_t_tape ad_t_isImage ad_t_size ad_t_givenRow ad_t_givenColumn ad_t_newRow ad_t_view tI t_value t_all t_size (0 : Int32) p0 a64 h65) ⟨hx, hb, hml, hown, hts⟩ q1175 q1177 q47 q108 q1178 okyX11_width ⟨Nat.le_of_ble_eq_true rfl, Nat.le_of_ble_eq_true rfl⟩ hP hD hG hS hA [0, 1, 2] [] rfl (wr := []) rfl (by decide) 0 rfl rfl hl.1 rfl (Nat.le_of_ble_eq_true rfl) dX11_shape_133 ⟨Nat.zero_le _, Nat.zero_le _⟩ (fun r w H locs hR hP hD hS => ?_)
            obtain ⟨rfl, rfl⟩ := hR
            have hP : va_P G.1 vwCl [(ad_t, .inr (11, [.ref ad_t_all, .ref ad_t_tape, .ref ad_t_isImage, .int (tI 3), .int (tI 4), .int (tI 5), .int (tI 6), .ref ad_t_size, .ref ad_t_givenRow, .ref ad_t_givenColumn, .ref ad_t_newRow, .int (tI 11), .int (tI 12), .int (tI 13), .int (tI 14), .int (tI 15), .int (tI 16), .int (tI 17), .int (tI 18), .int (tI 19), .ref ad_t_view, .int (tI 21), .int (tI 22), .int (tI 23), .int (tI 24), .int (tI 25), .long t_value, .int (tI 27), .int (tI 28)])), (ad_t_all, .inl (G.2.1 0, 43047, .inl t_all)), (ad_t_size, .inl (G.2.1 0, 8, .inl a64.2))] H := hP
            have hD : va_D A [(ad_t, .inr (11, [.ref ad_t_all, .ref ad_t_tape, .ref ad_t_isImage, .int (tI 3), .int (tI 4), .int (tI 5), .int (tI 6), .ref ad_t_size, .ref ad_t_givenRow, .ref ad_t_givenColumn, .ref ad_t_newRow, .int (tI 11), .int (tI 12), .int (tI 13), .int (tI 14), .int (tI 15), .int (tI 16), .int (tI 17), .int (tI 18), .int (tI 19), .ref ad_t_view, .int (tI 21), .int (tI 22), .int (tI 23), .int (tI 24), .int (tI 25), .long t_value, .int (tI 27), .int (tI 28)])), (ad_t_all, .inl (G.2.1 0, 43047, .inl t_all)), (ad_t_size, .inl (G.2.1 0, 8, .inl a64.2))] := hD
            refine W.eq (g2 := F0 m 136 ls [.int a64.1]) rfl ?_
            have hf := Option.some.inj hf
            subst hf
            exact eRet hx hb hr hlocks hP hD hS ⟨rfl, rfl⟩ dX11_shape_136
          · have hf := if_f hf c63
            by_cases c66 : p1 = (3 : Int32)
            · have hf := if_t hf c66
              refine lv_tableIn (off := 88) (tgt := 137) hx hb dX11_shape_49 (by rw [c66]; decide) (by rw [c66]; decide) (by rw [c66]; decide) (by decide) ?_
              refine lv_aload_n hx hb dX11_shape_137 rfl (lv_at hl 1 rfl) ?_
              refine lv_iconst (v := 0) hx hb dX11_shape_138 (by decide) ?_
              refine lv_iload_n hx hb dX11_shape_139 rfl (lv_at hl 2 rfl) ?_
              obtain ⟨a67, h68, hf⟩ := bn_some hf
              refine kPV (tX11_height l G ad_t ad_t_all ad_t_tape ad_t_isImage ad_t_size ad_t_givenRow ad_t_givenColumn ad_t_newRow ad_t_view tI t_value t_all (0 : Int32) p0 a67 h68) ⟨hx, hb, hml, hown, hts⟩ q1225 q1227 q57 q108 q1228 okyX11_height ⟨Nat.le_of_ble_eq_true rfl, Nat.le_of_ble_eq_true rfl⟩ hP hG hS [0, 1] rfl 0 rfl rfl hl.1 rfl (Nat.le_of_ble_eq_true rfl) dX11_shape_140 ⟨Nat.zero_le _, Nat.zero_le _⟩ (fun locs hS => ?_)
              refine W.eq (g2 := F0 m 143 ls [.int a67]) rfl ?_
              have hf := Option.some.inj hf
              subst hf
              exact eRet hx hb hr hlocks hP hD hS ⟨rfl, rfl⟩ dX11_shape_143
            · have hf := if_f hf c66
              by_cases c69 : p1 = (4 : Int32)
              · have hf := if_t hf c69
                refine lv_tableIn (off := 95) (tgt := 144) hx hb dX11_shape_49 (by rw [c69]; decide) (by rw [c69]; decide) (by rw [c69]; decide) (by decide) ?_
                refine lv_aload_n hx hb dX11_shape_144 rfl (lv_at hl 1 rfl) ?_
                refine lv_iconst (v := 0) hx hb dX11_shape_145 (by decide) ?_
                refine lv_iload_n hx hb dX11_shape_146 rfl (lv_at hl 2 rfl) ?_
                obtain ⟨a70, h71, hf⟩ := bn_some hf
                refine kEV (tX11_width l G ad_t ad_t_all ad_t_tape ad_t_isImage ad_t_size ad_t_givenRow ad_t_givenColumn ad_t_newRow ad_t_view tI t_value t_all t_size (0 : Int32) p0 a70 h71) ⟨hx, hb, hml, hown, hts⟩ q1175 q1177 q47 q108 q1178 okyX11_width ⟨Nat.le_of_ble_eq_true rfl, Nat.le_of_ble_eq_true rfl⟩ hP hD hG hS hA [0, 1, 2] [] rfl (wr := []) rfl (by decide) 0 rfl rfl hl.1 rfl (Nat.le_of_ble_eq_true rfl) dX11_shape_147 ⟨Nat.zero_le _, Nat.zero_le _⟩ (fun r w H locs hR hP hD hS => ?_)
                obtain ⟨rfl, rfl⟩ := hR
                have hP : va_P G.1 vwCl [(ad_t, .inr (11, [.ref ad_t_all, .ref ad_t_tape, .ref ad_t_isImage, .int (tI 3), .int (tI 4), .int (tI 5), .int (tI 6), .ref ad_t_size, .ref ad_t_givenRow, .ref ad_t_givenColumn, .ref ad_t_newRow, .int (tI 11), .int (tI 12), .int (tI 13), .int (tI 14), .int (tI 15), .int (tI 16), .int (tI 17), .int (tI 18), .int (tI 19), .ref ad_t_view, .int (tI 21), .int (tI 22), .int (tI 23), .int (tI 24), .int (tI 25), .long t_value, .int (tI 27), .int (tI 28)])), (ad_t_all, .inl (G.2.1 0, 43047, .inl t_all)), (ad_t_size, .inl (G.2.1 0, 8, .inl a70.2))] H := hP
                have hD : va_D A [(ad_t, .inr (11, [.ref ad_t_all, .ref ad_t_tape, .ref ad_t_isImage, .int (tI 3), .int (tI 4), .int (tI 5), .int (tI 6), .ref ad_t_size, .ref ad_t_givenRow, .ref ad_t_givenColumn, .ref ad_t_newRow, .int (tI 11), .int (tI 12), .int (tI 13), .int (tI 14), .int (tI 15), .int (tI 16), .int (tI 17), .int (tI 18), .int (tI 19), .ref ad_t_view, .int (tI 21), .int (tI 22), .int (tI 23), .int (tI 24), .int (tI 25), .long t_value, .int (tI 27), .int (tI 28)])), (ad_t_all, .inl (G.2.1 0, 43047, .inl t_all)), (ad_t_size, .inl (G.2.1 0, 8, .inl a70.2))] := hD
                refine W.eq (g2 := F0 m 150 ls [.int a70.1]) rfl ?_
                refine lv_aload_n hx hb dX11_shape_150 rfl (lv_at hl 1 rfl) ?_
                refine lv_iconst (v := 0) hx hb dX11_shape_151 (by decide) ?_
                refine lv_iload_n hx hb dX11_shape_152 rfl (lv_at hl 2 rfl) ?_
                obtain ⟨a72, h73, hf⟩ := bn_some hf
                refine kPV (tX11_height l G ad_t ad_t_all ad_t_tape ad_t_isImage ad_t_size ad_t_givenRow ad_t_givenColumn ad_t_newRow ad_t_view tI t_value t_all (0 : Int32) p0 a72 h73) ⟨hx, hb, hml, hown, hts⟩ q1225 q1227 q57 q108 q1228 okyX11_height ⟨Nat.le_of_ble_eq_true rfl, Nat.le_of_ble_eq_true rfl⟩ hP hG hS [0, 1] rfl 0 rfl rfl hl.1 rfl (Nat.le_of_ble_eq_true rfl) dX11_shape_153 ⟨Nat.zero_le _, Nat.zero_le _⟩ (fun locs hS => ?_)
                refine W.eq (g2 := F0 m 156 ls [.int a72, .int a70.1]) rfl ?_
                refine lv_imul hx hb dX11_shape_156 ?_
                have hf := Option.some.inj hf
                subst hf
                exact eRet hx hb hr hlocks hP hD hS ⟨rfl, rfl⟩ dX11_shape_157
              · have hf := if_f hf c69
                by_cases c74 : p1 = (5 : Int32)
                · have hf := if_t hf c74
                  refine lv_tableIn (off := 109) (tgt := 158) hx hb dX11_shape_49 (by rw [c74]; decide) (by rw [c74]; decide) (by rw [c74]; decide) (by decide) ?_
                  refine lv_aload_n hx hb dX11_shape_158 rfl (lv_at hl 1 rfl) ?_
                  refine lv_iconst (v := 0) hx hb dX11_shape_159 (by decide) ?_
                  refine lv_iload_n hx hb dX11_shape_160 rfl (lv_at hl 2 rfl) ?_
                  obtain ⟨a75, h76, hf⟩ := bn_some hf
                  refine kPV (tX11_common l G ad_t ad_t_all ad_t_tape ad_t_isImage ad_t_size ad_t_givenRow ad_t_givenColumn ad_t_newRow ad_t_view tI t_value t_all (0 : Int32) p0 a75 h76) ⟨hx, hb, hml, hown, hts⟩ q1237 q1239 q60 q108 q1240 okyX11_common ⟨Nat.le_of_ble_eq_true rfl, Nat.le_of_ble_eq_true rfl⟩ hP hG hS [0, 1] rfl 0 rfl rfl hl.1 rfl (Nat.le_of_ble_eq_true rfl) dX11_shape_161 ⟨Nat.zero_le _, Nat.zero_le _⟩ (fun locs hS => ?_)
                  refine W.eq (g2 := F0 m 164 ls [.int a75]) rfl ?_
                  refine lv_aload_n hx hb dX11_shape_164 rfl (lv_at hl 1 rfl) ?_
                  refine lv_iconst (v := 0) hx hb dX11_shape_165 (by decide) ?_
                  refine lv_iload_n hx hb dX11_shape_166 rfl (lv_at hl 2 rfl) ?_
                  obtain ⟨a77, h78, hf⟩ := bn_some hf
                  refine kPV (tX11_fall l G ad_t ad_t_all ad_t_tape ad_t_isImage ad_t_size ad_t_givenRow ad_t_givenColumn ad_t_newRow ad_t_view tI t_value t_all (0 : Int32) p0 a77 h78) ⟨hx, hb, hml, hown, hts⟩ q1253 q1255 q64 q108 q1256 okyX11_fall ⟨Nat.le_of_ble_eq_true rfl, Nat.le_of_ble_eq_true rfl⟩ hP hG hS [0, 1] rfl 0 rfl rfl hl.1 rfl (Nat.le_of_ble_eq_true rfl) dX11_shape_167 ⟨Nat.zero_le _, Nat.zero_le _⟩ (fun locs hS => ?_)
                  refine W.eq (g2 := F0 m 170 ls [.int a77, .int a75]) rfl ?_
                  refine lv_iadd hx hb dX11_shape_170 ?_
                  have hf := Option.some.inj hf
                  subst hf
                  exact eRet hx hb hr hlocks hP hD hS ⟨rfl, rfl⟩ dX11_shape_171
                · have hf := if_f hf c74
                  by_cases c79 : p1 = (6 : Int32)
                  · have hf := if_t hf c79
                    refine lv_tableIn (off := 123) (tgt := 172) hx hb dX11_shape_49 (by rw [c79]; decide) (by rw [c79]; decide) (by rw [c79]; decide) (by decide) ?_
                    refine lv_aload_n hx hb dX11_shape_172 rfl (lv_at hl 1 rfl) ?_
                    refine lv_iconst (v := 0) hx hb dX11_shape_173 (by decide) ?_
                    refine lv_iload_n hx hb dX11_shape_174 rfl (lv_at hl 2 rfl) ?_
                    obtain ⟨a80, h81, hf⟩ := bn_some hf
                    refine kPV (tX11_cycle l G ad_t ad_t_all ad_t_tape ad_t_isImage ad_t_size ad_t_givenRow ad_t_givenColumn ad_t_newRow ad_t_view tI t_value t_all (0 : Int32) p0 a80 h81) ⟨hx, hb, hml, hown, hts⟩ q1233 q1235 q59 q108 q1236 okyX11_cycle ⟨Nat.le_of_ble_eq_true rfl, Nat.le_of_ble_eq_true rfl⟩ hP hG hS [0, 1] rfl 0 rfl rfl hl.1 rfl (Nat.le_of_ble_eq_true rfl) dX11_shape_175 ⟨Nat.zero_le _, Nat.zero_le _⟩ (fun locs hS => ?_)
                    refine W.eq (g2 := F0 m 178 ls [.int a80]) rfl ?_
                    have hf := Option.some.inj hf
                    subst hf
                    exact eRet hx hb hr hlocks hP hD hS ⟨rfl, rfl⟩ dX11_shape_178
                  · have hf := if_f hf c79
                    by_cases c82 : p1 = (7 : Int32)
                    · have hf := if_t hf c82
                      refine lv_tableIn (off := 130) (tgt := 179) hx hb dX11_shape_49 (by rw [c82]; decide) (by rw [c82]; decide) (by rw [c82]; decide) (by decide) ?_
                      refine lv_iload_n hx hb dX11_shape_179 rfl (lv_at hl 0 rfl) ?_
                      have hf := Option.some.inj hf
                      subst hf
                      exact eRet hx hb hr hlocks hP hD hS ⟨rfl, rfl⟩ dX11_shape_180
                    · have hf := if_f hf c82
                      by_cases c83 : p1 = (8 : Int32)
                      · have hf := if_t hf c83
                        refine lv_tableIn (off := 132) (tgt := 181) hx hb dX11_shape_49 (by rw [c83]; decide) (by rw [c83]; decide) (by rw [c83]; decide) (by decide) ?_
                        refine lv_aload_n hx hb dX11_shape_181 rfl (lv_at hl 1 rfl) ?_
                        refine lv_iconst (v := 0) hx hb dX11_shape_182 (by decide) ?_
                        refine lv_iload_n hx hb dX11_shape_183 rfl (lv_at hl 2 rfl) ?_
                        refine lv_iload_n hx hb dX11_shape_184 rfl (lv_at hl 0 rfl) ?_
                        obtain ⟨a84, h85, hf⟩ := bn_some hf
                        refine kPV (tX11_tenths l G ad_t ad_t_all ad_t_tape ad_t_isImage ad_t_size ad_t_givenRow ad_t_givenColumn ad_t_newRow ad_t_view tI t_value t_all (0 : Int32) p0 a54 a84 h85) ⟨hx, hb, hml, hown, hts⟩ q1191 q1193 q51 q108 q1194 okyX11_tenths ⟨Nat.le_of_ble_eq_true rfl, Nat.le_of_ble_eq_true rfl⟩ hP hG hS [0, 1] rfl 0 rfl rfl hl.1 rfl (Nat.le_of_ble_eq_true rfl) dX11_shape_185 ⟨Nat.zero_le _, Nat.zero_le _⟩ (fun locs hS => ?_)
                        refine W.eq (g2 := F0 m 188 ls [.int a84]) rfl ?_
                        have hf := Option.some.inj hf
                        subst hf
                        exact eRet hx hb hr hlocks hP hD hS ⟨rfl, rfl⟩ dX11_shape_188
                      · have hf := if_f hf c83
                        by_cases c86 : p1 = (9 : Int32)
                        · have hf := if_t hf c86
                          refine lv_tableIn (off := 140) (tgt := 189) hx hb dX11_shape_49 (by rw [c86]; decide) (by rw [c86]; decide) (by rw [c86]; decide) (by decide) ?_
                          refine lv_aload_n hx hb dX11_shape_189 rfl (lv_at hl 1 rfl) ?_
                          refine lv_iconst (v := 0) hx hb dX11_shape_190 (by decide) ?_
                          refine lv_iload_n hx hb dX11_shape_191 rfl (lv_at hl 2 rfl) ?_
                          refine lv_iload_n hx hb dX11_shape_192 rfl (lv_at hl 0 rfl) ?_
                          obtain ⟨a87, h88, hf⟩ := bn_some hf
                          refine kPV (tX11_delay l G ad_t ad_t_all ad_t_tape ad_t_isImage ad_t_size ad_t_givenRow ad_t_givenColumn ad_t_newRow ad_t_view tI t_value t_all (0 : Int32) p0 a54 a87 h88) ⟨hx, hb, hml, hown, hts⟩ q1187 q1189 q50 q108 q1190 okyX11_delay ⟨Nat.le_of_ble_eq_true rfl, Nat.le_of_ble_eq_true rfl⟩ hP hG hS [0, 1] rfl 0 rfl rfl hl.1 rfl (Nat.le_of_ble_eq_true rfl) dX11_shape_193 ⟨Nat.zero_le _, Nat.zero_le _⟩ (fun locs hS => ?_)
                          refine W.eq (g2 := F0 m 196 ls [.int a87]) rfl ?_
                          have hf := Option.some.inj hf
                          subst hf
                          exact eRet hx hb hr hlocks hP hD hS ⟨rfl, rfl⟩ dX11_shape_196
                        · have hf := if_f hf c86
                          by_cases c89 : p1 = (10 : Int32)
                          · have hf := if_t hf c89
                            refine lv_tableIn (off := 148) (tgt := 197) hx hb dX11_shape_49 (by rw [c89]; decide) (by rw [c89]; decide) (by rw [c89]; decide) (by decide) ?_
                            refine lv_aload_n hx hb dX11_shape_197 rfl (lv_at hl 1 rfl) ?_
                            refine lv_iconst (v := 0) hx hb dX11_shape_198 (by decide) ?_
                            refine lv_iload_n hx hb dX11_shape_199 rfl (lv_at hl 2 rfl) ?_
                            obtain ⟨a90, h91, hf⟩ := bn_some hf
                            refine kPV (tX11_pulls l G ad_t ad_t_all ad_t_tape ad_t_isImage ad_t_size ad_t_givenRow ad_t_givenColumn ad_t_newRow ad_t_view tI t_value t_all (0 : Int32) p0 a90 h91) ⟨hx, hb, hml, hown, hts⟩ q1245 q1247 q62 q108 q1248 okyX11_pulls ⟨Nat.le_of_ble_eq_true rfl, Nat.le_of_ble_eq_true rfl⟩ hP hG hS [0, 1] rfl 0 rfl rfl hl.1 rfl (Nat.le_of_ble_eq_true rfl) dX11_shape_200 ⟨Nat.zero_le _, Nat.zero_le _⟩ (fun locs hS => ?_)
                            refine W.eq (g2 := F0 m 203 ls [.int a90]) rfl ?_
                            have hf := Option.some.inj hf
                            subst hf
                            exact eRet hx hb hr hlocks hP hD hS ⟨rfl, rfl⟩ dX11_shape_203
                          · have hf := if_f hf c89
                            by_cases c92 : p1 = (11 : Int32)
                            · have hf := if_t hf c92
                              refine lv_tableIn (off := 155) (tgt := 204) hx hb dX11_shape_49 (by rw [c92]; decide) (by rw [c92]; decide) (by rw [c92]; decide) (by decide) ?_
                              refine lv_aload_n hx hb dX11_shape_204 rfl (lv_at hl 1 rfl) ?_
                              refine lv_iconst (v := 0) hx hb dX11_shape_205 (by decide) ?_
                              refine lv_iload_n hx hb dX11_shape_206 rfl (lv_at hl 2 rfl) ?_
                              obtain ⟨a93, h94, hf⟩ := bn_some hf
                              refine kPV (tX11_wire l G ad_t ad_t_all ad_t_tape ad_t_isImage ad_t_size ad_t_givenRow ad_t_givenColumn ad_t_newRow ad_t_view tI t_value t_all (0 : Int32) p0 a93 h94) ⟨hx, hb, hml, hown, hts⟩ q1241 q1243 q61 q108 q1244 okyX11_wire ⟨Nat.le_of_ble_eq_true rfl, Nat.le_of_ble_eq_true rfl⟩ hP hG hS [0, 1] rfl 0 rfl rfl hl.1 rfl (Nat.le_of_ble_eq_true rfl) dX11_shape_207 ⟨Nat.zero_le _, Nat.zero_le _⟩ (fun locs hS => ?_)
                              refine W.eq (g2 := F0 m 210 ls [.int a93]) rfl ?_
                              have hf := Option.some.inj hf
                              subst hf
                              exact eRet hx hb hr hlocks hP hD hS ⟨rfl, rfl⟩ dX11_shape_210
                            · have hf := if_f hf c92
                              by_cases c95 : p1 = (12 : Int32)
                              · have hf := if_t hf c95
                                refine lv_tableIn (off := 162) (tgt := 211) hx hb dX11_shape_49 (by rw [c95]; decide) (by rw [c95]; decide) (by rw [c95]; decide) (by decide) ?_
                                refine lv_aload_n hx hb dX11_shape_211 rfl (lv_at hl 1 rfl) ?_
                                refine lv_iconst (v := 0) hx hb dX11_shape_212 (by decide) ?_
                                refine lv_iload_n hx hb dX11_shape_213 rfl (lv_at hl 2 rfl) ?_
                                obtain ⟨a96, h97, hf⟩ := bn_some hf
                                refine kPV (tX11_fall l G ad_t ad_t_all ad_t_tape ad_t_isImage ad_t_size ad_t_givenRow ad_t_givenColumn ad_t_newRow ad_t_view tI t_value t_all (0 : Int32) p0 a96 h97) ⟨hx, hb, hml, hown, hts⟩ q1253 q1255 q64 q108 q1256 okyX11_fall ⟨Nat.le_of_ble_eq_true rfl, Nat.le_of_ble_eq_true rfl⟩ hP hG hS [0, 1] rfl 0 rfl rfl hl.1 rfl (Nat.le_of_ble_eq_true rfl) dX11_shape_214 ⟨Nat.zero_le _, Nat.zero_le _⟩ (fun locs hS => ?_)
                                refine W.eq (g2 := F0 m 217 ls [.int a96]) rfl ?_
                                have hf := Option.some.inj hf
                                subst hf
                                exact eRet hx hb hr hlocks hP hD hS ⟨rfl, rfl⟩ dX11_shape_217
                              · have hf := if_f hf c95
                                refine lv_tableOut (tgt := 218) hx hb dX11_shape_49 (by have ec57 := sw_ne (k := 0) (by decide) (by decide) c57; have ec60 := sw_ne (k := 1) (by decide) (by decide) c60; have ec63 := sw_ne (k := 2) (by decide) (by decide) c63; have ec66 := sw_ne (k := 3) (by decide) (by decide) c66; have ec69 := sw_ne (k := 4) (by decide) (by decide) c69; have ec74 := sw_ne (k := 5) (by decide) (by decide) c74; have ec79 := sw_ne (k := 6) (by decide) (by decide) c79; have ec82 := sw_ne (k := 7) (by decide) (by decide) c82; have ec83 := sw_ne (k := 8) (by decide) (by decide) c83; have ec86 := sw_ne (k := 9) (by decide) (by decide) c86; have ec89 := sw_ne (k := 10) (by decide) (by decide) c89; have ec92 := sw_ne (k := 11) (by decide) (by decide) c92; have ec95 := sw_ne (k := 12) (by decide) (by decide) c95; omega) (by decide) ?_
                                refine lv_iconst (v := -1) hx hb dX11_shape_218 (by decide) ?_
                                have hf := Option.some.inj hf
                                subst hf
                                exact eRet hx hb hr hlocks hP hD hS ⟨rfl, rfl⟩ dX11_shape_219
    · have hf := if_f hf c56
      refine lv_aload_n hx hb dX11_shape_32 rfl (lv_at hl 1 rfl) ?_
      refine lv_iconst (v := 0) hx hb dX11_shape_33 (by decide) ?_
      refine lv_iload_n hx hb dX11_shape_34 rfl (lv_at hl 2 rfl) ?_
      obtain ⟨a98, h99, hf⟩ := bn_some hf
      refine kEV (tX11_laysSizes l G ad_t ad_t_all ad_t_tape ad_t_isImage ad_t_size ad_t_givenRow ad_t_givenColumn ad_t_newRow ad_t_view tI t_value t_all t_size (0 : Int32) p0 a98 h99) ⟨hx, hb, hml, hown, hts⟩ q1179 q1181 q48 q108 q1182 okyX11_laysSizes ⟨Nat.le_of_ble_eq_true rfl, Nat.le_of_ble_eq_true rfl⟩ hP hD hG hS hA [0, 1, 2] [] rfl (wr := []) rfl (by decide) 0 rfl rfl hl.1 rfl (Nat.le_of_ble_eq_true rfl) dX11_shape_35 ⟨Nat.zero_le _, Nat.zero_le _⟩ (fun r w H locs hR hP hD hS => ?_)
      obtain ⟨rfl, rfl⟩ := hR
      have hP : va_P G.1 vwCl [(ad_t, .inr (11, [.ref ad_t_all, .ref ad_t_tape, .ref ad_t_isImage, .int (tI 3), .int (tI 4), .int (tI 5), .int (tI 6), .ref ad_t_size, .ref ad_t_givenRow, .ref ad_t_givenColumn, .ref ad_t_newRow, .int (tI 11), .int (tI 12), .int (tI 13), .int (tI 14), .int (tI 15), .int (tI 16), .int (tI 17), .int (tI 18), .int (tI 19), .ref ad_t_view, .int (tI 21), .int (tI 22), .int (tI 23), .int (tI 24), .int (tI 25), .long t_value, .int (tI 27), .int (tI 28)])), (ad_t_all, .inl (G.2.1 0, 43047, .inl t_all)), (ad_t_size, .inl (G.2.1 0, 8, .inl a98))] H := hP
      have hD : va_D A [(ad_t, .inr (11, [.ref ad_t_all, .ref ad_t_tape, .ref ad_t_isImage, .int (tI 3), .int (tI 4), .int (tI 5), .int (tI 6), .ref ad_t_size, .ref ad_t_givenRow, .ref ad_t_givenColumn, .ref ad_t_newRow, .int (tI 11), .int (tI 12), .int (tI 13), .int (tI 14), .int (tI 15), .int (tI 16), .int (tI 17), .int (tI 18), .int (tI 19), .ref ad_t_view, .int (tI 21), .int (tI 22), .int (tI 23), .int (tI 24), .int (tI 25), .long t_value, .int (tI 27), .int (tI 28)])), (ad_t_all, .inl (G.2.1 0, 43047, .inl t_all)), (ad_t_size, .inl (G.2.1 0, 8, .inl a98))] := hD
      refine W.eq (g2 := F0 m 38 ls []) rfl ?_
      refine lv_aload_n hx hb dX11_shape_38 rfl (lv_at hl 1 rfl) ?_
      refine va_get (D := G.1) (cl := vwCl) (ci := 11) (v := .ref ad_t_size) (C := RX11) (T := TX11) (N := 29) hx hb hts inG11 hown hK hP 0 rfl rfl 7 (Nat.le_of_ble_eq_true rfl) (hts _ q1048) (fun _ h9 => h9) rfl dX11_shape_39 ?_
      refine lv_iload_n hx hb dX11_shape_42 rfl (lv_at hl 3 rfl) ?_
      refine lv_bipush (v := 20) hx hb dX11_shape_43 (by decide) ?_
      refine lv_isub hx hb dX11_shape_45 ?_
      obtain ⟨h100, hf⟩ := gd_some hf
      refine va_iald (D := G.1) (cl := vwCl) hx hb hK hP 2 0 rfl rfl (gi_in h100) dX11_shape_46 ?_
      have hf := Option.some.inj hf
      subst hf
      exact eRet hx hb hr hlocks hP hD hS ⟨rfl, rfl⟩ dX11_shape_47
  · have hf := if_t hf c53
    refine lv_iconst (v := -1) hx hb dX11_shape_9 (by decide) ?_
    have hf := Option.some.inj hf
    subst hf
    exact eRet hx hb hr hlocks hP hD hS ⟨rfl, rfl⟩ dX11_shape_10
