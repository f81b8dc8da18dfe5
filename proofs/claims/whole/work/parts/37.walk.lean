def fX11_view (tI : Nat → Int32) (t_all : Nat → Int32) (t_size : Nat → Int32) (t_givenRow : Nat → Int32) (t_givenColumn : Nat → Int32) (t_newRow : Nat → Int32) (t_view : Nat → Int32) (p0 : Int32) (p1 : Int32) : Option (Int32 × (Nat → Int32) × (Nat → Int32) × (Nat → Int32) × (Nat → Int32) × (Nat → Int32) × (Nat → Int32)) :=
  (if (bi (fX11_isIn p0 (0 : Int32) (1 : Int32))) = 0 then some ((-1 : Int32), tI, t_size, t_givenRow, t_givenColumn, t_newRow, t_view) else bn (fX11_laysView tI t_all t_size t_givenRow t_givenColumn t_newRow t_view p0) fun a2 => (if p1 = (-1 : Int32) then some ((a2.1 21), a2.1, a2.2.1, a2.2.2.1, a2.2.2.2.1, a2.2.2.2.2.1, a2.2.2.2.2.2) else (if (bi (fX11_isIn p1 (0 : Int32) ((a2.1 21) - (1 : Int32)))) = 0 then some ((-1 : Int32), a2.1, a2.2.1, a2.2.2.1, a2.2.2.2.1, a2.2.2.2.2.1, a2.2.2.2.2.2) else gd (gi p1 600) (some ((a2.2.2.2.2.2 p1.toNatClampNeg), a2.1, a2.2.1, a2.2.2.1, a2.2.2.2.1, a2.2.2.2.2.1, a2.2.2.2.2.2)))))
set_option maxRecDepth 100000 in
set_option maxHeartbeats 4000000 in
theorem tX11_view (l : Launch) (G : gG) (ad_t ad_t_all ad_t_tape ad_t_isImage ad_t_size ad_t_givenRow ad_t_givenColumn ad_t_newRow ad_t_view : Nat) (tI : Nat → Int32) (t_value : Int64) (t_all : Nat → Int32) (t_size : Nat → Int32) (t_givenRow : Nat → Int32) (t_givenColumn : Nat → Int32) (t_newRow : Nat → Int32) (t_view : Nat → Int32) (p0 : Int32) (p1 : Int32) (o : Int32 × (Nat → Int32) × (Nat → Int32) × (Nat → Int32) × (Nat → Int32) × (Nat → Int32) × (Nat → Int32)) (hf : fX11_view tI t_all t_size t_givenRow t_givenColumn t_newRow t_view p0 p1 = some o) : mE G l yX11_view cX11_view 3 (some .int) 14 325 0 0 [.ref ad_t, .int p0, .int p1] [(ad_t, .inr (11, [.ref ad_t_all, .ref ad_t_tape, .ref ad_t_isImage, .int (tI 3), .int (tI 4), .int (tI 5), .int (tI 6), .ref ad_t_size, .ref ad_t_givenRow, .ref ad_t_givenColumn, .ref ad_t_newRow, .int (tI 11), .int (tI 12), .int (tI 13), .int (tI 14), .int (tI 15), .int (tI 16), .int (tI 17), .int (tI 18), .int (tI 19), .ref ad_t_view, .int (tI 21), .int (tI 22), .int (tI 23), .int (tI 24), .int (tI 25), .long t_value, .int (tI 27), .int (tI 28)])), (ad_t_all, .inl (G.2.1 0, 43047, .inl t_all)), (ad_t_size, .inl (G.2.1 0, 8, .inl t_size)), (ad_t_givenRow, .inl (G.2.1 0, 12, .inl t_givenRow)), (ad_t_givenColumn, .inl (G.2.1 0, 2, .inl t_givenColumn)), (ad_t_newRow, .inl (G.2.1 0, 13, .inl t_newRow)), (ad_t_view, .inl (G.2.1 0, 600, .inl t_view))] (fun r w => r = (some (.int o.1)) ∧ w = [(ad_t, .inr (11, [.ref ad_t_all, .ref ad_t_tape, .ref ad_t_isImage, .int (o.2.1 3), .int (o.2.1 4), .int (o.2.1 5), .int (o.2.1 6), .ref ad_t_size, .ref ad_t_givenRow, .ref ad_t_givenColumn, .ref ad_t_newRow, .int (o.2.1 11), .int (o.2.1 12), .int (o.2.1 13), .int (o.2.1 14), .int (o.2.1 15), .int (o.2.1 16), .int (o.2.1 17), .int (o.2.1 18), .int (o.2.1 19), .ref ad_t_view, .int (o.2.1 21), .int (o.2.1 22), .int (o.2.1 23), .int (o.2.1 24), .int (o.2.1 25), .long t_value, .int (o.2.1 27), .int (o.2.1 28)])), (ad_t_all, .inl (G.2.1 0, 43047, .inl t_all)), (ad_t_size, .inl (G.2.1 0, 8, .inl o.2.2.1)), (ad_t_givenRow, .inl (G.2.1 0, 12, .inl o.2.2.2.1)), (ad_t_givenColumn, .inl (G.2.1 0, 2, .inl o.2.2.2.2.1)), (ad_t_newRow, .inl (G.2.1 0, 13, .inl o.2.2.2.2.2.1)), (ad_t_view, .inl (G.2.1 0, 600, .inl o.2.2.2.2.2.2))]) := by
  refine mE_of (by decide) (Nat.le_of_ble_eq_true rfl) ?_
  intro p e s m below meth cd ls A hx hb hml hown hts hr hlocks hnm hl hA hP hD hS hG
  have hK := hG.1
  have hown : s.vm.findClass RX11 = some m.cls := hown
  have hl : lv_has ls 3 [(0, .ref ad_t), (1, .int p0), (2, .int p1)] := hl
  have hS := hS
  unfold fX11_view at hf
  obtain ⟨H, locs, eH, eL⟩ : ∃ (H : Heap) (locs : List Loc), H = s.heap ∧ locs = [] := ⟨_, _, rfl, rfl⟩
  have hP : va_P G.1 vwCl [(ad_t, .inr (11, [.ref ad_t_all, .ref ad_t_tape, .ref ad_t_isImage, .int (tI 3), .int (tI 4), .int (tI 5), .int (tI 6), .ref ad_t_size, .ref ad_t_givenRow, .ref ad_t_givenColumn, .ref ad_t_newRow, .int (tI 11), .int (tI 12), .int (tI 13), .int (tI 14), .int (tI 15), .int (tI 16), .int (tI 17), .int (tI 18), .int (tI 19), .ref ad_t_view, .int (tI 21), .int (tI 22), .int (tI 23), .int (tI 24), .int (tI 25), .long t_value, .int (tI 27), .int (tI 28)])), (ad_t_all, .inl (G.2.1 0, 43047, .inl t_all)), (ad_t_size, .inl (G.2.1 0, 8, .inl t_size)), (ad_t_givenRow, .inl (G.2.1 0, 12, .inl t_givenRow)), (ad_t_givenColumn, .inl (G.2.1 0, 2, .inl t_givenColumn)), (ad_t_newRow, .inl (G.2.1 0, 13, .inl t_newRow)), (ad_t_view, .inl (G.2.1 0, 600, .inl t_view))] H := eH ▸ hP
  have hS : va_S A s.heap H locs := by rw [eH, eL]; exact hS
  suffices hgo : wG p l e 14 325 s m [.ref ad_t, .int p0, .int p1] below meth cd H locs (eQ G A (fun r w => r = (some (.int o.1)) ∧ w = [(ad_t, .inr (11, [.ref ad_t_all, .ref ad_t_tape, .ref ad_t_isImage, .int (o.2.1 3), .int (o.2.1 4), .int (o.2.1 5), .int (o.2.1 6), .ref ad_t_size, .ref ad_t_givenRow, .ref ad_t_givenColumn, .ref ad_t_newRow, .int (o.2.1 11), .int (o.2.1 12), .int (o.2.1 13), .int (o.2.1 14), .int (o.2.1 15), .int (o.2.1 16), .int (o.2.1 17), .int (o.2.1 18), .int (o.2.1 19), .ref ad_t_view, .int (o.2.1 21), .int (o.2.1 22), .int (o.2.1 23), .int (o.2.1 24), .int (o.2.1 25), .long t_value, .int (o.2.1 27), .int (o.2.1 28)])), (ad_t_all, .inl (G.2.1 0, 43047, .inl t_all)), (ad_t_size, .inl (G.2.1 0, 8, .inl o.2.2.1)), (ad_t_givenRow, .inl (G.2.1 0, 12, .inl o.2.2.2.1)), (ad_t_givenColumn, .inl (G.2.1 0, 2, .inl o.2.2.2.2.1)), (ad_t_newRow, .inl (G.2.1 0, 13, .inl o.2.2.2.2.2.1)), (ad_t_view, .inl (G.2.1 0, 600, .inl o.2.2.2.2.2.2))])) A (F0 m 0 ls []) by rw [eH, eL] at hgo; exact hgo
  clear eH eL
  refine lv_iload_n hx hb dX11_view_0 rfl (lv_at hl 1 rfl) ?_
  refine lv_iconst (v := 0) hx hb dX11_view_1 (by decide) ?_
  refine lv_iconst (v := 1) hx hb dX11_view_2 (by decide) ?_
  refine kPS (tX11_isIn l G p0 (0 : Int32) (1 : Int32) _ rfl) ⟨hx, hb, hml, hown, hts⟩ q1137 q1138 q108 q1139 okyX11_isIn ⟨Nat.le_of_ble_eq_true rfl, Nat.le_of_ble_eq_true rfl⟩ hP hG hS [] rfl hl.1 rfl (Nat.le_of_ble_eq_true rfl) dX11_view_3 ⟨Nat.zero_le _, Nat.zero_le _⟩ (fun locs hS => ?_)
  refine W.eq (g2 := F0 m 6 ls [.int (bi (fX11_isIn p0 (0 : Int32) (1 : Int32)))]) rfl ?_
  refine lv_if_ne (tgt := 11) hx hb dX11_view_6 (by decide) (fun c7 => ?_) (fun c7 => ?_)
  · have hf := if_f hf c7
    refine lv_aload_n hx hb dX11_view_11 rfl (lv_at hl 0 rfl) ?_
    refine lv_iload_n hx hb dX11_view_12 rfl (lv_at hl 1 rfl) ?_
    obtain ⟨a8, h9, hf⟩ := bn_some hf
    refine kEV (tX11_laysView l G ad_t ad_t_all ad_t_tape ad_t_isImage ad_t_size ad_t_givenRow ad_t_givenColumn ad_t_newRow ad_t_view tI t_value t_all t_size t_givenRow t_givenColumn t_newRow t_view p0 a8 h9) ⟨hx, hb, hml, hown, hts⟩ q1382 q1384 q78 q108 q1385 okyX11_laysView ⟨Nat.le_of_ble_eq_true rfl, Nat.le_of_ble_eq_true rfl⟩ hP hD hG hS hA [0, 1, 2, 3, 4, 5, 6] [] rfl (wr := []) rfl (by decide) 0 rfl rfl hl.1 rfl (Nat.le_of_ble_eq_true rfl) dX11_view_13 ⟨Nat.zero_le _, Nat.zero_le _⟩ (fun r w H locs hR hP hD hS => ?_)
    obtain ⟨rfl, rfl⟩ := hR
    have hP : va_P G.1 vwCl [(ad_t, .inr (11, [.ref ad_t_all, .ref ad_t_tape, .ref ad_t_isImage, .int (a8.1 3), .int (a8.1 4), .int (a8.1 5), .int (a8.1 6), .ref ad_t_size, .ref ad_t_givenRow, .ref ad_t_givenColumn, .ref ad_t_newRow, .int (a8.1 11), .int (a8.1 12), .int (a8.1 13), .int (a8.1 14), .int (a8.1 15), .int (a8.1 16), .int (a8.1 17), .int (a8.1 18), .int (a8.1 19), .ref ad_t_view, .int (a8.1 21), .int (a8.1 22), .int (a8.1 23), .int (a8.1 24), .int (a8.1 25), .long t_value, .int (a8.1 27), .int (a8.1 28)])), (ad_t_all, .inl (G.2.1 0, 43047, .inl t_all)), (ad_t_size, .inl (G.2.1 0, 8, .inl a8.2.1)), (ad_t_givenRow, .inl (G.2.1 0, 12, .inl a8.2.2.1)), (ad_t_givenColumn, .inl (G.2.1 0, 2, .inl a8.2.2.2.1)), (ad_t_newRow, .inl (G.2.1 0, 13, .inl a8.2.2.2.2.1)), (ad_t_view, .inl (G.2.1 0, 600, .inl a8.2.2.2.2.2))] H := hP
    have hD : va_D A [(ad_t, .inr (11, [.ref ad_t_all, .ref ad_t_tape, .ref ad_t_isImage, .int (a8.1 3), .int (a8.1 4), .int (a8.1 5), .int (a8.1 6), .ref ad_t_size, .ref ad_t_givenRow, .ref ad_t_givenColumn, .ref ad_t_newRow, .int (a8.1 11), .int (a8.1 12), .int (a8.1 13), .int (a8.1 14), .int (a8.1 15), .int (a8.1 16), .int (a8.1 17), .int (a8.1 18), .int (a8.1 19), .ref ad_t_view, .int (a8.1 21), .int (a8.1 22), .int (a8.1 23), .int (a8.1 24), .int (a8.1 25), .long t_value, .int (a8.1 27), .int (a8.1 28)])), (ad_t_all, .inl (G.2.1 0, 43047, .inl t_all)), (ad_t_size, .inl (G.2.1 0, 8, .inl a8.2.1)), (ad_t_givenRow, .inl (G.2.1 0, 12, .inl a8.2.2.1)), (ad_t_givenColumn, .inl (G.2.1 0, 2, .inl a8.2.2.2.1)), (ad_t_newRow, .inl (G.2.1 0, 13, .inl a8.2.2.2.2.1)), (ad_t_view, .inl (G.2.1 0, 600, .inl a8.2.2.2.2.2))] := hD
    refine W.eq (g2 := F0 m 16 ls []) rfl ?_
    refine lv_iload_n hx hb dX11_view_16 rfl (lv_at hl 2 rfl) ?_
    refine lv_iconst (v := -1) hx hb dX11_view_17 (by decide) ?_
    refine lv_icmp_ne (tgt := 28) hx hb dX11_view_18 (by decide) (fun c10 => ?_) (fun c10 => ?_)
    · have hf := if_f hf c10
      refine lv_iload_n hx hb dX11_view_28 rfl (lv_at hl 2 rfl) ?_
      refine lv_iconst (v := 0) hx hb dX11_view_29 (by decide) ?_
      refine lv_aload_n hx hb dX11_view_30 rfl (lv_at hl 0 rfl) ?_
      refine va_get (D := G.1) (cl := vwCl) (ci := 11) (v := .int (a8.1 21)) (C := RX11) (T := TX11) (N := 29) hx hb hts inG11 hown hK hP 0 rfl rfl 21 (Nat.le_of_ble_eq_true rfl) (hts _ q1062) (fun _ h9 => h9) rfl dX11_view_31 ?_
      refine lv_iconst (v := 1) hx hb dX11_view_34 (by decide) ?_
      refine lv_isub hx hb dX11_view_35 ?_
      refine kPS (tX11_isIn l G p1 (0 : Int32) ((a8.1 21) - (1 : Int32)) _ rfl) ⟨hx, hb, hml, hown, hts⟩ q1137 q1138 q108 q1139 okyX11_isIn ⟨Nat.le_of_ble_eq_true rfl, Nat.le_of_ble_eq_true rfl⟩ hP hG hS [] rfl hl.1 rfl (Nat.le_of_ble_eq_true rfl) dX11_view_36 ⟨Nat.zero_le _, Nat.zero_le _⟩ (fun locs hS => ?_)
      refine W.eq (g2 := F0 m 39 ls [.int (bi (fX11_isIn p1 (0 : Int32) ((a8.1 21) - (1 : Int32))))]) rfl ?_
      refine lv_if_eq (tgt := 51) hx hb dX11_view_39 (by decide) (fun c11 => ?_) (fun c11 => ?_)
      · have hf := if_t hf c11
        refine lv_iconst (v := -1) hx hb dX11_view_51 (by decide) ?_
        have hf := Option.some.inj hf
        subst hf
        exact eRet hx hb hr hlocks hP hD hS ⟨rfl, rfl⟩ dX11_view_52
      · have hf := if_f hf c11
        refine lv_aload_n hx hb dX11_view_42 rfl (lv_at hl 0 rfl) ?_
        refine va_get (D := G.1) (cl := vwCl) (ci := 11) (v := .ref ad_t_view) (C := RX11) (T := TX11) (N := 29) hx hb hts inG11 hown hK hP 0 rfl rfl 20 (Nat.le_of_ble_eq_true rfl) (hts _ q1061) (fun _ h9 => h9) rfl dX11_view_43 ?_
        refine lv_iload_n hx hb dX11_view_46 rfl (lv_at hl 2 rfl) ?_
        obtain ⟨h12, hf⟩ := gd_some hf
        refine va_iald (D := G.1) (cl := vwCl) hx hb hK hP 6 0 rfl rfl (gi_in h12) dX11_view_47 ?_
        refine lv_goto (tgt := 52) hx hb dX11_view_48 (by decide) ?_
        have hf := Option.some.inj hf
        subst hf
        exact eRet hx hb hr hlocks hP hD hS ⟨rfl, rfl⟩ dX11_view_52
    · have hf := if_t hf c10
      refine lv_aload_n hx hb dX11_view_21 rfl (lv_at hl 0 rfl) ?_
      refine va_get (D := G.1) (cl := vwCl) (ci := 11) (v := .int (a8.1 21)) (C := RX11) (T := TX11) (N := 29) hx hb hts inG11 hown hK hP 0 rfl rfl 21 (Nat.le_of_ble_eq_true rfl) (hts _ q1062) (fun _ h9 => h9) rfl dX11_view_22 ?_
      refine lv_goto (tgt := 52) hx hb dX11_view_25 (by decide) ?_
      have hf := Option.some.inj hf
      subst hf
      exact eRet hx hb hr hlocks hP hD hS ⟨rfl, rfl⟩ dX11_view_52
  · have hf := if_t hf c7
    refine lv_iconst (v := -1) hx hb dX11_view_9 (by decide) ?_
    have hf := Option.some.inj hf
    subst hf
    exact eRet hx hb hr hlocks hP hD hS ⟨rfl, rfl⟩ dX11_view_10

def fX0_clear (t_words : Nat → Int32) (t_spares : Nat → Int32) : Option ((Nat → Int32) × (Nat → Int32)) :=
  bn (fJ7_fill_53178 1056 t_words (0 : Int32)) fun a1 => bn (fJ7_fill_53178 33 t_spares (0 : Int32)) fun a3 => some (a1, a3)
set_option maxRecDepth 100000 in
set_option maxHeartbeats 4000000 in
theorem tX0_clear (l : Launch) (G : gG) (ad_t ad_t_spec ad_t_words ad_t_spares : Nat) (t_words : Nat → Int32) (t_spares : Nat → Int32) (o : (Nat → Int32) × (Nat → Int32)) (hf : fX0_clear t_words t_spares = some o) : mE G l yX0_clear cX0_clear 1 none 1 23 0 0 [.ref ad_t] [(ad_t, .inr (0, [.ref ad_t_spec, .ref ad_t_words, .ref ad_t_spares])), (ad_t_words, .inl (G.2.1 0, 1056, .inl t_words)), (ad_t_spares, .inl (G.2.1 0, 33, .inl t_spares))] (fun r w => r = none ∧ w = [(ad_t, .inr (0, [.ref ad_t_spec, .ref ad_t_words, .ref ad_t_spares])), (ad_t_words, .inl (G.2.1 0, 1056, .inl o.1)), (ad_t_spares, .inl (G.2.1 0, 33, .inl o.2))]) := by
  refine mE_of (by decide) (Nat.le_of_ble_eq_true rfl) ?_
  intro p e s m below meth cd ls A hx hb hml hown hts hr hlocks hnm hl hA hP hD hS hG
  have hK := hG.1
  have hown : s.vm.findClass RX0 = some m.cls := hown
  have hl : lv_has ls 1 [(0, .ref ad_t)] := hl
  have hS := hS
  unfold fX0_clear at hf
  obtain ⟨H, locs, eH, eL⟩ : ∃ (H : Heap) (locs : List Loc), H = s.heap ∧ locs = [] := ⟨_, _, rfl, rfl⟩
  have hP : va_P G.1 vwCl [(ad_t, .inr (0, [.ref ad_t_spec, .ref ad_t_words, .ref ad_t_spares])), (ad_t_words, .inl (G.2.1 0, 1056, .inl t_words)), (ad_t_spares, .inl (G.2.1 0, 33, .inl t_spares))] H := eH ▸ hP
  have hS : va_S A s.heap H locs := by rw [eH, eL]; exact hS
  suffices hgo : wG p l e 1 23 s m [.ref ad_t] below meth cd H locs (eQ G A (fun r w => r = none ∧ w = [(ad_t, .inr (0, [.ref ad_t_spec, .ref ad_t_words, .ref ad_t_spares])), (ad_t_words, .inl (G.2.1 0, 1056, .inl o.1)), (ad_t_spares, .inl (G.2.1 0, 33, .inl o.2))])) A (F0 m 0 ls []) by rw [eH, eL] at hgo; exact hgo
  clear eH eL
  refine lv_aload_n hx hb dX0_clear_0 rfl (lv_at hl 0 rfl) ?_
  refine va_get (D := G.1) (cl := vwCl) (ci := 0) (v := .ref ad_t_words) (C := RX0) (T := TX0) (N := 3) hx hb hts inG0 hown hK hP 0 rfl rfl 1 (Nat.le_of_ble_eq_true rfl) (hts _ q190) (fun _ h9 => h9) rfl dX0_clear_1 ?_
  refine lv_iconst (v := 0) hx hb dX0_clear_4 (by decide) ?_
  obtain ⟨a5, h6, hf⟩ := bn_some hf
  refine kES (tJ7_fill_53178 l G 1056 ad_t_words t_words (0 : Int32) a5 h6) ⟨hx, hb, hml, hown, hts⟩ q768 q769 q113 q770 okyJ7_fill_53178 ⟨Nat.le_of_ble_eq_true rfl, Nat.le_of_ble_eq_true rfl⟩ hP hD hG hS hA [1] [0, 2] rfl (wr := [(ad_t, .inr (0, [.ref ad_t_spec, .ref ad_t_words, .ref ad_t_spares])), (ad_t_spares, .inl (G.2.1 0, 33, .inl t_spares))]) rfl (by decide) hl.1 rfl (Nat.le_of_ble_eq_true rfl) dX0_clear_5 ⟨Nat.zero_le _, Nat.zero_le _⟩ (fun r w H locs hR hP hD hS => ?_)
  obtain ⟨rfl, rfl⟩ := hR
  have hP : va_P G.1 vwCl [(ad_t, .inr (0, [.ref ad_t_spec, .ref ad_t_words, .ref ad_t_spares])), (ad_t_spares, .inl (G.2.1 0, 33, .inl t_spares)), (ad_t_words, .inl (G.2.1 0, 1056, .inl a5))] H := hP
  have hD : va_D A [(ad_t, .inr (0, [.ref ad_t_spec, .ref ad_t_words, .ref ad_t_spares])), (ad_t_spares, .inl (G.2.1 0, 33, .inl t_spares)), (ad_t_words, .inl (G.2.1 0, 1056, .inl a5))] := hD
  refine W.eq (g2 := F0 m 8 ls []) rfl ?_
  refine lv_aload_n hx hb dX0_clear_8 rfl (lv_at hl 0 rfl) ?_
  refine va_get (D := G.1) (cl := vwCl) (ci := 0) (v := .ref ad_t_spares) (C := RX0) (T := TX0) (N := 3) hx hb hts inG0 hown hK hP 0 rfl rfl 2 (Nat.le_of_ble_eq_true rfl) (hts _ q191) (fun _ h9 => h9) rfl dX0_clear_9 ?_
  refine lv_iconst (v := 0) hx hb dX0_clear_12 (by decide) ?_
  obtain ⟨a7, h8, hf⟩ := bn_some hf
  refine kES (tJ7_fill_53178 l G 33 ad_t_spares t_spares (0 : Int32) a7 h8) ⟨hx, hb, hml, hown, hts⟩ q768 q769 q113 q770 okyJ7_fill_53178 ⟨Nat.le_of_ble_eq_true rfl, Nat.le_of_ble_eq_true rfl⟩ hP hD hG hS hA [1] [0, 2] rfl (wr := [(ad_t, .inr (0, [.ref ad_t_spec, .ref ad_t_words, .ref ad_t_spares])), (ad_t_words, .inl (G.2.1 0, 1056, .inl a5))]) rfl (by decide) hl.1 rfl (Nat.le_of_ble_eq_true rfl) dX0_clear_13 ⟨Nat.zero_le _, Nat.zero_le _⟩ (fun r w H locs hR hP hD hS => ?_)
  obtain ⟨rfl, rfl⟩ := hR
  have hP : va_P G.1 vwCl [(ad_t, .inr (0, [.ref ad_t_spec, .ref ad_t_words, .ref ad_t_spares])), (ad_t_words, .inl (G.2.1 0, 1056, .inl a5)), (ad_t_spares, .inl (G.2.1 0, 33, .inl a7))] H := hP
  have hD : va_D A [(ad_t, .inr (0, [.ref ad_t_spec, .ref ad_t_words, .ref ad_t_spares])), (ad_t_words, .inl (G.2.1 0, 1056, .inl a5)), (ad_t_spares, .inl (G.2.1 0, 33, .inl a7))] := hD
  refine W.eq (g2 := F0 m 16 ls []) rfl ?_
  have hf := Option.some.inj hf
  subst hf
  exact eRetV hx hb hr hlocks hP hD hS ⟨rfl, rfl⟩ dX0_clear_16

def fX0_copyFrom (t_specI : Nat → Int32) (t_spec_numbers : Nat → Int32) (t_spec_badRows : Nat → Int32) (t_spec_badColumns : Nat → Int32) (t_spec_badBits : Nat → Int32) (t_words : Nat → Int32) (t_spares : Nat → Int32) (p0_specI : Nat → Int32) (p0_spec_numbers : Nat → Int32) (p0_spec_badRows : Nat → Int32) (p0_spec_badColumns : Nat → Int32) (p0_spec_badBits : Nat → Int32) (p0_words : Nat → Int32) (p0_spares : Nat → Int32) : Option ((Nat → Int32) × (Nat → Int32) × (Nat → Int32) × (Nat → Int32) × (Nat → Int32) × (Nat → Int32) × (Nat → Int32)) :=
  bn (fX5_copyFrom t_specI t_spec_numbers t_spec_badRows t_spec_badColumns t_spec_badBits p0_specI p0_spec_numbers p0_spec_badRows p0_spec_badColumns p0_spec_badBits) fun a1 => some (a1.1, a1.2.1, a1.2.2.1, a1.2.2.2.1, a1.2.2.2.2, (va_cpy p0_words t_words 0 0 1056), (va_cpy p0_spares t_spares 0 0 33))
set_option maxRecDepth 100000 in
set_option maxHeartbeats 4000000 in
theorem tX0_copyFrom (l : Launch) (G : gG) (ad_t ad_t_spec ad_t_words ad_t_spares ad_t_spec_numbers ad_t_spec_badRows ad_t_spec_badColumns ad_t_spec_badBits ad_p0 ad_p0_spec ad_p0_words ad_p0_spares ad_p0_spec_numbers ad_p0_spec_badRows ad_p0_spec_badColumns ad_p0_spec_badBits : Nat) (t_specI : Nat → Int32) (t_spec_numbers : Nat → Int32) (t_spec_badRows : Nat → Int32) (t_spec_badColumns : Nat → Int32) (t_spec_badBits : Nat → Int32) (t_words : Nat → Int32) (t_spares : Nat → Int32) (p0_specI : Nat → Int32) (p0_spec_numbers : Nat → Int32) (p0_spec_badRows : Nat → Int32) (p0_spec_badColumns : Nat → Int32) (p0_spec_badBits : Nat → Int32) (p0_words : Nat → Int32) (p0_spares : Nat → Int32) (o : (Nat → Int32) × (Nat → Int32) × (Nat → Int32) × (Nat → Int32) × (Nat → Int32) × (Nat → Int32) × (Nat → Int32)) (hf : fX0_copyFrom t_specI t_spec_numbers t_spec_badRows t_spec_badColumns t_spec_badBits t_words t_spares p0_specI p0_spec_numbers p0_spec_badRows p0_spec_badColumns p0_spec_badBits p0_words p0_spares = some o) : mE G l yX0_copyFrom cX0_copyFrom 2 none 2 47 0 0 [.ref ad_t, .ref ad_p0] [(ad_t, .inr (0, [.ref ad_t_spec, .ref ad_t_words, .ref ad_t_spares])), (ad_t_spec, .inr (5, [.ref ad_t_spec_numbers, .ref ad_t_spec_badRows, .ref ad_t_spec_badColumns, .ref ad_t_spec_badBits, .int (t_specI 4)])), (ad_t_spec_numbers, .inl (G.2.1 0, 9, .inl t_spec_numbers)), (ad_t_spec_badRows, .inl (G.2.1 0, 12, .inl t_spec_badRows)), (ad_t_spec_badColumns, .inl (G.2.1 0, 12, .inl t_spec_badColumns)), (ad_t_spec_badBits, .inl (G.2.1 0, 12, .inl t_spec_badBits)), (ad_t_words, .inl (G.2.1 0, 1056, .inl t_words)), (ad_t_spares, .inl (G.2.1 0, 33, .inl t_spares)), (ad_p0, .inr (0, [.ref ad_p0_spec, .ref ad_p0_words, .ref ad_p0_spares])), (ad_p0_spec, .inr (5, [.ref ad_p0_spec_numbers, .ref ad_p0_spec_badRows, .ref ad_p0_spec_badColumns, .ref ad_p0_spec_badBits, .int (p0_specI 4)])), (ad_p0_spec_numbers, .inl (G.2.1 0, 9, .inl p0_spec_numbers)), (ad_p0_spec_badRows, .inl (G.2.1 0, 12, .inl p0_spec_badRows)), (ad_p0_spec_badColumns, .inl (G.2.1 0, 12, .inl p0_spec_badColumns)), (ad_p0_spec_badBits, .inl (G.2.1 0, 12, .inl p0_spec_badBits)), (ad_p0_words, .inl (G.2.1 0, 1056, .inl p0_words)), (ad_p0_spares, .inl (G.2.1 0, 33, .inl p0_spares))] (fun r w => r = none ∧ w = [(ad_t, .inr (0, [.ref ad_t_spec, .ref ad_t_words, .ref ad_t_spares])), (ad_t_spec, .inr (5, [.ref ad_t_spec_numbers, .ref ad_t_spec_badRows, .ref ad_t_spec_badColumns, .ref ad_t_spec_badBits, .int (o.1 4)])), (ad_t_spec_numbers, .inl (G.2.1 0, 9, .inl o.2.1)), (ad_t_spec_badRows, .inl (G.2.1 0, 12, .inl o.2.2.1)), (ad_t_spec_badColumns, .inl (G.2.1 0, 12, .inl o.2.2.2.1)), (ad_t_spec_badBits, .inl (G.2.1 0, 12, .inl o.2.2.2.2.1)), (ad_t_words, .inl (G.2.1 0, 1056, .inl o.2.2.2.2.2.1)), (ad_t_spares, .inl (G.2.1 0, 33, .inl o.2.2.2.2.2.2)), (ad_p0, .inr (0, [.ref ad_p0_spec, .ref ad_p0_words, .ref ad_p0_spares])), (ad_p0_spec, .inr (5, [.ref ad_p0_spec_numbers, .ref ad_p0_spec_badRows, .ref ad_p0_spec_badColumns, .ref ad_p0_spec_badBits, .int (p0_specI 4)])), (ad_p0_spec_numbers, .inl (G.2.1 0, 9, .inl p0_spec_numbers)), (ad_p0_spec_badRows, .inl (G.2.1 0, 12, .inl p0_spec_badRows)), (ad_p0_spec_badColumns, .inl (G.2.1 0, 12, .inl p0_spec_badColumns)), (ad_p0_spec_badBits, .inl (G.2.1 0, 12, .inl p0_spec_badBits)), (ad_p0_words, .inl (G.2.1 0, 1056, .inl p0_words)), (ad_p0_spares, .inl (G.2.1 0, 33, .inl p0_spares))]) := by
  refine mE_of (by decide) (Nat.le_of_ble_eq_true rfl) ?_
  intro p e s m below meth cd ls A hx hb hml hown hts hr hlocks hnm hl hA hP hD hS hG
  have hK := hG.1
  have hown : s.vm.findClass RX0 = some m.cls := hown
  have hl : lv_has ls 2 [(0, .ref ad_t), (1, .ref ad_p0)] := hl
  have hS := hS
  unfold fX0_copyFrom at hf
  obtain ⟨H, locs, eH, eL⟩ : ∃ (H : Heap) (locs : List Loc), H = s.heap ∧ locs = [] := ⟨_, _, rfl, rfl⟩
  have hP : va_P G.1 vwCl [(ad_t, .inr (0, [.ref ad_t_spec, .ref ad_t_words, .ref ad_t_spares])), (ad_t_spec, .inr (5, [.ref ad_t_spec_numbers, .ref ad_t_spec_badRows, .ref ad_t_spec_badColumns, .ref ad_t_spec_badBits, .int (t_specI 4)])), (ad_t_spec_numbers, .inl (G.2.1 0, 9, .inl t_spec_numbers)), (ad_t_spec_badRows, .inl (G.2.1 0, 12, .inl t_spec_badRows)), (ad_t_spec_badColumns, .inl (G.2.1 0, 12, .inl t_spec_badColumns)), (ad_t_spec_badBits, .inl (G.2.1 0, 12, .inl t_spec_badBits)), (ad_t_words, .inl (G.2.1 0, 1056, .inl t_words)), (ad_t_spares, .inl (G.2.1 0, 33, .inl t_spares)), (ad_p0, .inr (0, [.ref ad_p0_spec, .ref ad_p0_words, .ref ad_p0_spares])), (ad_p0_spec, .inr (5, [.ref ad_p0_spec_numbers, .ref ad_p0_spec_badRows, .ref ad_p0_spec_badColumns, .ref ad_p0_spec_badBits, .int (p0_specI 4)])), (ad_p0_spec_numbers, .inl (G.2.1 0, 9, .inl p0_spec_numbers)), (ad_p0_spec_badRows, .inl (G.2.1 0, 12, .inl p0_spec_badRows)), (ad_p0_spec_badColumns, .inl (G.2.1 0, 12, .inl p0_spec_badColumns)), (ad_p0_spec_badBits, .inl (G.2.1 0, 12, .inl p0_spec_badBits)), (ad_p0_words, .inl (G.2.1 0, 1056, .inl p0_words)), (ad_p0_spares, .inl (G.2.1 0, 33, .inl p0_spares))] H := eH ▸ hP
  have hS : va_S A s.heap H locs := by rw [eH, eL]; exact hS
  suffices hgo : wG p l e 2 47 s m [.ref ad_t, .ref ad_p0] below meth cd H locs (eQ G A (fun r w => r = none ∧ w = [(ad_t, .inr (0, [.ref ad_t_spec, .ref ad_t_words, .ref ad_t_spares])), (ad_t_spec, .inr (5, [.ref ad_t_spec_numbers, .ref ad_t_spec_badRows, .ref ad_t_spec_badColumns, .ref ad_t_spec_badBits, .int (o.1 4)])), (ad_t_spec_numbers, .inl (G.2.1 0, 9, .inl o.2.1)), (ad_t_spec_badRows, .inl (G.2.1 0, 12, .inl o.2.2.1)), (ad_t_spec_badColumns, .inl (G.2.1 0, 12, .inl o.2.2.2.1)), (ad_t_spec_badBits, .inl (G.2.1 0, 12, .inl o.2.2.2.2.1)), (ad_t_words, .inl (G.2.1 0, 1056, .inl o.2.2.2.2.2.1)), (ad_t_spares, .inl (G.2.1 0, 33, .inl o.2.2.2.2.2.2)), (ad_p0, .inr (0, [.ref ad_p0_spec, .ref ad_p0_words, .ref ad_p0_spares])), (ad_p0_spec, .inr (5, [.ref ad_p0_spec_numbers, .ref ad_p0_spec_badRows, .ref ad_p0_spec_badColumns, .ref ad_p0_spec_badBits, .int (p0_specI 4)])), (ad_p0_spec_numbers, .inl (G.2.1 0, 9, .inl p0_spec_numbers)), (ad_p0_spec_badRows, .inl (G.2.1 0, 12, .inl p0_spec_badRows)), (ad_p0_spec_badColumns, .inl (G.2.1 0, 12, .inl p0_spec_badColumns)), (ad_p0_spec_badBits, .inl (G.2.1 0, 12, .inl p0_spec_badBits)), (ad_p0_words, .inl (G.2.1 0, 1056, .inl p0_words)), (ad_p0_spares, .inl (G.2.1 0, 33, .inl p0_spares))])) A (F0 m 0 ls []) by rw [eH, eL] at hgo; exact hgo
  clear eH eL
  refine lv_aload_n hx hb dX0_copyFrom_0 rfl (lv_at hl 0 rfl) ?_
  refine va_get (D := G.1) (cl := vwCl) (ci := 0) (v := .ref ad_t_spec) (C := RX0) (T := TX0) (N := 3) hx hb hts inG0 hown hK hP 0 rfl rfl 0 (Nat.le_of_ble_eq_true rfl) (hts _ q187) (fun _ h9 => h9) rfl dX0_copyFrom_1 ?_
  refine lv_aload_n hx hb dX0_copyFrom_4 rfl (lv_at hl 1 rfl) ?_
  refine va_get (D := G.1) (cl := vwCl) (ci := 0) (v := .ref ad_p0_spec) (C := RX0) (T := TX0) (N := 3) hx hb hts inG0 hown hK hP 8 rfl rfl 0 (Nat.le_of_ble_eq_true rfl) (hts _ q187) (fun _ h9 => h9) rfl dX0_copyFrom_5 ?_
  obtain ⟨a3, h4, hf⟩ := bn_some hf
  refine kEVN (tX5_copyFrom l G ad_t_spec ad_t_spec_numbers ad_t_spec_badRows ad_t_spec_badColumns ad_t_spec_badBits ad_p0_spec ad_p0_spec_numbers ad_p0_spec_badRows ad_p0_spec_badColumns ad_p0_spec_badBits t_specI t_spec_numbers t_spec_badRows t_spec_badColumns t_spec_badBits p0_specI p0_spec_numbers p0_spec_badRows p0_spec_badColumns p0_spec_badBits a3 h4) ⟨hx, hb, hml, hown, hts⟩ n_mn_X0_31 q762 q24 q97 q763 okyX5_copyFrom ⟨Nat.le_of_ble_eq_true rfl, Nat.le_of_ble_eq_true rfl⟩ hP hD hG hS hA [1, 2, 3, 4, 5, 9, 10, 11, 12, 13] [0, 6, 7, 8, 14, 15] rfl (wr := [(ad_t, .inr (0, [.ref ad_t_spec, .ref ad_t_words, .ref ad_t_spares])), (ad_t_words, .inl (G.2.1 0, 1056, .inl t_words)), (ad_t_spares, .inl (G.2.1 0, 33, .inl t_spares)), (ad_p0, .inr (0, [.ref ad_p0_spec, .ref ad_p0_words, .ref ad_p0_spares])), (ad_p0_words, .inl (G.2.1 0, 1056, .inl p0_words)), (ad_p0_spares, .inl (G.2.1 0, 33, .inl p0_spares))]) rfl (by decide) 1 rfl rfl hl.1 rfl (Nat.le_of_ble_eq_true rfl) dX0_copyFrom_8 ⟨Nat.zero_le _, Nat.zero_le _⟩ (fun r w H locs hR hP hD hS => ?_)
  obtain ⟨rfl, rfl⟩ := hR
  have hP : va_P G.1 vwCl [(ad_t, .inr (0, [.ref ad_t_spec, .ref ad_t_words, .ref ad_t_spares])), (ad_t_words, .inl (G.2.1 0, 1056, .inl t_words)), (ad_t_spares, .inl (G.2.1 0, 33, .inl t_spares)), (ad_p0, .inr (0, [.ref ad_p0_spec, .ref ad_p0_words, .ref ad_p0_spares])), (ad_p0_words, .inl (G.2.1 0, 1056, .inl p0_words)), (ad_p0_spares, .inl (G.2.1 0, 33, .inl p0_spares)), (ad_t_spec, .inr (5, [.ref ad_t_spec_numbers, .ref ad_t_spec_badRows, .ref ad_t_spec_badColumns, .ref ad_t_spec_badBits, .int (a3.1 4)])), (ad_t_spec_numbers, .inl (G.2.1 0, 9, .inl a3.2.1)), (ad_t_spec_badRows, .inl (G.2.1 0, 12, .inl a3.2.2.1)), (ad_t_spec_badColumns, .inl (G.2.1 0, 12, .inl a3.2.2.2.1)), (ad_t_spec_badBits, .inl (G.2.1 0, 12, .inl a3.2.2.2.2)), (ad_p0_spec, .inr (5, [.ref ad_p0_spec_numbers, .ref ad_p0_spec_badRows, .ref ad_p0_spec_badColumns, .ref ad_p0_spec_badBits, .int (p0_specI 4)])), (ad_p0_spec_numbers, .inl (G.2.1 0, 9, .inl p0_spec_numbers)), (ad_p0_spec_badRows, .inl (G.2.1 0, 12, .inl p0_spec_badRows)), (ad_p0_spec_badColumns, .inl (G.2.1 0, 12, .inl p0_spec_badColumns)), (ad_p0_spec_badBits, .inl (G.2.1 0, 12, .inl p0_spec_badBits))] H := hP
  have hD : va_D A [(ad_t, .inr (0, [.ref ad_t_spec, .ref ad_t_words, .ref ad_t_spares])), (ad_t_words, .inl (G.2.1 0, 1056, .inl t_words)), (ad_t_spares, .inl (G.2.1 0, 33, .inl t_spares)), (ad_p0, .inr (0, [.ref ad_p0_spec, .ref ad_p0_words, .ref ad_p0_spares])), (ad_p0_words, .inl (G.2.1 0, 1056, .inl p0_words)), (ad_p0_spares, .inl (G.2.1 0, 33, .inl p0_spares)), (ad_t_spec, .inr (5, [.ref ad_t_spec_numbers, .ref ad_t_spec_badRows, .ref ad_t_spec_badColumns, .ref ad_t_spec_badBits, .int (a3.1 4)])), (ad_t_spec_numbers, .inl (G.2.1 0, 9, .inl a3.2.1)), (ad_t_spec_badRows, .inl (G.2.1 0, 12, .inl a3.2.2.1)), (ad_t_spec_badColumns, .inl (G.2.1 0, 12, .inl a3.2.2.2.1)), (ad_t_spec_badBits, .inl (G.2.1 0, 12, .inl a3.2.2.2.2)), (ad_p0_spec, .inr (5, [.ref ad_p0_spec_numbers, .ref ad_p0_spec_badRows, .ref ad_p0_spec_badColumns, .ref ad_p0_spec_badBits, .int (p0_specI 4)])), (ad_p0_spec_numbers, .inl (G.2.1 0, 9, .inl p0_spec_numbers)), (ad_p0_spec_badRows, .inl (G.2.1 0, 12, .inl p0_spec_badRows)), (ad_p0_spec_badColumns, .inl (G.2.1 0, 12, .inl p0_spec_badColumns)), (ad_p0_spec_badBits, .inl (G.2.1 0, 12, .inl p0_spec_badBits))] := hD
  refine W.eq (g2 := F0 m 11 ls []) rfl ?_
  refine lv_aload_n hx hb dX0_copyFrom_11 rfl (lv_at hl 1 rfl) ?_
  refine va_get (D := G.1) (cl := vwCl) (ci := 0) (v := .ref ad_p0_words) (C := RX0) (T := TX0) (N := 3) hx hb hts inG0 hown hK hP 3 rfl rfl 1 (Nat.le_of_ble_eq_true rfl) (hts _ q190) (fun _ h9 => h9) rfl dX0_copyFrom_12 ?_
  refine lv_iconst (v := 0) hx hb dX0_copyFrom_15 (by decide) ?_
  refine lv_aload_n hx hb dX0_copyFrom_16 rfl (lv_at hl 0 rfl) ?_
  refine va_get (D := G.1) (cl := vwCl) (ci := 0) (v := .ref ad_t_words) (C := RX0) (T := TX0) (N := 3) hx hb hts inG0 hown hK hP 0 rfl rfl 1 (Nat.le_of_ble_eq_true rfl) (hts _ q190) (fun _ h9 => h9) rfl dX0_copyFrom_17 ?_
  refine lv_iconst (v := 0) hx hb dX0_copyFrom_20 (by decide) ?_
  refine lv_sipush (v := 1056) hx hb dX0_copyFrom_21 (by decide) ?_
  refine va_copyi (D := G.1) (cl := vwCl) hx hb (hml.trans hl.1.symm) hown (hts _ q806) (hts _ q148) (hts _ q147) (hts _ q98) hK hP hD hS 4 1 0 0 rfl rfl rfl rfl rfl (by decide) (by decide) (by decide) (by decide) (by decide) (fun _ _ => rfl) (Nat.le_of_ble_eq_true rfl) (by decide) dX0_copyFrom_24 (fun H locs hP hD hS => ?_)
  have hP : va_P G.1 vwCl [(ad_t, .inr (0, [.ref ad_t_spec, .ref ad_t_words, .ref ad_t_spares])), (ad_t_words, .inl (G.2.1 0, 1056, .inl (va_cpy p0_words t_words 0 0 1056))), (ad_t_spares, .inl (G.2.1 0, 33, .inl t_spares)), (ad_p0, .inr (0, [.ref ad_p0_spec, .ref ad_p0_words, .ref ad_p0_spares])), (ad_p0_words, .inl (G.2.1 0, 1056, .inl p0_words)), (ad_p0_spares, .inl (G.2.1 0, 33, .inl p0_spares)), (ad_t_spec, .inr (5, [.ref ad_t_spec_numbers, .ref ad_t_spec_badRows, .ref ad_t_spec_badColumns, .ref ad_t_spec_badBits, .int (a3.1 4)])), (ad_t_spec_numbers, .inl (G.2.1 0, 9, .inl a3.2.1)), (ad_t_spec_badRows, .inl (G.2.1 0, 12, .inl a3.2.2.1)), (ad_t_spec_badColumns, .inl (G.2.1 0, 12, .inl a3.2.2.2.1)), (ad_t_spec_badBits, .inl (G.2.1 0, 12, .inl a3.2.2.2.2)), (ad_p0_spec, .inr (5, [.ref ad_p0_spec_numbers, .ref ad_p0_spec_badRows, .ref ad_p0_spec_badColumns, .ref ad_p0_spec_badBits, .int (p0_specI 4)])), (ad_p0_spec_numbers, .inl (G.2.1 0, 9, .inl p0_spec_numbers)), (ad_p0_spec_badRows, .inl (G.2.1 0, 12, .inl p0_spec_badRows)), (ad_p0_spec_badColumns, .inl (G.2.1 0, 12, .inl p0_spec_badColumns)), (ad_p0_spec_badBits, .inl (G.2.1 0, 12, .inl p0_spec_badBits))] H := hP
  have hD : va_D A [(ad_t, .inr (0, [.ref ad_t_spec, .ref ad_t_words, .ref ad_t_spares])), (ad_t_words, .inl (G.2.1 0, 1056, .inl (va_cpy p0_words t_words 0 0 1056))), (ad_t_spares, .inl (G.2.1 0, 33, .inl t_spares)), (ad_p0, .inr (0, [.ref ad_p0_spec, .ref ad_p0_words, .ref ad_p0_spares])), (ad_p0_words, .inl (G.2.1 0, 1056, .inl p0_words)), (ad_p0_spares, .inl (G.2.1 0, 33, .inl p0_spares)), (ad_t_spec, .inr (5, [.ref ad_t_spec_numbers, .ref ad_t_spec_badRows, .ref ad_t_spec_badColumns, .ref ad_t_spec_badBits, .int (a3.1 4)])), (ad_t_spec_numbers, .inl (G.2.1 0, 9, .inl a3.2.1)), (ad_t_spec_badRows, .inl (G.2.1 0, 12, .inl a3.2.2.1)), (ad_t_spec_badColumns, .inl (G.2.1 0, 12, .inl a3.2.2.2.1)), (ad_t_spec_badBits, .inl (G.2.1 0, 12, .inl a3.2.2.2.2)), (ad_p0_spec, .inr (5, [.ref ad_p0_spec_numbers, .ref ad_p0_spec_badRows, .ref ad_p0_spec_badColumns, .ref ad_p0_spec_badBits, .int (p0_specI 4)])), (ad_p0_spec_numbers, .inl (G.2.1 0, 9, .inl p0_spec_numbers)), (ad_p0_spec_badRows, .inl (G.2.1 0, 12, .inl p0_spec_badRows)), (ad_p0_spec_badColumns, .inl (G.2.1 0, 12, .inl p0_spec_badColumns)), (ad_p0_spec_badBits, .inl (G.2.1 0, 12, .inl p0_spec_badBits))] := hD
  refine W.eq (g2 := F0 m 27 ls []) rfl ?_
  refine lv_aload_n hx hb dX0_copyFrom_27 rfl (lv_at hl 1 rfl) ?_
  refine va_get (D := G.1) (cl := vwCl) (ci := 0) (v := .ref ad_p0_spares) (C := RX0) (T := TX0) (N := 3) hx hb hts inG0 hown hK hP 3 rfl rfl 2 (Nat.le_of_ble_eq_true rfl) (hts _ q191) (fun _ h9 => h9) rfl dX0_copyFrom_28 ?_
  refine lv_iconst (v := 0) hx hb dX0_copyFrom_31 (by decide) ?_
  refine lv_aload_n hx hb dX0_copyFrom_32 rfl (lv_at hl 0 rfl) ?_
  refine va_get (D := G.1) (cl := vwCl) (ci := 0) (v := .ref ad_t_spares) (C := RX0) (T := TX0) (N := 3) hx hb hts inG0 hown hK hP 0 rfl rfl 2 (Nat.le_of_ble_eq_true rfl) (hts _ q191) (fun _ h9 => h9) rfl dX0_copyFrom_33 ?_
  refine lv_iconst (v := 0) hx hb dX0_copyFrom_36 (by decide) ?_
  refine lv_bipush (v := 33) hx hb dX0_copyFrom_37 (by decide) ?_
  refine va_copyi (D := G.1) (cl := vwCl) hx hb (hml.trans hl.1.symm) hown (hts _ q806) (hts _ q148) (hts _ q147) (hts _ q98) hK hP hD hS 5 2 0 0 rfl rfl rfl rfl rfl (by decide) (by decide) (by decide) (by decide) (by decide) (fun _ _ => rfl) (Nat.le_of_ble_eq_true rfl) (by decide) dX0_copyFrom_39 (fun H locs hP hD hS => ?_)
  have hP : va_P G.1 vwCl [(ad_t, .inr (0, [.ref ad_t_spec, .ref ad_t_words, .ref ad_t_spares])), (ad_t_words, .inl (G.2.1 0, 1056, .inl (va_cpy p0_words t_words 0 0 1056))), (ad_t_spares, .inl (G.2.1 0, 33, .inl (va_cpy p0_spares t_spares 0 0 33))), (ad_p0, .inr (0, [.ref ad_p0_spec, .ref ad_p0_words, .ref ad_p0_spares])), (ad_p0_words, .inl (G.2.1 0, 1056, .inl p0_words)), (ad_p0_spares, .inl (G.2.1 0, 33, .inl p0_spares)), (ad_t_spec, .inr (5, [.ref ad_t_spec_numbers, .ref ad_t_spec_badRows, .ref ad_t_spec_badColumns, .ref ad_t_spec_badBits, .int (a3.1 4)])), (ad_t_spec_numbers, .inl (G.2.1 0, 9, .inl a3.2.1)), (ad_t_spec_badRows, .inl (G.2.1 0, 12, .inl a3.2.2.1)), (ad_t_spec_badColumns, .inl (G.2.1 0, 12, .inl a3.2.2.2.1)), (ad_t_spec_badBits, .inl (G.2.1 0, 12, .inl a3.2.2.2.2)), (ad_p0_spec, .inr (5, [.ref ad_p0_spec_numbers, .ref ad_p0_spec_badRows, .ref ad_p0_spec_badColumns, .ref ad_p0_spec_badBits, .int (p0_specI 4)])), (ad_p0_spec_numbers, .inl (G.2.1 0, 9, .inl p0_spec_numbers)), (ad_p0_spec_badRows, .inl (G.2.1 0, 12, .inl p0_spec_badRows)), (ad_p0_spec_badColumns, .inl (G.2.1 0, 12, .inl p0_spec_badColumns)), (ad_p0_spec_badBits, .inl (G.2.1 0, 12, .inl p0_spec_badBits))] H := hP
  have hD : va_D A [(ad_t, .inr (0, [.ref ad_t_spec, .ref ad_t_words, .ref ad_t_spares])), (ad_t_words, .inl (G.2.1 0, 1056, .inl (va_cpy p0_words t_words 0 0 1056))), (ad_t_spares, .inl (G.2.1 0, 33, .inl (va_cpy p0_spares t_spares 0 0 33))), (ad_p0, .inr (0, [.ref ad_p0_spec, .ref ad_p0_words, .ref ad_p0_spares])), (ad_p0_words, .inl (G.2.1 0, 1056, .inl p0_words)), (ad_p0_spares, .inl (G.2.1 0, 33, .inl p0_spares)), (ad_t_spec, .inr (5, [.ref ad_t_spec_numbers, .ref ad_t_spec_badRows, .ref ad_t_spec_badColumns, .ref ad_t_spec_badBits, .int (a3.1 4)])), (ad_t_spec_numbers, .inl (G.2.1 0, 9, .inl a3.2.1)), (ad_t_spec_badRows, .inl (G.2.1 0, 12, .inl a3.2.2.1)), (ad_t_spec_badColumns, .inl (G.2.1 0, 12, .inl a3.2.2.2.1)), (ad_t_spec_badBits, .inl (G.2.1 0, 12, .inl a3.2.2.2.2)), (ad_p0_spec, .inr (5, [.ref ad_p0_spec_numbers, .ref ad_p0_spec_badRows, .ref ad_p0_spec_badColumns, .ref ad_p0_spec_badBits, .int (p0_specI 4)])), (ad_p0_spec_numbers, .inl (G.2.1 0, 9, .inl p0_spec_numbers)), (ad_p0_spec_badRows, .inl (G.2.1 0, 12, .inl p0_spec_badRows)), (ad_p0_spec_badColumns, .inl (G.2.1 0, 12, .inl p0_spec_badColumns)), (ad_p0_spec_badBits, .inl (G.2.1 0, 12, .inl p0_spec_badBits))] := hD
  refine W.eq (g2 := F0 m 42 ls []) rfl ?_
  have hf := Option.some.inj hf
  subst hf
  have hP := hP.sub (ws' := [(ad_t, .inr (0, [.ref ad_t_spec, .ref ad_t_words, .ref ad_t_spares])), (ad_t_spec, .inr (5, [.ref ad_t_spec_numbers, .ref ad_t_spec_badRows, .ref ad_t_spec_badColumns, .ref ad_t_spec_badBits, .int (a3.1 4)])), (ad_t_spec_numbers, .inl (G.2.1 0, 9, .inl a3.2.1)), (ad_t_spec_badRows, .inl (G.2.1 0, 12, .inl a3.2.2.1)), (ad_t_spec_badColumns, .inl (G.2.1 0, 12, .inl a3.2.2.2.1)), (ad_t_spec_badBits, .inl (G.2.1 0, 12, .inl a3.2.2.2.2)), (ad_t_words, .inl (G.2.1 0, 1056, .inl (va_cpy p0_words t_words 0 0 1056))), (ad_t_spares, .inl (G.2.1 0, 33, .inl (va_cpy p0_spares t_spares 0 0 33))), (ad_p0, .inr (0, [.ref ad_p0_spec, .ref ad_p0_words, .ref ad_p0_spares])), (ad_p0_spec, .inr (5, [.ref ad_p0_spec_numbers, .ref ad_p0_spec_badRows, .ref ad_p0_spec_badColumns, .ref ad_p0_spec_badBits, .int (p0_specI 4)])), (ad_p0_spec_numbers, .inl (G.2.1 0, 9, .inl p0_spec_numbers)), (ad_p0_spec_badRows, .inl (G.2.1 0, 12, .inl p0_spec_badRows)), (ad_p0_spec_badColumns, .inl (G.2.1 0, 12, .inl p0_spec_badColumns)), (ad_p0_spec_badBits, .inl (G.2.1 0, 12, .inl p0_spec_badBits)), (ad_p0_words, .inl (G.2.1 0, 1056, .inl p0_words)), (ad_p0_spares, .inl (G.2.1 0, 33, .inl p0_spares))]) [0, 6, 7, 8, 9, 10, 1, 2, 3, 11, 12, 13, 14, 15, 4, 5] rfl
  have hD := hD.sub (ws' := [(ad_t, .inr (0, [.ref ad_t_spec, .ref ad_t_words, .ref ad_t_spares])), (ad_t_spec, .inr (5, [.ref ad_t_spec_numbers, .ref ad_t_spec_badRows, .ref ad_t_spec_badColumns, .ref ad_t_spec_badBits, .int (a3.1 4)])), (ad_t_spec_numbers, .inl (G.2.1 0, 9, .inl a3.2.1)), (ad_t_spec_badRows, .inl (G.2.1 0, 12, .inl a3.2.2.1)), (ad_t_spec_badColumns, .inl (G.2.1 0, 12, .inl a3.2.2.2.1)), (ad_t_spec_badBits, .inl (G.2.1 0, 12, .inl a3.2.2.2.2)), (ad_t_words, .inl (G.2.1 0, 1056, .inl (va_cpy p0_words t_words 0 0 1056))), (ad_t_spares, .inl (G.2.1 0, 33, .inl (va_cpy p0_spares t_spares 0 0 33))), (ad_p0, .inr (0, [.ref ad_p0_spec, .ref ad_p0_words, .ref ad_p0_spares])), (ad_p0_spec, .inr (5, [.ref ad_p0_spec_numbers, .ref ad_p0_spec_badRows, .ref ad_p0_spec_badColumns, .ref ad_p0_spec_badBits, .int (p0_specI 4)])), (ad_p0_spec_numbers, .inl (G.2.1 0, 9, .inl p0_spec_numbers)), (ad_p0_spec_badRows, .inl (G.2.1 0, 12, .inl p0_spec_badRows)), (ad_p0_spec_badColumns, .inl (G.2.1 0, 12, .inl p0_spec_badColumns)), (ad_p0_spec_badBits, .inl (G.2.1 0, 12, .inl p0_spec_badBits)), (ad_p0_words, .inl (G.2.1 0, 1056, .inl p0_words)), (ad_p0_spares, .inl (G.2.1 0, 33, .inl p0_spares))]) [0, 6, 7, 8, 9, 10, 1, 2, 3, 11, 12, 13, 14, 15, 4, 5] (by decide) rfl
  exact eRetV hx hb hr hlocks hP hD hS ⟨rfl, rfl⟩ dX0_copyFrom_42

def fX0_putSpareBit (t_spares : Nat → Int32) (p0 : Int32) (p1 : Int32) (p2 : Int32) : Option ((Nat → Int32)) :=
  (if ((p0 * (2 : Int32)) + p1) < 0 then some t_spares else (if (33 : Int32) ≤ (((p0 * (2 : Int32)) + p1) >>> ((5 : Int32) &&& 31)) then some t_spares else gd (gi (((p0 * (2 : Int32)) + p1) >>> ((5 : Int32) &&& 31)) 33) (gd (gi (((p0 * (2 : Int32)) + p1) >>> ((5 : Int32) &&& 31)) 33) (some (upd t_spares (((p0 * (2 : Int32)) + p1) >>> ((5 : Int32) &&& 31)).toNatClampNeg (fX0_withBit (t_spares (((p0 * (2 : Int32)) + p1) >>> ((5 : Int32) &&& 31)).toNatClampNeg) (((p0 * (2 : Int32)) + p1) &&& (31 : Int32)) p2))))))
set_option maxRecDepth 100000 in
set_option maxHeartbeats 4000000 in
theorem tX0_putSpareBit (l : Launch) (G : gG) (ad_t ad_t_spec ad_t_words ad_t_spares : Nat) (t_spares : Nat → Int32) (p0 : Int32) (p1 : Int32) (p2 : Int32) (o : (Nat → Int32)) (hf : fX0_putSpareBit t_spares p0 p1 p2 = some o) : mE G l yX0_putSpareBit cX0_putSpareBit 5 none 1 22 0 0 [.ref ad_t, .int p0, .int p1, .int p2] [(ad_t, .inr (0, [.ref ad_t_spec, .ref ad_t_words, .ref ad_t_spares])), (ad_t_spares, .inl (G.2.1 0, 33, .inl t_spares))] (fun r w => r = none ∧ w = [(ad_t, .inr (0, [.ref ad_t_spec, .ref ad_t_words, .ref ad_t_spares])), (ad_t_spares, .inl (G.2.1 0, 33, .inl o))]) := by
  refine mE_of (by decide) (Nat.le_of_ble_eq_true rfl) ?_
  intro p e s m below meth cd ls A hx hb hml hown hts hr hlocks hnm hl hA hP hD hS hG
  have hK := hG.1
  have hown : s.vm.findClass RX0 = some m.cls := hown
  have hl : lv_has ls 5 [(0, .ref ad_t), (1, .int p0), (2, .int p1), (3, .int p2)] := hl
  have hS := hS
  unfold fX0_putSpareBit at hf
  obtain ⟨H, locs, eH, eL⟩ : ∃ (H : Heap) (locs : List Loc), H = s.heap ∧ locs = [] := ⟨_, _, rfl, rfl⟩
  have hP : va_P G.1 vwCl [(ad_t, .inr (0, [.ref ad_t_spec, .ref ad_t_words, .ref ad_t_spares])), (ad_t_spares, .inl (G.2.1 0, 33, .inl t_spares))] H := eH ▸ hP
  have hS : va_S A s.heap H locs := by rw [eH, eL]; exact hS
  suffices hgo : wG p l e 1 22 s m [.ref ad_t, .int p0, .int p1, .int p2] below meth cd H locs (eQ G A (fun r w => r = none ∧ w = [(ad_t, .inr (0, [.ref ad_t_spec, .ref ad_t_words, .ref ad_t_spares])), (ad_t_spares, .inl (G.2.1 0, 33, .inl o))])) A (F0 m 0 ls []) by rw [eH, eL] at hgo; exact hgo
  clear eH eL
  refine lv_iload_n hx hb dX0_putSpareBit_0 rfl (lv_at hl 1 rfl) ?_
  refine lv_iconst (v := 2) hx hb dX0_putSpareBit_1 (by decide) ?_
  refine lv_imul hx hb dX0_putSpareBit_2 ?_
  refine lv_iload_n hx hb dX0_putSpareBit_3 rfl (lv_at hl 2 rfl) ?_
  refine lv_iadd hx hb dX0_putSpareBit_4 ?_
  refine lv_istore (lv' := [(4, .int ((p0 * (2 : Int32)) + p1)), (0, .ref ad_t), (1, .int p0), (2, .int p1), (3, .int p2)]) hx hb dX0_putSpareBit_5 hl (by decide) rfl (fun ls hl => ?_)
  refine lv_iload hx hb dX0_putSpareBit_7 (lv_at hl 0 rfl) ?_
  refine lv_if_lt (tgt := 48) hx hb dX0_putSpareBit_9 (by decide) (fun c5 => ?_) (fun c5 => ?_)
  · have hf := if_t hf c5
    have hf := Option.some.inj hf
    subst hf
    exact eRetV hx hb hr hlocks hP hD hS ⟨rfl, rfl⟩ dX0_putSpareBit_48
  · have hf := if_f hf c5
    refine lv_iload hx hb dX0_putSpareBit_12 (lv_at hl 0 rfl) ?_
    refine lv_iconst (v := 5) hx hb dX0_putSpareBit_14 (by decide) ?_
    refine lv_ishr hx hb dX0_putSpareBit_15 ?_
    refine lv_bipush (v := 33) hx hb dX0_putSpareBit_16 (by decide) ?_
    refine lv_icmp_ge (tgt := 48) hx hb dX0_putSpareBit_18 (by decide) (fun c6 => ?_) (fun c6 => ?_)
    · have hf := if_t hf c6
      have hf := Option.some.inj hf
      subst hf
      exact eRetV hx hb hr hlocks hP hD hS ⟨rfl, rfl⟩ dX0_putSpareBit_48
    · have hf := if_f hf c6
      refine lv_aload_n hx hb dX0_putSpareBit_21 rfl (lv_at hl 1 rfl) ?_
      refine va_get (D := G.1) (cl := vwCl) (ci := 0) (v := .ref ad_t_spares) (C := RX0) (T := TX0) (N := 3) hx hb hts inG0 hown hK hP 0 rfl rfl 2 (Nat.le_of_ble_eq_true rfl) (hts _ q191) (fun _ h9 => h9) rfl dX0_putSpareBit_22 ?_
      refine lv_iload hx hb dX0_putSpareBit_25 (lv_at hl 0 rfl) ?_
      refine lv_iconst (v := 5) hx hb dX0_putSpareBit_27 (by decide) ?_
      refine lv_ishr hx hb dX0_putSpareBit_28 ?_
      refine lv_aload_n hx hb dX0_putSpareBit_29 rfl (lv_at hl 1 rfl) ?_
      refine va_get (D := G.1) (cl := vwCl) (ci := 0) (v := .ref ad_t_spares) (C := RX0) (T := TX0) (N := 3) hx hb hts inG0 hown hK hP 0 rfl rfl 2 (Nat.le_of_ble_eq_true rfl) (hts _ q191) (fun _ h9 => h9) rfl dX0_putSpareBit_30 ?_
      refine lv_iload hx hb dX0_putSpareBit_33 (lv_at hl 0 rfl) ?_
      refine lv_iconst (v := 5) hx hb dX0_putSpareBit_35 (by decide) ?_
      refine lv_ishr hx hb dX0_putSpareBit_36 ?_
      obtain ⟨h7, hf⟩ := gd_some hf
      refine va_iald (D := G.1) (cl := vwCl) hx hb hK hP 1 0 rfl rfl (gi_in h7) dX0_putSpareBit_37 ?_
      refine lv_iload hx hb dX0_putSpareBit_38 (lv_at hl 0 rfl) ?_
      refine lv_bipush (v := 31) hx hb dX0_putSpareBit_40 (by decide) ?_
      refine lv_iand hx hb dX0_putSpareBit_42 ?_
      refine lv_iload_n hx hb dX0_putSpareBit_43 rfl (lv_at hl 4 rfl) ?_
      refine kPS (tX0_withBit l G (t_spares (((p0 * (2 : Int32)) + p1) >>> ((5 : Int32) &&& 31)).toNatClampNeg) (((p0 * (2 : Int32)) + p1) &&& (31 : Int32)) p2 _ rfl) ⟨hx, hb, hml, hown, hts⟩ q859 q860 q96 q861 okyX0_withBit ⟨Nat.le_of_ble_eq_true rfl, Nat.le_of_ble_eq_true rfl⟩ hP hG hS [] rfl hl.1 rfl (Nat.le_of_ble_eq_true rfl) dX0_putSpareBit_44 ⟨Nat.zero_le _, Nat.zero_le _⟩ (fun locs hS => ?_)
      refine W.eq (g2 := F0 m 47 ls [.int (fX0_withBit (t_spares (((p0 * (2 : Int32)) + p1) >>> ((5 : Int32) &&& 31)).toNatClampNeg) (((p0 * (2 : Int32)) + p1) &&& (31 : Int32)) p2), .int (((p0 * (2 : Int32)) + p1) >>> ((5 : Int32) &&& 31)), .ref ad_t_spares]) rfl ?_
      obtain ⟨h8, hf⟩ := gd_some hf
      refine va_iast (D := G.1) (cl := vwCl) hx hb hK hP hD hS 1 0 rfl rfl (gi_in h8) dX0_putSpareBit_47 (fun H locs hP hD hS => ?_)
      have hP : va_P G.1 vwCl [(ad_t, .inr (0, [.ref ad_t_spec, .ref ad_t_words, .ref ad_t_spares])), (ad_t_spares, .inl (G.2.1 0, 33, .inl (upd t_spares (((p0 * (2 : Int32)) + p1) >>> ((5 : Int32) &&& 31)).toNatClampNeg (fX0_withBit (t_spares (((p0 * (2 : Int32)) + p1) >>> ((5 : Int32) &&& 31)).toNatClampNeg) (((p0 * (2 : Int32)) + p1) &&& (31 : Int32)) p2))))] H := hP
      have hD : va_D A [(ad_t, .inr (0, [.ref ad_t_spec, .ref ad_t_words, .ref ad_t_spares])), (ad_t_spares, .inl (G.2.1 0, 33, .inl (upd t_spares (((p0 * (2 : Int32)) + p1) >>> ((5 : Int32) &&& 31)).toNatClampNeg (fX0_withBit (t_spares (((p0 * (2 : Int32)) + p1) >>> ((5 : Int32) &&& 31)).toNatClampNeg) (((p0 * (2 : Int32)) + p1) &&& (31 : Int32)) p2))))] := hD
      have hf := Option.some.inj hf
      subst hf
      exact eRetV hx hb hr hlocks hP hD hS ⟨rfl, rfl⟩ dX0_putSpareBit_48

def fX2_noteBad_j46 (tI : Nat → Int32) : Option ((Nat → Int32)) :=
  (if (tI 7) ≤ (1 : Int32) then some tI else bn (fX2_note tI (2 : Int32) (tI 5)) fun a4 => some a4)
def fX2_noteBad_j32 (x3 : Int32) (x4 : Int32) (tI : Nat → Int32) : Option ((Nat → Int32)) :=
  (if x3 < (256 : Int32) then fX2_noteBad_j46 tI else bn (fX2_note tI (2 : Int32) x4) fun a9 => fX2_noteBad_j46 a9)
def fX2_noteBad_j13 (x1 : Int32) (x2 : Int32) (x3 : Int32) (x4 : Int32) (tI : Nat → Int32) (t_toldI : Nat → Int32) (t_told_badRows : Nat → Int32) (t_told_badColumns : Nat → Int32) : Option ((Nat → Int32)) :=
  bn (fX5_find t_toldI t_told_badRows t_told_badColumns x1 x3) fun a1 => (if a1 = (-1 : Int32) then fX2_noteBad_j32 x3 x4 tI else bn (fX2_note tI (3 : Int32) x2) fun a14 => fX2_noteBad_j32 x3 x4 a14)
def fX2_noteBad (tI : Nat → Int32) (t_toldI : Nat → Int32) (t_told_badRows : Nat → Int32) (t_told_badColumns : Nat → Int32) (p0 : Int32) (p1 : Int32) (p2 : Int32) (p3 : Int32) : Option ((Nat → Int32)) :=
  (if p0 < (512 : Int32) then fX2_noteBad_j13 p0 p1 p2 p3 tI t_toldI t_told_badRows t_told_badColumns else bn (fX2_note tI (2 : Int32) p1) fun a19 => fX2_noteBad_j13 p0 p1 p2 p3 a19 t_toldI t_told_badRows t_told_badColumns)
set_option maxRecDepth 100000 in
set_option maxHeartbeats 4000000 in
theorem tX2_noteBad (l : Launch) (G : gG) (ad_t ad_t_told ad_t_source ad_t_told_numbers ad_t_told_badRows ad_t_told_badColumns ad_t_told_badBits : Nat) (tI : Nat → Int32) (t_toldI : Nat → Int32) (t_told_badRows : Nat → Int32) (t_told_badColumns : Nat → Int32) (p0 : Int32) (p1 : Int32) (p2 : Int32) (p3 : Int32) (o : (Nat → Int32)) (hf : fX2_noteBad tI t_toldI t_told_badRows t_told_badColumns p0 p1 p2 p3 = some o) : mE G l yX2_noteBad cX2_noteBad 5 none 1 23 0 0 [.ref ad_t, .int p0, .int p1, .int p2, .int p3] [(ad_t, .inr (2, [.ref ad_t_told, .int (tI 1), .int (tI 2), .ref ad_t_source, .int (tI 4), .int (tI 5), .int (tI 6), .int (tI 7)])), (ad_t_told, .inr (5, [.ref ad_t_told_numbers, .ref ad_t_told_badRows, .ref ad_t_told_badColumns, .ref ad_t_told_badBits, .int (t_toldI 4)])), (ad_t_told_badRows, .inl (G.2.1 0, 12, .inl t_told_badRows)), (ad_t_told_badColumns, .inl (G.2.1 0, 12, .inl t_told_badColumns))] (fun r w => r = none ∧ w = [(ad_t, .inr (2, [.ref ad_t_told, .int (o 1), .int (o 2), .ref ad_t_source, .int (o 4), .int (o 5), .int (o 6), .int (o 7)])), (ad_t_told, .inr (5, [.ref ad_t_told_numbers, .ref ad_t_told_badRows, .ref ad_t_told_badColumns, .ref ad_t_told_badBits, .int (t_toldI 4)])), (ad_t_told_badRows, .inl (G.2.1 0, 12, .inl t_told_badRows)), (ad_t_told_badColumns, .inl (G.2.1 0, 12, .inl t_told_badColumns))]) := by
  refine mE_of (by decide) (Nat.le_of_ble_eq_true rfl) ?_
  intro p e s m below meth cd ls A hx hb hml hown hts hr hlocks hnm hl hA hP hD hS hG
  have hK := hG.1
  have hown : s.vm.findClass RX2 = some m.cls := hown
  have hl : lv_has ls 5 [(0, .ref ad_t), (1, .int p0), (2, .int p1), (3, .int p2), (4, .int p3)] := hl
  have hS := hS
  unfold fX2_noteBad at hf
  obtain ⟨H, locs, eH, eL⟩ : ∃ (H : Heap) (locs : List Loc), H = s.heap ∧ locs = [] := ⟨_, _, rfl, rfl⟩
  have hP : va_P G.1 vwCl [(ad_t, .inr (2, [.ref ad_t_told, .int (tI 1), .int (tI 2), .ref ad_t_source, .int (tI 4), .int (tI 5), .int (tI 6), .int (tI 7)])), (ad_t_told, .inr (5, [.ref ad_t_told_numbers, .ref ad_t_told_badRows, .ref ad_t_told_badColumns, .ref ad_t_told_badBits, .int (t_toldI 4)])), (ad_t_told_badRows, .inl (G.2.1 0, 12, .inl t_told_badRows)), (ad_t_told_badColumns, .inl (G.2.1 0, 12, .inl t_told_badColumns))] H := eH ▸ hP
  have hS : va_S A s.heap H locs := by rw [eH, eL]; exact hS
  suffices hgo : wG p l e 1 23 s m [.ref ad_t, .int p0, .int p1, .int p2, .int p3] below meth cd H locs (eQ G A (fun r w => r = none ∧ w = [(ad_t, .inr (2, [.ref ad_t_told, .int (o 1), .int (o 2), .ref ad_t_source, .int (o 4), .int (o 5), .int (o 6), .int (o 7)])), (ad_t_told, .inr (5, [.ref ad_t_told_numbers, .ref ad_t_told_badRows, .ref ad_t_told_badColumns, .ref ad_t_told_badBits, .int (t_toldI 4)])), (ad_t_told_badRows, .inl (G.2.1 0, 12, .inl t_told_badRows)), (ad_t_told_badColumns, .inl (G.2.1 0, 12, .inl t_told_badColumns))])) A (F0 m 0 ls []) by rw [eH, eL] at hgo; exact hgo
  clear eH eL
  refine lv_iload_n hx hb dX2_noteBad_0 rfl (lv_at hl 1 rfl) ?_
  refine lv_sipush (v := 512) hx hb dX2_noteBad_1 (by decide) ?_
  have J13_k22 : ∀ (g21 : Nat → Int32) (H : Heap) (locs : List Loc) (ls : Array Slot), lv_has ls 5 [(0, .ref ad_t), (1, .int p0), (2, .int p1), (3, .int p2), (4, .int p3)] → va_P G.1 vwCl [(ad_t, .inr (2, [.ref ad_t_told, .int (g21 1), .int (g21 2), .ref ad_t_source, .int (g21 4), .int (g21 5), .int (g21 6), .int (g21 7)])), (ad_t_told, .inr (5, [.ref ad_t_told_numbers, .ref ad_t_told_badRows, .ref ad_t_told_badColumns, .ref ad_t_told_badBits, .int (t_toldI 4)])), (ad_t_told_badRows, .inl (G.2.1 0, 12, .inl t_told_badRows)), (ad_t_told_badColumns, .inl (G.2.1 0, 12, .inl t_told_badColumns))] H → va_D A [(ad_t, .inr (2, [.ref ad_t_told, .int (g21 1), .int (g21 2), .ref ad_t_source, .int (g21 4), .int (g21 5), .int (g21 6), .int (g21 7)])), (ad_t_told, .inr (5, [.ref ad_t_told_numbers, .ref ad_t_told_badRows, .ref ad_t_told_badColumns, .ref ad_t_told_badBits, .int (t_toldI 4)])), (ad_t_told_badRows, .inl (G.2.1 0, 12, .inl t_told_badRows)), (ad_t_told_badColumns, .inl (G.2.1 0, 12, .inl t_told_badColumns))] → va_S A s.heap H locs → fX2_noteBad_j13 p0 p1 p2 p3 g21 t_toldI t_told_badRows t_told_badColumns = some o → wG p l e 1 23 s m [.ref ad_t, .int p0, .int p1, .int p2, .int p3] below meth cd H locs (eQ G A (fun r w => r = none ∧ w = [(ad_t, .inr (2, [.ref ad_t_told, .int (o 1), .int (o 2), .ref ad_t_source, .int (o 4), .int (o 5), .int (o 6), .int (o 7)])), (ad_t_told, .inr (5, [.ref ad_t_told_numbers, .ref ad_t_told_badRows, .ref ad_t_told_badColumns, .ref ad_t_told_badBits, .int (t_toldI 4)])), (ad_t_told_badRows, .inl (G.2.1 0, 12, .inl t_told_badRows)), (ad_t_told_badColumns, .inl (G.2.1 0, 12, .inl t_told_badColumns))])) A (F0 m 13 ls []) := by
    intro g21 H locs ls hl hP hD hS hf
    unfold fX2_noteBad_j13 at hf
    refine lv_aload_n hx hb dX2_noteBad_13 rfl (lv_at hl 0 rfl) ?_
    refine va_get (D := G.1) (cl := vwCl) (ci := 2) (v := .ref ad_t_told) (C := RX2) (T := TX2) (N := 8) hx hb hts inG2 hown hK hP 0 rfl rfl 0 (Nat.le_of_ble_eq_true rfl) (hts _ q420) (fun _ h9 => h9) rfl dX2_noteBad_14 ?_
    refine lv_iload_n hx hb dX2_noteBad_17 rfl (lv_at hl 1 rfl) ?_
    refine lv_iload_n hx hb dX2_noteBad_18 rfl (lv_at hl 3 rfl) ?_
    obtain ⟨a23, h24, hf⟩ := bn_some hf
    refine kPV (tX5_find l G ad_t_told ad_t_told_numbers ad_t_told_badRows ad_t_told_badColumns ad_t_told_badBits t_toldI t_told_badRows t_told_badColumns p0 p2 a23 h24) ⟨hx, hb, hml, hown, hts⟩ q734 q735 q736 q97 q737 okyX5_find ⟨Nat.le_of_ble_eq_true rfl, Nat.le_of_ble_eq_true rfl⟩ hP hG hS [1, 2, 3] rfl 1 rfl rfl hl.1 rfl (Nat.le_of_ble_eq_true rfl) dX2_noteBad_19 ⟨Nat.zero_le _, Nat.zero_le _⟩ (fun locs hS => ?_)
    refine W.eq (g2 := F0 m 22 ls [.int a23]) rfl ?_
    refine lv_iconst (v := -1) hx hb dX2_noteBad_22 (by decide) ?_
    have J32_k26 : ∀ (g25 : Nat → Int32) (H : Heap) (locs : List Loc) (ls : Array Slot), lv_has ls 5 [(0, .ref ad_t), (3, .int p2), (4, .int p3)] → va_P G.1 vwCl [(ad_t, .inr (2, [.ref ad_t_told, .int (g25 1), .int (g25 2), .ref ad_t_source, .int (g25 4), .int (g25 5), .int (g25 6), .int (g25 7)])), (ad_t_told, .inr (5, [.ref ad_t_told_numbers, .ref ad_t_told_badRows, .ref ad_t_told_badColumns, .ref ad_t_told_badBits, .int (t_toldI 4)])), (ad_t_told_badRows, .inl (G.2.1 0, 12, .inl t_told_badRows)), (ad_t_told_badColumns, .inl (G.2.1 0, 12, .inl t_told_badColumns))] H → va_D A [(ad_t, .inr (2, [.ref ad_t_told, .int (g25 1), .int (g25 2), .ref ad_t_source, .int (g25 4), .int (g25 5), .int (g25 6), .int (g25 7)])), (ad_t_told, .inr (5, [.ref ad_t_told_numbers, .ref ad_t_told_badRows, .ref ad_t_told_badColumns, .ref ad_t_told_badBits, .int (t_toldI 4)])), (ad_t_told_badRows, .inl (G.2.1 0, 12, .inl t_told_badRows)), (ad_t_told_badColumns, .inl (G.2.1 0, 12, .inl t_told_badColumns))] → va_S A s.heap H locs → fX2_noteBad_j32 p2 p3 g25 = some o → wG p l e 1 23 s m [.ref ad_t, .int p0, .int p1, .int p2, .int p3] below meth cd H locs (eQ G A (fun r w => r = none ∧ w = [(ad_t, .inr (2, [.ref ad_t_told, .int (o 1), .int (o 2), .ref ad_t_source, .int (o 4), .int (o 5), .int (o 6), .int (o 7)])), (ad_t_told, .inr (5, [.ref ad_t_told_numbers, .ref ad_t_told_badRows, .ref ad_t_told_badColumns, .ref ad_t_told_badBits, .int (t_toldI 4)])), (ad_t_told_badRows, .inl (G.2.1 0, 12, .inl t_told_badRows)), (ad_t_told_badColumns, .inl (G.2.1 0, 12, .inl t_told_badColumns))])) A (F0 m 32 ls []) := by
      intro g25 H locs ls hl hP hD hS hf
      unfold fX2_noteBad_j32 at hf
      refine lv_iload_n hx hb dX2_noteBad_32 rfl (lv_at hl 1 rfl) ?_
      refine lv_sipush (v := 256) hx hb dX2_noteBad_33 (by decide) ?_
      have J46_k28 : ∀ (g27 : Nat → Int32) (H : Heap) (locs : List Loc) (ls : Array Slot), lv_has ls 5 [(0, .ref ad_t)] → va_P G.1 vwCl [(ad_t, .inr (2, [.ref ad_t_told, .int (g27 1), .int (g27 2), .ref ad_t_source, .int (g27 4), .int (g27 5), .int (g27 6), .int (g27 7)])), (ad_t_told, .inr (5, [.ref ad_t_told_numbers, .ref ad_t_told_badRows, .ref ad_t_told_badColumns, .ref ad_t_told_badBits, .int (t_toldI 4)])), (ad_t_told_badRows, .inl (G.2.1 0, 12, .inl t_told_badRows)), (ad_t_told_badColumns, .inl (G.2.1 0, 12, .inl t_told_badColumns))] H → va_D A [(ad_t, .inr (2, [.ref ad_t_told, .int (g27 1), .int (g27 2), .ref ad_t_source, .int (g27 4), .int (g27 5), .int (g27 6), .int (g27 7)])), (ad_t_told, .inr (5, [.ref ad_t_told_numbers, .ref ad_t_told_badRows, .ref ad_t_told_badColumns, .ref ad_t_told_badBits, .int (t_toldI 4)])), (ad_t_told_badRows, .inl (G.2.1 0, 12, .inl t_told_badRows)), (ad_t_told_badColumns, .inl (G.2.1 0, 12, .inl t_told_badColumns))] → va_S A s.heap H locs → fX2_noteBad_j46 g27 = some o → wG p l e 1 23 s m [.ref ad_t, .int p0, .int p1, .int p2, .int p3] below meth cd H locs (eQ G A (fun r w => r = none ∧ w = [(ad_t, .inr (2, [.ref ad_t_told, .int (o 1), .int (o 2), .ref ad_t_source, .int (o 4), .int (o 5), .int (o 6), .int (o 7)])), (ad_t_told, .inr (5, [.ref ad_t_told_numbers, .ref ad_t_told_badRows, .ref ad_t_told_badColumns, .ref ad_t_told_badBits, .int (t_toldI 4)])), (ad_t_told_badRows, .inl (G.2.1 0, 12, .inl t_told_badRows)), (ad_t_told_badColumns, .inl (G.2.1 0, 12, .inl t_told_badColumns))])) A (F0 m 46 ls []) := by
        intro g27 H locs ls hl hP hD hS hf
        unfold fX2_noteBad_j46 at hf
        refine lv_aload_n hx hb dX2_noteBad_46 rfl (lv_at hl 0 rfl) ?_
        refine va_get (D := G.1) (cl := vwCl) (ci := 2) (v := .int (g27 7)) (C := RX2) (T := TX2) (N := 8) hx hb hts inG2 hown hK hP 0 rfl rfl 7 (Nat.le_of_ble_eq_true rfl) (hts _ q430) (fun _ h9 => h9) rfl dX2_noteBad_47 ?_
        refine lv_iconst (v := 1) hx hb dX2_noteBad_50 (by decide) ?_
        refine lv_icmp_le (tgt := 63) hx hb dX2_noteBad_51 (by decide) (fun c29 => ?_) (fun c29 => ?_)
        · have hf := if_t hf c29
          have hf := Option.some.inj hf
          subst hf
          exact eRetV hx hb hr hlocks hP hD hS ⟨rfl, rfl⟩ dX2_noteBad_63
        · have hf := if_f hf c29
          refine lv_aload_n hx hb dX2_noteBad_54 rfl (lv_at hl 0 rfl) ?_
          refine lv_iconst (v := 2) hx hb dX2_noteBad_55 (by decide) ?_
          refine lv_aload_n hx hb dX2_noteBad_56 rfl (lv_at hl 0 rfl) ?_
          refine va_get (D := G.1) (cl := vwCl) (ci := 2) (v := .int (g27 5)) (C := RX2) (T := TX2) (N := 8) hx hb hts inG2 hown hK hP 0 rfl rfl 5 (Nat.le_of_ble_eq_true rfl) (hts _ q428) (fun _ h9 => h9) rfl dX2_noteBad_57 ?_
          obtain ⟨a30, h31, hf⟩ := bn_some hf
          refine kEV (tX2_note l G ad_t ad_t_told ad_t_source g27 (2 : Int32) (g27 5) a30 h31) ⟨hx, hb, hml, hown, hts⟩ q726 q728 q20 q104 q729 okyX2_note ⟨Nat.le_of_ble_eq_true rfl, Nat.le_of_ble_eq_true rfl⟩ hP hD hG hS hA [0] [1, 2, 3] rfl (wr := [(ad_t_told, .inr (5, [.ref ad_t_told_numbers, .ref ad_t_told_badRows, .ref ad_t_told_badColumns, .ref ad_t_told_badBits, .int (t_toldI 4)])), (ad_t_told_badRows, .inl (G.2.1 0, 12, .inl t_told_badRows)), (ad_t_told_badColumns, .inl (G.2.1 0, 12, .inl t_told_badColumns))]) rfl (by decide) 0 rfl rfl hl.1 rfl (Nat.le_of_ble_eq_true rfl) dX2_noteBad_60 ⟨Nat.zero_le _, Nat.zero_le _⟩ (fun r w H locs hR hP hD hS => ?_)
          obtain ⟨rfl, rfl⟩ := hR
          have hP : va_P G.1 vwCl [(ad_t_told, .inr (5, [.ref ad_t_told_numbers, .ref ad_t_told_badRows, .ref ad_t_told_badColumns, .ref ad_t_told_badBits, .int (t_toldI 4)])), (ad_t_told_badRows, .inl (G.2.1 0, 12, .inl t_told_badRows)), (ad_t_told_badColumns, .inl (G.2.1 0, 12, .inl t_told_badColumns)), (ad_t, .inr (2, [.ref ad_t_told, .int (a30 1), .int (a30 2), .ref ad_t_source, .int (a30 4), .int (a30 5), .int (a30 6), .int (a30 7)]))] H := hP
          have hD : va_D A [(ad_t_told, .inr (5, [.ref ad_t_told_numbers, .ref ad_t_told_badRows, .ref ad_t_told_badColumns, .ref ad_t_told_badBits, .int (t_toldI 4)])), (ad_t_told_badRows, .inl (G.2.1 0, 12, .inl t_told_badRows)), (ad_t_told_badColumns, .inl (G.2.1 0, 12, .inl t_told_badColumns)), (ad_t, .inr (2, [.ref ad_t_told, .int (a30 1), .int (a30 2), .ref ad_t_source, .int (a30 4), .int (a30 5), .int (a30 6), .int (a30 7)]))] := hD
          refine W.eq (g2 := F0 m 63 ls []) rfl ?_
          have hf := Option.some.inj hf
          subst hf
          have hP := hP.sub (ws' := [(ad_t, .inr (2, [.ref ad_t_told, .int (a30 1), .int (a30 2), .ref ad_t_source, .int (a30 4), .int (a30 5), .int (a30 6), .int (a30 7)])), (ad_t_told, .inr (5, [.ref ad_t_told_numbers, .ref ad_t_told_badRows, .ref ad_t_told_badColumns, .ref ad_t_told_badBits, .int (t_toldI 4)])), (ad_t_told_badRows, .inl (G.2.1 0, 12, .inl t_told_badRows)), (ad_t_told_badColumns, .inl (G.2.1 0, 12, .inl t_told_badColumns))]) [3, 0, 1, 2] rfl
          have hD := hD.sub (ws' := [(ad_t, .inr (2, [.ref ad_t_told, .int (a30 1), .int (a30 2), .ref ad_t_source, .int (a30 4), .int (a30 5), .int (a30 6), .int (a30 7)])), (ad_t_told, .inr (5, [.ref ad_t_told_numbers, .ref ad_t_told_badRows, .ref ad_t_told_badColumns, .ref ad_t_told_badBits, .int (t_toldI 4)])), (ad_t_told_badRows, .inl (G.2.1 0, 12, .inl t_told_badRows)), (ad_t_told_badColumns, .inl (G.2.1 0, 12, .inl t_told_badColumns))]) [3, 0, 1, 2] (by decide) rfl
          exact eRetV hx hb hr hlocks hP hD hS ⟨rfl, rfl⟩ dX2_noteBad_63
      refine lv_icmp_lt (tgt := 46) hx hb dX2_noteBad_36 (by decide) (fun c32 => ?_) (fun c32 => ?_)
      · have hf := if_t hf c32
        exact J46_k28 g25 H locs ls (lv_sub hl [0] rfl) hP hD hS hf
      · have hf := if_f hf c32
        refine lv_aload_n hx hb dX2_noteBad_39 rfl (lv_at hl 0 rfl) ?_
        refine lv_iconst (v := 2) hx hb dX2_noteBad_40 (by decide) ?_
        refine lv_iload hx hb dX2_noteBad_41 (lv_at hl 2 rfl) ?_
        obtain ⟨a33, h34, hf⟩ := bn_some hf
        refine kEV (tX2_note l G ad_t ad_t_told ad_t_source g25 (2 : Int32) p3 a33 h34) ⟨hx, hb, hml, hown, hts⟩ q726 q728 q20 q104 q729 okyX2_note ⟨Nat.le_of_ble_eq_true rfl, Nat.le_of_ble_eq_true rfl⟩ hP hD hG hS hA [0] [1, 2, 3] rfl (wr := [(ad_t_told, .inr (5, [.ref ad_t_told_numbers, .ref ad_t_told_badRows, .ref ad_t_told_badColumns, .ref ad_t_told_badBits, .int (t_toldI 4)])), (ad_t_told_badRows, .inl (G.2.1 0, 12, .inl t_told_badRows)), (ad_t_told_badColumns, .inl (G.2.1 0, 12, .inl t_told_badColumns))]) rfl (by decide) 0 rfl rfl hl.1 rfl (Nat.le_of_ble_eq_true rfl) dX2_noteBad_43 ⟨Nat.zero_le _, Nat.zero_le _⟩ (fun r w H locs hR hP hD hS => ?_)
        obtain ⟨rfl, rfl⟩ := hR
        have hP : va_P G.1 vwCl [(ad_t_told, .inr (5, [.ref ad_t_told_numbers, .ref ad_t_told_badRows, .ref ad_t_told_badColumns, .ref ad_t_told_badBits, .int (t_toldI 4)])), (ad_t_told_badRows, .inl (G.2.1 0, 12, .inl t_told_badRows)), (ad_t_told_badColumns, .inl (G.2.1 0, 12, .inl t_told_badColumns)), (ad_t, .inr (2, [.ref ad_t_told, .int (a33 1), .int (a33 2), .ref ad_t_source, .int (a33 4), .int (a33 5), .int (a33 6), .int (a33 7)]))] H := hP
        have hD : va_D A [(ad_t_told, .inr (5, [.ref ad_t_told_numbers, .ref ad_t_told_badRows, .ref ad_t_told_badColumns, .ref ad_t_told_badBits, .int (t_toldI 4)])), (ad_t_told_badRows, .inl (G.2.1 0, 12, .inl t_told_badRows)), (ad_t_told_badColumns, .inl (G.2.1 0, 12, .inl t_told_badColumns)), (ad_t, .inr (2, [.ref ad_t_told, .int (a33 1), .int (a33 2), .ref ad_t_source, .int (a33 4), .int (a33 5), .int (a33 6), .int (a33 7)]))] := hD
        refine W.eq (g2 := F0 m 46 ls []) rfl ?_
        have hP := hP.sub (ws' := [(ad_t, .inr (2, [.ref ad_t_told, .int (a33 1), .int (a33 2), .ref ad_t_source, .int (a33 4), .int (a33 5), .int (a33 6), .int (a33 7)])), (ad_t_told, .inr (5, [.ref ad_t_told_numbers, .ref ad_t_told_badRows, .ref ad_t_told_badColumns, .ref ad_t_told_badBits, .int (t_toldI 4)])), (ad_t_told_badRows, .inl (G.2.1 0, 12, .inl t_told_badRows)), (ad_t_told_badColumns, .inl (G.2.1 0, 12, .inl t_told_badColumns))]) [3, 0, 1, 2] rfl
        have hD := hD.sub (ws' := [(ad_t, .inr (2, [.ref ad_t_told, .int (a33 1), .int (a33 2), .ref ad_t_source, .int (a33 4), .int (a33 5), .int (a33 6), .int (a33 7)])), (ad_t_told, .inr (5, [.ref ad_t_told_numbers, .ref ad_t_told_badRows, .ref ad_t_told_badColumns, .ref ad_t_told_badBits, .int (t_toldI 4)])), (ad_t_told_badRows, .inl (G.2.1 0, 12, .inl t_told_badRows)), (ad_t_told_badColumns, .inl (G.2.1 0, 12, .inl t_told_badColumns))]) [3, 0, 1, 2] (by decide) rfl
        exact J46_k28 a33 H locs ls (lv_sub hl [0] rfl) hP hD hS hf
    refine lv_icmp_eq (tgt := 32) hx hb dX2_noteBad_23 (by decide) (fun c35 => ?_) (fun c35 => ?_)
    · have hf := if_t hf c35
      exact J32_k26 g21 H locs ls (lv_sub hl [0, 3, 4] rfl) hP hD hS hf
    · have hf := if_f hf c35
      refine lv_aload_n hx hb dX2_noteBad_26 rfl (lv_at hl 0 rfl) ?_
      refine lv_iconst (v := 3) hx hb dX2_noteBad_27 (by decide) ?_
      refine lv_iload_n hx hb dX2_noteBad_28 rfl (lv_at hl 2 rfl) ?_
      obtain ⟨a36, h37, hf⟩ := bn_some hf
      refine kEV (tX2_note l G ad_t ad_t_told ad_t_source g21 (3 : Int32) p1 a36 h37) ⟨hx, hb, hml, hown, hts⟩ q726 q728 q20 q104 q729 okyX2_note ⟨Nat.le_of_ble_eq_true rfl, Nat.le_of_ble_eq_true rfl⟩ hP hD hG hS hA [0] [1, 2, 3] rfl (wr := [(ad_t_told, .inr (5, [.ref ad_t_told_numbers, .ref ad_t_told_badRows, .ref ad_t_told_badColumns, .ref ad_t_told_badBits, .int (t_toldI 4)])), (ad_t_told_badRows, .inl (G.2.1 0, 12, .inl t_told_badRows)), (ad_t_told_badColumns, .inl (G.2.1 0, 12, .inl t_told_badColumns))]) rfl (by decide) 0 rfl rfl hl.1 rfl (Nat.le_of_ble_eq_true rfl) dX2_noteBad_29 ⟨Nat.zero_le _, Nat.zero_le _⟩ (fun r w H locs hR hP hD hS => ?_)
      obtain ⟨rfl, rfl⟩ := hR
      have hP : va_P G.1 vwCl [(ad_t_told, .inr (5, [.ref ad_t_told_numbers, .ref ad_t_told_badRows, .ref ad_t_told_badColumns, .ref ad_t_told_badBits, .int (t_toldI 4)])), (ad_t_told_badRows, .inl (G.2.1 0, 12, .inl t_told_badRows)), (ad_t_told_badColumns, .inl (G.2.1 0, 12, .inl t_told_badColumns)), (ad_t, .inr (2, [.ref ad_t_told, .int (a36 1), .int (a36 2), .ref ad_t_source, .int (a36 4), .int (a36 5), .int (a36 6), .int (a36 7)]))] H := hP
      have hD : va_D A [(ad_t_told, .inr (5, [.ref ad_t_told_numbers, .ref ad_t_told_badRows, .ref ad_t_told_badColumns, .ref ad_t_told_badBits, .int (t_toldI 4)])), (ad_t_told_badRows, .inl (G.2.1 0, 12, .inl t_told_badRows)), (ad_t_told_badColumns, .inl (G.2.1 0, 12, .inl t_told_badColumns)), (ad_t, .inr (2, [.ref ad_t_told, .int (a36 1), .int (a36 2), .ref ad_t_source, .int (a36 4), .int (a36 5), .int (a36 6), .int (a36 7)]))] := hD
      refine W.eq (g2 := F0 m 32 ls []) rfl ?_
      have hP := hP.sub (ws' := [(ad_t, .inr (2, [.ref ad_t_told, .int (a36 1), .int (a36 2), .ref ad_t_source, .int (a36 4), .int (a36 5), .int (a36 6), .int (a36 7)])), (ad_t_told, .inr (5, [.ref ad_t_told_numbers, .ref ad_t_told_badRows, .ref ad_t_told_badColumns, .ref ad_t_told_badBits, .int (t_toldI 4)])), (ad_t_told_badRows, .inl (G.2.1 0, 12, .inl t_told_badRows)), (ad_t_told_badColumns, .inl (G.2.1 0, 12, .inl t_told_badColumns))]) [3, 0, 1, 2] rfl
      have hD := hD.sub (ws' := [(ad_t, .inr (2, [.ref ad_t_told, .int (a36 1), .int (a36 2), .ref ad_t_source, .int (a36 4), .int (a36 5), .int (a36 6), .int (a36 7)])), (ad_t_told, .inr (5, [.ref ad_t_told_numbers, .ref ad_t_told_badRows, .ref ad_t_told_badColumns, .ref ad_t_told_badBits, .int (t_toldI 4)])), (ad_t_told_badRows, .inl (G.2.1 0, 12, .inl t_told_badRows)), (ad_t_told_badColumns, .inl (G.2.1 0, 12, .inl t_told_badColumns))]) [3, 0, 1, 2] (by decide) rfl
      exact J32_k26 a36 H locs ls (lv_sub hl [0, 3, 4] rfl) hP hD hS hf
  refine lv_icmp_lt (tgt := 13) hx hb dX2_noteBad_4 (by decide) (fun c38 => ?_) (fun c38 => ?_)
  · have hf := if_t hf c38
    exact J13_k22 tI H locs ls (lv_sub hl [0, 1, 2, 3, 4] rfl) hP hD hS hf
  · have hf := if_f hf c38
    refine lv_aload_n hx hb dX2_noteBad_7 rfl (lv_at hl 0 rfl) ?_
    refine lv_iconst (v := 2) hx hb dX2_noteBad_8 (by decide) ?_
    refine lv_iload_n hx hb dX2_noteBad_9 rfl (lv_at hl 2 rfl) ?_
    obtain ⟨a39, h40, hf⟩ := bn_some hf
    refine kEV (tX2_note l G ad_t ad_t_told ad_t_source tI (2 : Int32) p1 a39 h40) ⟨hx, hb, hml, hown, hts⟩ q726 q728 q20 q104 q729 okyX2_note ⟨Nat.le_of_ble_eq_true rfl, Nat.le_of_ble_eq_true rfl⟩ hP hD hG hS hA [0] [1, 2, 3] rfl (wr := [(ad_t_told, .inr (5, [.ref ad_t_told_numbers, .ref ad_t_told_badRows, .ref ad_t_told_badColumns, .ref ad_t_told_badBits, .int (t_toldI 4)])), (ad_t_told_badRows, .inl (G.2.1 0, 12, .inl t_told_badRows)), (ad_t_told_badColumns, .inl (G.2.1 0, 12, .inl t_told_badColumns))]) rfl (by decide) 0 rfl rfl hl.1 rfl (Nat.le_of_ble_eq_true rfl) dX2_noteBad_10 ⟨Nat.zero_le _, Nat.zero_le _⟩ (fun r w H locs hR hP hD hS => ?_)
    obtain ⟨rfl, rfl⟩ := hR
    have hP : va_P G.1 vwCl [(ad_t_told, .inr (5, [.ref ad_t_told_numbers, .ref ad_t_told_badRows, .ref ad_t_told_badColumns, .ref ad_t_told_badBits, .int (t_toldI 4)])), (ad_t_told_badRows, .inl (G.2.1 0, 12, .inl t_told_badRows)), (ad_t_told_badColumns, .inl (G.2.1 0, 12, .inl t_told_badColumns)), (ad_t, .inr (2, [.ref ad_t_told, .int (a39 1), .int (a39 2), .ref ad_t_source, .int (a39 4), .int (a39 5), .int (a39 6), .int (a39 7)]))] H := hP
    have hD : va_D A [(ad_t_told, .inr (5, [.ref ad_t_told_numbers, .ref ad_t_told_badRows, .ref ad_t_told_badColumns, .ref ad_t_told_badBits, .int (t_toldI 4)])), (ad_t_told_badRows, .inl (G.2.1 0, 12, .inl t_told_badRows)), (ad_t_told_badColumns, .inl (G.2.1 0, 12, .inl t_told_badColumns)), (ad_t, .inr (2, [.ref ad_t_told, .int (a39 1), .int (a39 2), .ref ad_t_source, .int (a39 4), .int (a39 5), .int (a39 6), .int (a39 7)]))] := hD
    refine W.eq (g2 := F0 m 13 ls []) rfl ?_
    have hP := hP.sub (ws' := [(ad_t, .inr (2, [.ref ad_t_told, .int (a39 1), .int (a39 2), .ref ad_t_source, .int (a39 4), .int (a39 5), .int (a39 6), .int (a39 7)])), (ad_t_told, .inr (5, [.ref ad_t_told_numbers, .ref ad_t_told_badRows, .ref ad_t_told_badColumns, .ref ad_t_told_badBits, .int (t_toldI 4)])), (ad_t_told_badRows, .inl (G.2.1 0, 12, .inl t_told_badRows)), (ad_t_told_badColumns, .inl (G.2.1 0, 12, .inl t_told_badColumns))]) [3, 0, 1, 2] rfl
    have hD := hD.sub (ws' := [(ad_t, .inr (2, [.ref ad_t_told, .int (a39 1), .int (a39 2), .ref ad_t_source, .int (a39 4), .int (a39 5), .int (a39 6), .int (a39 7)])), (ad_t_told, .inr (5, [.ref ad_t_told_numbers, .ref ad_t_told_badRows, .ref ad_t_told_badColumns, .ref ad_t_told_badBits, .int (t_toldI 4)])), (ad_t_told_badRows, .inl (G.2.1 0, 12, .inl t_told_badRows)), (ad_t_told_badColumns, .inl (G.2.1 0, 12, .inl t_told_badColumns))]) [3, 0, 1, 2] (by decide) rfl
    exact J13_k22 a39 H locs ls (lv_sub hl [0, 1, 2, 3, 4] rfl) hP hD hS hf
