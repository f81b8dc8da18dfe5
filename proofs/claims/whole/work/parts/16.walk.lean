def fX11_lays (tI : Nat → Int32) (t_all : Nat → Int32) (t_givenRow : Nat → Int32) (t_givenColumn : Nat → Int32) (p0 : Int32) (p1 : Int32) (p2 : Int32) : Option ((Nat → Int32) × (Nat → Int32)) :=
  bn (fX11_goesTo tI t_all t_givenRow t_givenColumn p0 p1) fun a1 => gd (gi ((46 : Int32) + ((((258 : Int32) * (a1 15)) + (a1 16)) / (32 : Int32))) 43047) (gd (gi ((46 : Int32) + ((((258 : Int32) * (a1 15)) + (a1 16)) / (32 : Int32))) 43047) (some (a1, (upd t_all ((46 : Int32) + ((((258 : Int32) * (a1 15)) + (a1 16)) / (32 : Int32))).toNatClampNeg (((t_all ((46 : Int32) + ((((258 : Int32) * (a1 15)) + (a1 16)) / (32 : Int32))).toNatClampNeg) &&& (((1 : Int32) <<< (((((258 : Int32) * (a1 15)) + (a1 16)) - (((258 : Int32) * (a1 15)) + (a1 16)) / (32 : Int32) * (32 : Int32)) &&& 31)) ^^^ (-1 : Int32))) ||| (p2 <<< (((((258 : Int32) * (a1 15)) + (a1 16)) - (((258 : Int32) * (a1 15)) + (a1 16)) / (32 : Int32) * (32 : Int32)) &&& 31)))))))
set_option maxRecDepth 100000 in
set_option maxHeartbeats 4000000 in
theorem tX11_lays (l : Launch) (G : gG) (ad_t ad_t_all ad_t_tape ad_t_isImage ad_t_size ad_t_givenRow ad_t_givenColumn ad_t_newRow ad_t_view : Nat) (tI : Nat → Int32) (t_value : Int64) (t_all : Nat → Int32) (t_givenRow : Nat → Int32) (t_givenColumn : Nat → Int32) (p0 : Int32) (p1 : Int32) (p2 : Int32) (o : (Nat → Int32) × (Nat → Int32)) (hf : fX11_lays tI t_all t_givenRow t_givenColumn p0 p1 p2 = some o) : mE G l yX11_lays cX11_lays 5 none 3 67 0 0 [.ref ad_t, .int p0, .int p1, .int p2] [(ad_t, .inr (11, [.ref ad_t_all, .ref ad_t_tape, .ref ad_t_isImage, .int (tI 3), .int (tI 4), .int (tI 5), .int (tI 6), .ref ad_t_size, .ref ad_t_givenRow, .ref ad_t_givenColumn, .ref ad_t_newRow, .int (tI 11), .int (tI 12), .int (tI 13), .int (tI 14), .int (tI 15), .int (tI 16), .int (tI 17), .int (tI 18), .int (tI 19), .ref ad_t_view, .int (tI 21), .int (tI 22), .int (tI 23), .int (tI 24), .int (tI 25), .long t_value, .int (tI 27), .int (tI 28)])), (ad_t_all, .inl (G.2.1 0, 43047, .inl t_all)), (ad_t_givenRow, .inl (G.2.1 0, 12, .inl t_givenRow)), (ad_t_givenColumn, .inl (G.2.1 0, 2, .inl t_givenColumn))] (fun r w => r = none ∧ w = [(ad_t, .inr (11, [.ref ad_t_all, .ref ad_t_tape, .ref ad_t_isImage, .int (o.1 3), .int (o.1 4), .int (o.1 5), .int (o.1 6), .ref ad_t_size, .ref ad_t_givenRow, .ref ad_t_givenColumn, .ref ad_t_newRow, .int (o.1 11), .int (o.1 12), .int (o.1 13), .int (o.1 14), .int (o.1 15), .int (o.1 16), .int (o.1 17), .int (o.1 18), .int (o.1 19), .ref ad_t_view, .int (o.1 21), .int (o.1 22), .int (o.1 23), .int (o.1 24), .int (o.1 25), .long t_value, .int (o.1 27), .int (o.1 28)])), (ad_t_all, .inl (G.2.1 0, 43047, .inl o.2)), (ad_t_givenRow, .inl (G.2.1 0, 12, .inl t_givenRow)), (ad_t_givenColumn, .inl (G.2.1 0, 2, .inl t_givenColumn))]) := by
  refine mE_of (by decide) (Nat.le_of_ble_eq_true rfl) ?_
  intro p e s m below meth cd ls A hx hb hml hown hts hr hlocks hnm hl hA hP hD hS hG
  have hK := hG.1
  have hown : s.vm.findClass RX11 = some m.cls := hown
  have hl : lv_has ls 5 [(0, .ref ad_t), (1, .int p0), (2, .int p1), (3, .int p2)] := hl
  have hS := hS
  unfold fX11_lays at hf
  obtain ⟨H, locs, eH, eL⟩ : ∃ (H : Heap) (locs : List Loc), H = s.heap ∧ locs = [] := ⟨_, _, rfl, rfl⟩
  have hP : va_P G.1 vwCl [(ad_t, .inr (11, [.ref ad_t_all, .ref ad_t_tape, .ref ad_t_isImage, .int (tI 3), .int (tI 4), .int (tI 5), .int (tI 6), .ref ad_t_size, .ref ad_t_givenRow, .ref ad_t_givenColumn, .ref ad_t_newRow, .int (tI 11), .int (tI 12), .int (tI 13), .int (tI 14), .int (tI 15), .int (tI 16), .int (tI 17), .int (tI 18), .int (tI 19), .ref ad_t_view, .int (tI 21), .int (tI 22), .int (tI 23), .int (tI 24), .int (tI 25), .long t_value, .int (tI 27), .int (tI 28)])), (ad_t_all, .inl (G.2.1 0, 43047, .inl t_all)), (ad_t_givenRow, .inl (G.2.1 0, 12, .inl t_givenRow)), (ad_t_givenColumn, .inl (G.2.1 0, 2, .inl t_givenColumn))] H := eH ▸ hP
  have hS : va_S A s.heap H locs := by rw [eH, eL]; exact hS
  suffices hgo : wG p l e 3 67 s m [.ref ad_t, .int p0, .int p1, .int p2] below meth cd H locs (eQ G A (fun r w => r = none ∧ w = [(ad_t, .inr (11, [.ref ad_t_all, .ref ad_t_tape, .ref ad_t_isImage, .int (o.1 3), .int (o.1 4), .int (o.1 5), .int (o.1 6), .ref ad_t_size, .ref ad_t_givenRow, .ref ad_t_givenColumn, .ref ad_t_newRow, .int (o.1 11), .int (o.1 12), .int (o.1 13), .int (o.1 14), .int (o.1 15), .int (o.1 16), .int (o.1 17), .int (o.1 18), .int (o.1 19), .ref ad_t_view, .int (o.1 21), .int (o.1 22), .int (o.1 23), .int (o.1 24), .int (o.1 25), .long t_value, .int (o.1 27), .int (o.1 28)])), (ad_t_all, .inl (G.2.1 0, 43047, .inl o.2)), (ad_t_givenRow, .inl (G.2.1 0, 12, .inl t_givenRow)), (ad_t_givenColumn, .inl (G.2.1 0, 2, .inl t_givenColumn))])) A (F0 m 0 ls []) by rw [eH, eL] at hgo; exact hgo
  clear eH eL
  refine lv_aload_n hx hb dX11_lays_0 rfl (lv_at hl 0 rfl) ?_
  refine lv_iload_n hx hb dX11_lays_1 rfl (lv_at hl 1 rfl) ?_
  refine lv_iload_n hx hb dX11_lays_2 rfl (lv_at hl 2 rfl) ?_
  obtain ⟨a5, h6, hf⟩ := bn_some hf
  refine kEV (tX11_goesTo l G ad_t ad_t_all ad_t_tape ad_t_isImage ad_t_size ad_t_givenRow ad_t_givenColumn ad_t_newRow ad_t_view tI t_value t_all t_givenRow t_givenColumn p0 p1 a5 h6) ⟨hx, hb, hml, hown, hts⟩ q1318 q1320 q75 q108 q1321 okyX11_goesTo ⟨Nat.le_of_ble_eq_true rfl, Nat.le_of_ble_eq_true rfl⟩ hP hD hG hS hA [0, 1, 2, 3] [] rfl (wr := []) rfl (by decide) 0 rfl rfl hl.1 rfl (Nat.le_of_ble_eq_true rfl) dX11_lays_3 ⟨Nat.zero_le _, Nat.zero_le _⟩ (fun r w H locs hR hP hD hS => ?_)
  obtain ⟨rfl, rfl⟩ := hR
  have hP : va_P G.1 vwCl [(ad_t, .inr (11, [.ref ad_t_all, .ref ad_t_tape, .ref ad_t_isImage, .int (a5 3), .int (a5 4), .int (a5 5), .int (a5 6), .ref ad_t_size, .ref ad_t_givenRow, .ref ad_t_givenColumn, .ref ad_t_newRow, .int (a5 11), .int (a5 12), .int (a5 13), .int (a5 14), .int (a5 15), .int (a5 16), .int (a5 17), .int (a5 18), .int (a5 19), .ref ad_t_view, .int (a5 21), .int (a5 22), .int (a5 23), .int (a5 24), .int (a5 25), .long t_value, .int (a5 27), .int (a5 28)])), (ad_t_all, .inl (G.2.1 0, 43047, .inl t_all)), (ad_t_givenRow, .inl (G.2.1 0, 12, .inl t_givenRow)), (ad_t_givenColumn, .inl (G.2.1 0, 2, .inl t_givenColumn))] H := hP
  have hD : va_D A [(ad_t, .inr (11, [.ref ad_t_all, .ref ad_t_tape, .ref ad_t_isImage, .int (a5 3), .int (a5 4), .int (a5 5), .int (a5 6), .ref ad_t_size, .ref ad_t_givenRow, .ref ad_t_givenColumn, .ref ad_t_newRow, .int (a5 11), .int (a5 12), .int (a5 13), .int (a5 14), .int (a5 15), .int (a5 16), .int (a5 17), .int (a5 18), .int (a5 19), .ref ad_t_view, .int (a5 21), .int (a5 22), .int (a5 23), .int (a5 24), .int (a5 25), .long t_value, .int (a5 27), .int (a5 28)])), (ad_t_all, .inl (G.2.1 0, 43047, .inl t_all)), (ad_t_givenRow, .inl (G.2.1 0, 12, .inl t_givenRow)), (ad_t_givenColumn, .inl (G.2.1 0, 2, .inl t_givenColumn))] := hD
  refine W.eq (g2 := F0 m 6 ls []) rfl ?_
  refine lv_sipush (v := 258) hx hb dX11_lays_6 (by decide) ?_
  refine lv_aload_n hx hb dX11_lays_9 rfl (lv_at hl 0 rfl) ?_
  refine va_get (D := G.1) (cl := vwCl) (ci := 11) (v := .int (a5 15)) (C := RX11) (T := TX11) (N := 29) hx hb hts inG11 hown hK hP 0 rfl rfl 15 (Nat.le_of_ble_eq_true rfl) (hts _ q1056) (fun _ h9 => h9) rfl dX11_lays_10 ?_
  refine lv_imul hx hb dX11_lays_13 ?_
  refine lv_aload_n hx hb dX11_lays_14 rfl (lv_at hl 0 rfl) ?_
  refine va_get (D := G.1) (cl := vwCl) (ci := 11) (v := .int (a5 16)) (C := RX11) (T := TX11) (N := 29) hx hb hts inG11 hown hK hP 0 rfl rfl 16 (Nat.le_of_ble_eq_true rfl) (hts _ q1057) (fun _ h9 => h9) rfl dX11_lays_15 ?_
  refine lv_iadd hx hb dX11_lays_18 ?_
  refine lv_istore (lv' := [(4, .int (((258 : Int32) * (a5 15)) + (a5 16))), (0, .ref ad_t), (1, .int p0), (2, .int p1), (3, .int p2)]) hx hb dX11_lays_19 hl (by decide) rfl (fun ls hl => ?_)
  refine lv_aload_n hx hb dX11_lays_21 rfl (lv_at hl 1 rfl) ?_
  refine va_get (D := G.1) (cl := vwCl) (ci := 11) (v := .ref ad_t_all) (C := RX11) (T := TX11) (N := 29) hx hb hts inG11 hown hK hP 0 rfl rfl 0 (Nat.le_of_ble_eq_true rfl) (hts _ q1041) (fun _ h9 => h9) rfl dX11_lays_22 ?_
  refine lv_bipush (v := 46) hx hb dX11_lays_25 (by decide) ?_
  refine lv_iload hx hb dX11_lays_27 (lv_at hl 0 rfl) ?_
  refine lv_bipush (v := 32) hx hb dX11_lays_29 (by decide) ?_
  refine lv_idiv hx hb dX11_lays_31 (by decide) ?_
  refine lv_iadd hx hb dX11_lays_32 ?_
  refine lv_aload_n hx hb dX11_lays_33 rfl (lv_at hl 1 rfl) ?_
  refine va_get (D := G.1) (cl := vwCl) (ci := 11) (v := .ref ad_t_all) (C := RX11) (T := TX11) (N := 29) hx hb hts inG11 hown hK hP 0 rfl rfl 0 (Nat.le_of_ble_eq_true rfl) (hts _ q1041) (fun _ h9 => h9) rfl dX11_lays_34 ?_
  refine lv_bipush (v := 46) hx hb dX11_lays_37 (by decide) ?_
  refine lv_iload hx hb dX11_lays_39 (lv_at hl 0 rfl) ?_
  refine lv_bipush (v := 32) hx hb dX11_lays_41 (by decide) ?_
  refine lv_idiv hx hb dX11_lays_43 (by decide) ?_
  refine lv_iadd hx hb dX11_lays_44 ?_
  obtain ⟨h7, hf⟩ := gd_some hf
  refine va_iald (D := G.1) (cl := vwCl) hx hb hK hP 1 0 rfl rfl (gi_in h7) dX11_lays_45 ?_
  refine lv_iconst (v := 1) hx hb dX11_lays_46 (by decide) ?_
  refine lv_iload hx hb dX11_lays_47 (lv_at hl 0 rfl) ?_
  refine lv_bipush (v := 32) hx hb dX11_lays_49 (by decide) ?_
  refine lv_irem hx hb dX11_lays_51 (by decide) ?_
  refine lv_ishl hx hb dX11_lays_52 ?_
  refine lv_iconst (v := -1) hx hb dX11_lays_53 (by decide) ?_
  refine lv_ixor hx hb dX11_lays_54 ?_
  refine lv_iand hx hb dX11_lays_55 ?_
  refine lv_iload_n hx hb dX11_lays_56 rfl (lv_at hl 4 rfl) ?_
  refine lv_iload hx hb dX11_lays_57 (lv_at hl 0 rfl) ?_
  refine lv_bipush (v := 32) hx hb dX11_lays_59 (by decide) ?_
  refine lv_irem hx hb dX11_lays_61 (by decide) ?_
  refine lv_ishl hx hb dX11_lays_62 ?_
  refine lv_ior hx hb dX11_lays_63 ?_
  obtain ⟨h8, hf⟩ := gd_some hf
  refine va_iast (D := G.1) (cl := vwCl) hx hb hK hP hD hS 1 0 rfl rfl (gi_in h8) dX11_lays_64 (fun H locs hP hD hS => ?_)
  have hP : va_P G.1 vwCl [(ad_t, .inr (11, [.ref ad_t_all, .ref ad_t_tape, .ref ad_t_isImage, .int (a5 3), .int (a5 4), .int (a5 5), .int (a5 6), .ref ad_t_size, .ref ad_t_givenRow, .ref ad_t_givenColumn, .ref ad_t_newRow, .int (a5 11), .int (a5 12), .int (a5 13), .int (a5 14), .int (a5 15), .int (a5 16), .int (a5 17), .int (a5 18), .int (a5 19), .ref ad_t_view, .int (a5 21), .int (a5 22), .int (a5 23), .int (a5 24), .int (a5 25), .long t_value, .int (a5 27), .int (a5 28)])), (ad_t_all, .inl (G.2.1 0, 43047, .inl (upd t_all ((46 : Int32) + ((((258 : Int32) * (a5 15)) + (a5 16)) / (32 : Int32))).toNatClampNeg (((t_all ((46 : Int32) + ((((258 : Int32) * (a5 15)) + (a5 16)) / (32 : Int32))).toNatClampNeg) &&& (((1 : Int32) <<< (((((258 : Int32) * (a5 15)) + (a5 16)) - (((258 : Int32) * (a5 15)) + (a5 16)) / (32 : Int32) * (32 : Int32)) &&& 31)) ^^^ (-1 : Int32))) ||| (p2 <<< (((((258 : Int32) * (a5 15)) + (a5 16)) - (((258 : Int32) * (a5 15)) + (a5 16)) / (32 : Int32) * (32 : Int32)) &&& 31)))))), (ad_t_givenRow, .inl (G.2.1 0, 12, .inl t_givenRow)), (ad_t_givenColumn, .inl (G.2.1 0, 2, .inl t_givenColumn))] H := hP
  have hD : va_D A [(ad_t, .inr (11, [.ref ad_t_all, .ref ad_t_tape, .ref ad_t_isImage, .int (a5 3), .int (a5 4), .int (a5 5), .int (a5 6), .ref ad_t_size, .ref ad_t_givenRow, .ref ad_t_givenColumn, .ref ad_t_newRow, .int (a5 11), .int (a5 12), .int (a5 13), .int (a5 14), .int (a5 15), .int (a5 16), .int (a5 17), .int (a5 18), .int (a5 19), .ref ad_t_view, .int (a5 21), .int (a5 22), .int (a5 23), .int (a5 24), .int (a5 25), .long t_value, .int (a5 27), .int (a5 28)])), (ad_t_all, .inl (G.2.1 0, 43047, .inl (upd t_all ((46 : Int32) + ((((258 : Int32) * (a5 15)) + (a5 16)) / (32 : Int32))).toNatClampNeg (((t_all ((46 : Int32) + ((((258 : Int32) * (a5 15)) + (a5 16)) / (32 : Int32))).toNatClampNeg) &&& (((1 : Int32) <<< (((((258 : Int32) * (a5 15)) + (a5 16)) - (((258 : Int32) * (a5 15)) + (a5 16)) / (32 : Int32) * (32 : Int32)) &&& 31)) ^^^ (-1 : Int32))) ||| (p2 <<< (((((258 : Int32) * (a5 15)) + (a5 16)) - (((258 : Int32) * (a5 15)) + (a5 16)) / (32 : Int32) * (32 : Int32)) &&& 31)))))), (ad_t_givenRow, .inl (G.2.1 0, 12, .inl t_givenRow)), (ad_t_givenColumn, .inl (G.2.1 0, 2, .inl t_givenColumn))] := hD
  have hf := Option.some.inj hf
  subst hf
  exact eRetV hx hb hr hlocks hP hD hS ⟨rfl, rfl⟩ dX11_lays_65

def fX11_clears_l3 : Nat → Int32 → (Nat → Int32) → Option ((Nat → Int32))
  | 0, _, _ => none
  | n + 1, x1, t_all =>
    (if (4208 : Int32) ≤ x1 then some t_all else gd (gi x1 43047) (fX11_clears_l3 n (x1 + (1 : Int32)) (upd t_all x1.toNatClampNeg (0 : Int32))))
def fX11_clears (t_all : Nat → Int32) : Option ((Nat → Int32)) :=
  bn (fX11_clears_l3 FU (46 : Int32) t_all) fun y3 => some y3
set_option maxRecDepth 100000 in
set_option maxHeartbeats 4000000 in
theorem tX11_clears (l : Launch) (G : gG) (ad_t ad_t_all ad_t_tape ad_t_isImage ad_t_size ad_t_givenRow ad_t_givenColumn ad_t_newRow ad_t_view : Nat) (tI : Nat → Int32) (t_value : Int64) (t_all : Nat → Int32) (o : (Nat → Int32)) (hf : fX11_clears t_all = some o) : mE G l yX11_clears cX11_clears 2 none 0 0 0 0 [.ref ad_t] [(ad_t, .inr (11, [.ref ad_t_all, .ref ad_t_tape, .ref ad_t_isImage, .int (tI 3), .int (tI 4), .int (tI 5), .int (tI 6), .ref ad_t_size, .ref ad_t_givenRow, .ref ad_t_givenColumn, .ref ad_t_newRow, .int (tI 11), .int (tI 12), .int (tI 13), .int (tI 14), .int (tI 15), .int (tI 16), .int (tI 17), .int (tI 18), .int (tI 19), .ref ad_t_view, .int (tI 21), .int (tI 22), .int (tI 23), .int (tI 24), .int (tI 25), .long t_value, .int (tI 27), .int (tI 28)])), (ad_t_all, .inl (G.2.1 0, 43047, .inl t_all))] (fun r w => r = none ∧ w = [(ad_t, .inr (11, [.ref ad_t_all, .ref ad_t_tape, .ref ad_t_isImage, .int (tI 3), .int (tI 4), .int (tI 5), .int (tI 6), .ref ad_t_size, .ref ad_t_givenRow, .ref ad_t_givenColumn, .ref ad_t_newRow, .int (tI 11), .int (tI 12), .int (tI 13), .int (tI 14), .int (tI 15), .int (tI 16), .int (tI 17), .int (tI 18), .int (tI 19), .ref ad_t_view, .int (tI 21), .int (tI 22), .int (tI 23), .int (tI 24), .int (tI 25), .long t_value, .int (tI 27), .int (tI 28)])), (ad_t_all, .inl (G.2.1 0, 43047, .inl o))]) := by
  refine mE_of (by decide) (Nat.le_of_ble_eq_true rfl) ?_
  intro p e s m below meth cd ls A hx hb hml hown hts hr hlocks hnm hl hA hP hD hS hG
  have hK := hG.1
  have hown : s.vm.findClass RX11 = some m.cls := hown
  have hl : lv_has ls 2 [(0, .ref ad_t)] := hl
  have hS := hS
  unfold fX11_clears at hf
  obtain ⟨H, locs, eH, eL⟩ : ∃ (H : Heap) (locs : List Loc), H = s.heap ∧ locs = [] := ⟨_, _, rfl, rfl⟩
  have hP : va_P G.1 vwCl [(ad_t, .inr (11, [.ref ad_t_all, .ref ad_t_tape, .ref ad_t_isImage, .int (tI 3), .int (tI 4), .int (tI 5), .int (tI 6), .ref ad_t_size, .ref ad_t_givenRow, .ref ad_t_givenColumn, .ref ad_t_newRow, .int (tI 11), .int (tI 12), .int (tI 13), .int (tI 14), .int (tI 15), .int (tI 16), .int (tI 17), .int (tI 18), .int (tI 19), .ref ad_t_view, .int (tI 21), .int (tI 22), .int (tI 23), .int (tI 24), .int (tI 25), .long t_value, .int (tI 27), .int (tI 28)])), (ad_t_all, .inl (G.2.1 0, 43047, .inl t_all))] H := eH ▸ hP
  have hS : va_S A s.heap H locs := by rw [eH, eL]; exact hS
  suffices hgo : wG p l e 0 0 s m [.ref ad_t] below meth cd H locs (eQ G A (fun r w => r = none ∧ w = [(ad_t, .inr (11, [.ref ad_t_all, .ref ad_t_tape, .ref ad_t_isImage, .int (tI 3), .int (tI 4), .int (tI 5), .int (tI 6), .ref ad_t_size, .ref ad_t_givenRow, .ref ad_t_givenColumn, .ref ad_t_newRow, .int (tI 11), .int (tI 12), .int (tI 13), .int (tI 14), .int (tI 15), .int (tI 16), .int (tI 17), .int (tI 18), .int (tI 19), .ref ad_t_view, .int (tI 21), .int (tI 22), .int (tI 23), .int (tI 24), .int (tI 25), .long t_value, .int (tI 27), .int (tI 28)])), (ad_t_all, .inl (G.2.1 0, 43047, .inl o))])) A (F0 m 0 ls []) by rw [eH, eL] at hgo; exact hgo
  clear eH eL
  refine lv_bipush (v := 46) hx hb dX11_clears_0 (by decide) ?_
  refine lv_istore_n (lv' := [(1, .int (46 : Int32)), (0, .ref ad_t)]) hx hb dX11_clears_2 rfl hl (by decide) rfl (fun ls hl => ?_)
  obtain ⟨y4, hLy4, hky4⟩ := bn_some hf
  have Ey4 : ∀  (H : Heap) (locs : List Loc) (ls : Array Slot), lv_has ls 2 [] → va_P G.1 vwCl [(ad_t, .inr (11, [.ref ad_t_all, .ref ad_t_tape, .ref ad_t_isImage, .int (tI 3), .int (tI 4), .int (tI 5), .int (tI 6), .ref ad_t_size, .ref ad_t_givenRow, .ref ad_t_givenColumn, .ref ad_t_newRow, .int (tI 11), .int (tI 12), .int (tI 13), .int (tI 14), .int (tI 15), .int (tI 16), .int (tI 17), .int (tI 18), .int (tI 19), .ref ad_t_view, .int (tI 21), .int (tI 22), .int (tI 23), .int (tI 24), .int (tI 25), .long t_value, .int (tI 27), .int (tI 28)])), (ad_t_all, .inl (G.2.1 0, 43047, .inl y4))] H → va_D A [(ad_t, .inr (11, [.ref ad_t_all, .ref ad_t_tape, .ref ad_t_isImage, .int (tI 3), .int (tI 4), .int (tI 5), .int (tI 6), .ref ad_t_size, .ref ad_t_givenRow, .ref ad_t_givenColumn, .ref ad_t_newRow, .int (tI 11), .int (tI 12), .int (tI 13), .int (tI 14), .int (tI 15), .int (tI 16), .int (tI 17), .int (tI 18), .int (tI 19), .ref ad_t_view, .int (tI 21), .int (tI 22), .int (tI 23), .int (tI 24), .int (tI 25), .long t_value, .int (tI 27), .int (tI 28)])), (ad_t_all, .inl (G.2.1 0, 43047, .inl y4))] → va_S A s.heap H locs → wG p l e 0 0 s m [.ref ad_t] below meth cd H locs (eQ G A (fun r w => r = none ∧ w = [(ad_t, .inr (11, [.ref ad_t_all, .ref ad_t_tape, .ref ad_t_isImage, .int (tI 3), .int (tI 4), .int (tI 5), .int (tI 6), .ref ad_t_size, .ref ad_t_givenRow, .ref ad_t_givenColumn, .ref ad_t_newRow, .int (tI 11), .int (tI 12), .int (tI 13), .int (tI 14), .int (tI 15), .int (tI 16), .int (tI 17), .int (tI 18), .int (tI 19), .ref ad_t_view, .int (tI 21), .int (tI 22), .int (tI 23), .int (tI 24), .int (tI 25), .long t_value, .int (tI 27), .int (tI 28)])), (ad_t_all, .inl (G.2.1 0, 43047, .inl o))])) A (F0 m 23 ls []) := by
    intro  H locs ls hl hP hD hS
    have hf := hky4
    have hf := Option.some.inj hf
    subst hf
    exact eRetV hx hb hr hlocks hP hD hS ⟨rfl, rfl⟩ dX11_clears_23
  have Ly4 : ∀ (n : Nat), ∀ (x5 : Int32) (g6 : Nat → Int32) (H : Heap) (locs : List Loc) (ls : Array Slot), lv_has ls 2 [(1, .int x5), (0, .ref ad_t)] → va_P G.1 vwCl [(ad_t, .inr (11, [.ref ad_t_all, .ref ad_t_tape, .ref ad_t_isImage, .int (tI 3), .int (tI 4), .int (tI 5), .int (tI 6), .ref ad_t_size, .ref ad_t_givenRow, .ref ad_t_givenColumn, .ref ad_t_newRow, .int (tI 11), .int (tI 12), .int (tI 13), .int (tI 14), .int (tI 15), .int (tI 16), .int (tI 17), .int (tI 18), .int (tI 19), .ref ad_t_view, .int (tI 21), .int (tI 22), .int (tI 23), .int (tI 24), .int (tI 25), .long t_value, .int (tI 27), .int (tI 28)])), (ad_t_all, .inl (G.2.1 0, 43047, .inl g6))] H → va_D A [(ad_t, .inr (11, [.ref ad_t_all, .ref ad_t_tape, .ref ad_t_isImage, .int (tI 3), .int (tI 4), .int (tI 5), .int (tI 6), .ref ad_t_size, .ref ad_t_givenRow, .ref ad_t_givenColumn, .ref ad_t_newRow, .int (tI 11), .int (tI 12), .int (tI 13), .int (tI 14), .int (tI 15), .int (tI 16), .int (tI 17), .int (tI 18), .int (tI 19), .ref ad_t_view, .int (tI 21), .int (tI 22), .int (tI 23), .int (tI 24), .int (tI 25), .long t_value, .int (tI 27), .int (tI 28)])), (ad_t_all, .inl (G.2.1 0, 43047, .inl g6))] → va_S A s.heap H locs → fX11_clears_l3 n x5 g6 = some y4 → wG p l e 0 0 s m [.ref ad_t] below meth cd H locs (eQ G A (fun r w => r = none ∧ w = [(ad_t, .inr (11, [.ref ad_t_all, .ref ad_t_tape, .ref ad_t_isImage, .int (tI 3), .int (tI 4), .int (tI 5), .int (tI 6), .ref ad_t_size, .ref ad_t_givenRow, .ref ad_t_givenColumn, .ref ad_t_newRow, .int (tI 11), .int (tI 12), .int (tI 13), .int (tI 14), .int (tI 15), .int (tI 16), .int (tI 17), .int (tI 18), .int (tI 19), .ref ad_t_view, .int (tI 21), .int (tI 22), .int (tI 23), .int (tI 24), .int (tI 25), .long t_value, .int (tI 27), .int (tI 28)])), (ad_t_all, .inl (G.2.1 0, 43047, .inl o))])) A (F0 m 3 ls []) := by
    intro n
    induction n with
    | zero =>
      intro x5 g6 H locs ls hl hP hD hS hf
      rw [fX11_clears_l3] at hf
      cases hf
    | succ n ih =>
      intro x5 g6 H locs ls hl hP hD hS hf
      rw [fX11_clears_l3] at hf
      refine lv_iload_n hx hb dX11_clears_3 rfl (lv_at hl 0 rfl) ?_
      refine lv_sipush (v := 4208) hx hb dX11_clears_4 (by decide) ?_
      refine lv_icmp_ge (tgt := 23) hx hb dX11_clears_7 (by decide) (fun c7 => ?_) (fun c7 => ?_)
      · have hf := if_t hf c7
        have hf := Option.some.inj hf
        subst hf
        exact Ey4  H locs ls (lv_sub hl [] rfl) hP hD hS 
      · have hf := if_f hf c7
        refine lv_aload_n hx hb dX11_clears_10 rfl (lv_at hl 1 rfl) ?_
        refine va_get (D := G.1) (cl := vwCl) (ci := 11) (v := .ref ad_t_all) (C := RX11) (T := TX11) (N := 29) hx hb hts inG11 hown hK hP 0 rfl rfl 0 (Nat.le_of_ble_eq_true rfl) (hts _ q1041) (fun _ h9 => h9) rfl dX11_clears_11 ?_
        refine lv_iload_n hx hb dX11_clears_14 rfl (lv_at hl 0 rfl) ?_
        refine lv_iconst (v := 0) hx hb dX11_clears_15 (by decide) ?_
        obtain ⟨h8, hf⟩ := gd_some hf
        refine va_iast (D := G.1) (cl := vwCl) hx hb hK hP hD hS 1 0 rfl rfl (gi_in h8) dX11_clears_16 (fun H locs hP hD hS => ?_)
        have hP : va_P G.1 vwCl [(ad_t, .inr (11, [.ref ad_t_all, .ref ad_t_tape, .ref ad_t_isImage, .int (tI 3), .int (tI 4), .int (tI 5), .int (tI 6), .ref ad_t_size, .ref ad_t_givenRow, .ref ad_t_givenColumn, .ref ad_t_newRow, .int (tI 11), .int (tI 12), .int (tI 13), .int (tI 14), .int (tI 15), .int (tI 16), .int (tI 17), .int (tI 18), .int (tI 19), .ref ad_t_view, .int (tI 21), .int (tI 22), .int (tI 23), .int (tI 24), .int (tI 25), .long t_value, .int (tI 27), .int (tI 28)])), (ad_t_all, .inl (G.2.1 0, 43047, .inl (upd g6 x5.toNatClampNeg (0 : Int32))))] H := hP
        have hD : va_D A [(ad_t, .inr (11, [.ref ad_t_all, .ref ad_t_tape, .ref ad_t_isImage, .int (tI 3), .int (tI 4), .int (tI 5), .int (tI 6), .ref ad_t_size, .ref ad_t_givenRow, .ref ad_t_givenColumn, .ref ad_t_newRow, .int (tI 11), .int (tI 12), .int (tI 13), .int (tI 14), .int (tI 15), .int (tI 16), .int (tI 17), .int (tI 18), .int (tI 19), .ref ad_t_view, .int (tI 21), .int (tI 22), .int (tI 23), .int (tI 24), .int (tI 25), .long t_value, .int (tI 27), .int (tI 28)])), (ad_t_all, .inl (G.2.1 0, 43047, .inl (upd g6 x5.toNatClampNeg (0 : Int32))))] := hD
        refine lv_iinc (v := (x5 + (1 : Int32))) (lv' := [(1, .int (x5 + (1 : Int32))), (0, .ref ad_t)]) hx hb dX11_clears_17 hl (k := 0) rfl (ii_1 _) (by decide) rfl (fun ls hl => ?_)
        refine lv_goto (tgt := 3) hx hb dX11_clears_20 (by decide) ?_
        exact ih (x5 + (1 : Int32)) (upd g6 x5.toNatClampNeg (0 : Int32)) H locs ls (lv_sub hl [0, 1] rfl) hP hD hS hf
  exact Ly4 FU (46 : Int32) t_all H locs ls (lv_sub hl [0, 1] rfl) hP hD hS hLy4

def fX11_keeps (tI : Nat → Int32) (t_all : Nat → Int32) : Option ((Nat → Int32) × (Nat → Int32)) :=
  (if (tI 6) = (6 : Int32) then bn (fX11_copies t_all (8465 : Int32) (4257 : Int32) (21040 : Int32)) fun a4 => bn (fX11_copies a4 (0 : Int32) ((4257 : Int32) + ((4208 : Int32) * ((tI 6) - (1 : Int32)))) (4208 : Int32)) fun a6 => some ((upd tI 6 (((tI 6) - (1 : Int32)) + (1 : Int32))), a6) else bn (fX11_copies t_all (0 : Int32) ((4257 : Int32) + ((4208 : Int32) * (tI 6))) (4208 : Int32)) fun a2 => some ((upd tI 6 ((tI 6) + (1 : Int32))), a2))
set_option maxRecDepth 100000 in
set_option maxHeartbeats 4000000 in
theorem tX11_keeps (l : Launch) (G : gG) (ad_t ad_t_all ad_t_tape ad_t_isImage ad_t_size ad_t_givenRow ad_t_givenColumn ad_t_newRow ad_t_view : Nat) (tI : Nat → Int32) (t_value : Int64) (t_all : Nat → Int32) (o : (Nat → Int32) × (Nat → Int32)) (hf : fX11_keeps tI t_all = some o) : mE G l yX11_keeps cX11_keeps 1 none 1 24 0 0 [.ref ad_t] [(ad_t, .inr (11, [.ref ad_t_all, .ref ad_t_tape, .ref ad_t_isImage, .int (tI 3), .int (tI 4), .int (tI 5), .int (tI 6), .ref ad_t_size, .ref ad_t_givenRow, .ref ad_t_givenColumn, .ref ad_t_newRow, .int (tI 11), .int (tI 12), .int (tI 13), .int (tI 14), .int (tI 15), .int (tI 16), .int (tI 17), .int (tI 18), .int (tI 19), .ref ad_t_view, .int (tI 21), .int (tI 22), .int (tI 23), .int (tI 24), .int (tI 25), .long t_value, .int (tI 27), .int (tI 28)])), (ad_t_all, .inl (G.2.1 0, 43047, .inl t_all))] (fun r w => r = none ∧ w = [(ad_t, .inr (11, [.ref ad_t_all, .ref ad_t_tape, .ref ad_t_isImage, .int (o.1 3), .int (o.1 4), .int (o.1 5), .int (o.1 6), .ref ad_t_size, .ref ad_t_givenRow, .ref ad_t_givenColumn, .ref ad_t_newRow, .int (o.1 11), .int (o.1 12), .int (o.1 13), .int (o.1 14), .int (o.1 15), .int (o.1 16), .int (o.1 17), .int (o.1 18), .int (o.1 19), .ref ad_t_view, .int (o.1 21), .int (o.1 22), .int (o.1 23), .int (o.1 24), .int (o.1 25), .long t_value, .int (o.1 27), .int (o.1 28)])), (ad_t_all, .inl (G.2.1 0, 43047, .inl o.2))]) := by
  refine mE_of (by decide) (Nat.le_of_ble_eq_true rfl) ?_
  intro p e s m below meth cd ls A hx hb hml hown hts hr hlocks hnm hl hA hP hD hS hG
  have hK := hG.1
  have hown : s.vm.findClass RX11 = some m.cls := hown
  have hl : lv_has ls 1 [(0, .ref ad_t)] := hl
  have hS := hS
  unfold fX11_keeps at hf
  obtain ⟨H, locs, eH, eL⟩ : ∃ (H : Heap) (locs : List Loc), H = s.heap ∧ locs = [] := ⟨_, _, rfl, rfl⟩
  have hP : va_P G.1 vwCl [(ad_t, .inr (11, [.ref ad_t_all, .ref ad_t_tape, .ref ad_t_isImage, .int (tI 3), .int (tI 4), .int (tI 5), .int (tI 6), .ref ad_t_size, .ref ad_t_givenRow, .ref ad_t_givenColumn, .ref ad_t_newRow, .int (tI 11), .int (tI 12), .int (tI 13), .int (tI 14), .int (tI 15), .int (tI 16), .int (tI 17), .int (tI 18), .int (tI 19), .ref ad_t_view, .int (tI 21), .int (tI 22), .int (tI 23), .int (tI 24), .int (tI 25), .long t_value, .int (tI 27), .int (tI 28)])), (ad_t_all, .inl (G.2.1 0, 43047, .inl t_all))] H := eH ▸ hP
  have hS : va_S A s.heap H locs := by rw [eH, eL]; exact hS
  suffices hgo : wG p l e 1 24 s m [.ref ad_t] below meth cd H locs (eQ G A (fun r w => r = none ∧ w = [(ad_t, .inr (11, [.ref ad_t_all, .ref ad_t_tape, .ref ad_t_isImage, .int (o.1 3), .int (o.1 4), .int (o.1 5), .int (o.1 6), .ref ad_t_size, .ref ad_t_givenRow, .ref ad_t_givenColumn, .ref ad_t_newRow, .int (o.1 11), .int (o.1 12), .int (o.1 13), .int (o.1 14), .int (o.1 15), .int (o.1 16), .int (o.1 17), .int (o.1 18), .int (o.1 19), .ref ad_t_view, .int (o.1 21), .int (o.1 22), .int (o.1 23), .int (o.1 24), .int (o.1 25), .long t_value, .int (o.1 27), .int (o.1 28)])), (ad_t_all, .inl (G.2.1 0, 43047, .inl o.2))])) A (F0 m 0 ls []) by rw [eH, eL] at hgo; exact hgo
  clear eH eL
  refine lv_aload_n hx hb dX11_keeps_0 rfl (lv_at hl 0 rfl) ?_
  refine va_get (D := G.1) (cl := vwCl) (ci := 11) (v := .int (tI 6)) (C := RX11) (T := TX11) (N := 29) hx hb hts inG11 hown hK hP 0 rfl rfl 6 (Nat.le_of_ble_eq_true rfl) (hts _ q1047) (fun _ h9 => h9) rfl dX11_keeps_1 ?_
  refine lv_bipush (v := 6) hx hb dX11_keeps_4 (by decide) ?_
  refine lv_icmp_ne (tgt := 32) hx hb dX11_keeps_6 (by decide) (fun c8 => ?_) (fun c8 => ?_)
  · have hf := if_f hf c8
    refine lv_aload_n hx hb dX11_keeps_32 rfl (lv_at hl 0 rfl) ?_
    refine lv_iconst (v := 0) hx hb dX11_keeps_33 (by decide) ?_
    refine lv_sipush (v := 4257) hx hb dX11_keeps_34 (by decide) ?_
    refine lv_sipush (v := 4208) hx hb dX11_keeps_37 (by decide) ?_
    refine lv_aload_n hx hb dX11_keeps_40 rfl (lv_at hl 0 rfl) ?_
    refine va_get (D := G.1) (cl := vwCl) (ci := 11) (v := .int (tI 6)) (C := RX11) (T := TX11) (N := 29) hx hb hts inG11 hown hK hP 0 rfl rfl 6 (Nat.le_of_ble_eq_true rfl) (hts _ q1047) (fun _ h9 => h9) rfl dX11_keeps_41 ?_
    refine lv_imul hx hb dX11_keeps_44 ?_
    refine lv_iadd hx hb dX11_keeps_45 ?_
    refine lv_sipush (v := 4208) hx hb dX11_keeps_46 (by decide) ?_
    obtain ⟨a9, h10, hf⟩ := bn_some hf
    refine kEV (tX11_copies l G ad_t ad_t_all ad_t_tape ad_t_isImage ad_t_size ad_t_givenRow ad_t_givenColumn ad_t_newRow ad_t_view tI t_value t_all (0 : Int32) ((4257 : Int32) + ((4208 : Int32) * (tI 6))) (4208 : Int32) a9 h10) ⟨hx, hb, hml, hown, hts⟩ q1147 q1149 q40 q108 q1150 okyX11_copies ⟨Nat.le_of_ble_eq_true rfl, Nat.le_of_ble_eq_true rfl⟩ hP hD hG hS hA [0, 1] [] rfl (wr := []) rfl (by decide) 0 rfl rfl hl.1 rfl (Nat.le_of_ble_eq_true rfl) dX11_keeps_49 ⟨Nat.zero_le _, Nat.zero_le _⟩ (fun r w H locs hR hP hD hS => ?_)
    obtain ⟨rfl, rfl⟩ := hR
    have hP : va_P G.1 vwCl [(ad_t, .inr (11, [.ref ad_t_all, .ref ad_t_tape, .ref ad_t_isImage, .int (tI 3), .int (tI 4), .int (tI 5), .int (tI 6), .ref ad_t_size, .ref ad_t_givenRow, .ref ad_t_givenColumn, .ref ad_t_newRow, .int (tI 11), .int (tI 12), .int (tI 13), .int (tI 14), .int (tI 15), .int (tI 16), .int (tI 17), .int (tI 18), .int (tI 19), .ref ad_t_view, .int (tI 21), .int (tI 22), .int (tI 23), .int (tI 24), .int (tI 25), .long t_value, .int (tI 27), .int (tI 28)])), (ad_t_all, .inl (G.2.1 0, 43047, .inl a9))] H := hP
    have hD : va_D A [(ad_t, .inr (11, [.ref ad_t_all, .ref ad_t_tape, .ref ad_t_isImage, .int (tI 3), .int (tI 4), .int (tI 5), .int (tI 6), .ref ad_t_size, .ref ad_t_givenRow, .ref ad_t_givenColumn, .ref ad_t_newRow, .int (tI 11), .int (tI 12), .int (tI 13), .int (tI 14), .int (tI 15), .int (tI 16), .int (tI 17), .int (tI 18), .int (tI 19), .ref ad_t_view, .int (tI 21), .int (tI 22), .int (tI 23), .int (tI 24), .int (tI 25), .long t_value, .int (tI 27), .int (tI 28)])), (ad_t_all, .inl (G.2.1 0, 43047, .inl a9))] := hD
    refine W.eq (g2 := F0 m 52 ls []) rfl ?_
    refine lv_aload_n hx hb dX11_keeps_52 rfl (lv_at hl 0 rfl) ?_
    refine lv_dup hx hb dX11_keeps_53 rfl ?_
    refine va_get (D := G.1) (cl := vwCl) (ci := 11) (v := .int (tI 6)) (C := RX11) (T := TX11) (N := 29) hx hb hts inG11 hown hK hP 0 rfl rfl 6 (Nat.le_of_ble_eq_true rfl) (hts _ q1047) (fun _ h9 => h9) rfl dX11_keeps_54 ?_
    refine lv_iconst (v := 1) hx hb dX11_keeps_57 (by decide) ?_
    refine lv_iadd hx hb dX11_keeps_58 ?_
    refine va_put (D := G.1) (cl := vwCl) (ci := 11) (v := .int ((tI 6) + (1 : Int32))) (ty := .int) (C := RX11) (T := TX11) (N := 29) hx hb hts inG11 tyX11 tyX11_ok nmX11 hown hK hP hD hS 0 rfl rfl 6 (Nat.le_of_ble_eq_true rfl) (hts _ q1047) (fun _ h9 => h9) rfl (tyX11_ok 6 (Nat.le_of_ble_eq_true rfl)) rfl rfl (Nat.le_of_ble_eq_true rfl) dX11_keeps_59 (fun H locs hP hD hS => ?_)
    have hP : va_P G.1 vwCl [(ad_t, .inr (11, [.ref ad_t_all, .ref ad_t_tape, .ref ad_t_isImage, .int (tI 3), .int (tI 4), .int (tI 5), .int ((tI 6) + (1 : Int32)), .ref ad_t_size, .ref ad_t_givenRow, .ref ad_t_givenColumn, .ref ad_t_newRow, .int (tI 11), .int (tI 12), .int (tI 13), .int (tI 14), .int (tI 15), .int (tI 16), .int (tI 17), .int (tI 18), .int (tI 19), .ref ad_t_view, .int (tI 21), .int (tI 22), .int (tI 23), .int (tI 24), .int (tI 25), .long t_value, .int (tI 27), .int (tI 28)])), (ad_t_all, .inl (G.2.1 0, 43047, .inl a9))] H := hP
    have hD : va_D A [(ad_t, .inr (11, [.ref ad_t_all, .ref ad_t_tape, .ref ad_t_isImage, .int (tI 3), .int (tI 4), .int (tI 5), .int ((tI 6) + (1 : Int32)), .ref ad_t_size, .ref ad_t_givenRow, .ref ad_t_givenColumn, .ref ad_t_newRow, .int (tI 11), .int (tI 12), .int (tI 13), .int (tI 14), .int (tI 15), .int (tI 16), .int (tI 17), .int (tI 18), .int (tI 19), .ref ad_t_view, .int (tI 21), .int (tI 22), .int (tI 23), .int (tI 24), .int (tI 25), .long t_value, .int (tI 27), .int (tI 28)])), (ad_t_all, .inl (G.2.1 0, 43047, .inl a9))] := hD
    have hf := Option.some.inj hf
    subst hf
    exact eRetV hx hb hr hlocks hP hD hS ⟨rfl, rfl⟩ dX11_keeps_62
  · have hf := if_t hf c8
    refine lv_aload_n hx hb dX11_keeps_9 rfl (lv_at hl 0 rfl) ?_
    refine lv_sipush (v := 8465) hx hb dX11_keeps_10 (by decide) ?_
    refine lv_sipush (v := 4257) hx hb dX11_keeps_13 (by decide) ?_
    refine lv_sipush (v := 21040) hx hb dX11_keeps_16 (by decide) ?_
    obtain ⟨a11, h12, hf⟩ := bn_some hf
    refine kEV (tX11_copies l G ad_t ad_t_all ad_t_tape ad_t_isImage ad_t_size ad_t_givenRow ad_t_givenColumn ad_t_newRow ad_t_view tI t_value t_all (8465 : Int32) (4257 : Int32) (21040 : Int32) a11 h12) ⟨hx, hb, hml, hown, hts⟩ q1147 q1149 q40 q108 q1150 okyX11_copies ⟨Nat.le_of_ble_eq_true rfl, Nat.le_of_ble_eq_true rfl⟩ hP hD hG hS hA [0, 1] [] rfl (wr := []) rfl (by decide) 0 rfl rfl hl.1 rfl (Nat.le_of_ble_eq_true rfl) dX11_keeps_19 ⟨Nat.zero_le _, Nat.zero_le _⟩ (fun r w H locs hR hP hD hS => ?_)
    obtain ⟨rfl, rfl⟩ := hR
    have hP : va_P G.1 vwCl [(ad_t, .inr (11, [.ref ad_t_all, .ref ad_t_tape, .ref ad_t_isImage, .int (tI 3), .int (tI 4), .int (tI 5), .int (tI 6), .ref ad_t_size, .ref ad_t_givenRow, .ref ad_t_givenColumn, .ref ad_t_newRow, .int (tI 11), .int (tI 12), .int (tI 13), .int (tI 14), .int (tI 15), .int (tI 16), .int (tI 17), .int (tI 18), .int (tI 19), .ref ad_t_view, .int (tI 21), .int (tI 22), .int (tI 23), .int (tI 24), .int (tI 25), .long t_value, .int (tI 27), .int (tI 28)])), (ad_t_all, .inl (G.2.1 0, 43047, .inl a11))] H := hP
    have hD : va_D A [(ad_t, .inr (11, [.ref ad_t_all, .ref ad_t_tape, .ref ad_t_isImage, .int (tI 3), .int (tI 4), .int (tI 5), .int (tI 6), .ref ad_t_size, .ref ad_t_givenRow, .ref ad_t_givenColumn, .ref ad_t_newRow, .int (tI 11), .int (tI 12), .int (tI 13), .int (tI 14), .int (tI 15), .int (tI 16), .int (tI 17), .int (tI 18), .int (tI 19), .ref ad_t_view, .int (tI 21), .int (tI 22), .int (tI 23), .int (tI 24), .int (tI 25), .long t_value, .int (tI 27), .int (tI 28)])), (ad_t_all, .inl (G.2.1 0, 43047, .inl a11))] := hD
    refine W.eq (g2 := F0 m 22 ls []) rfl ?_
    refine lv_aload_n hx hb dX11_keeps_22 rfl (lv_at hl 0 rfl) ?_
    refine lv_dup hx hb dX11_keeps_23 rfl ?_
    refine va_get (D := G.1) (cl := vwCl) (ci := 11) (v := .int (tI 6)) (C := RX11) (T := TX11) (N := 29) hx hb hts inG11 hown hK hP 0 rfl rfl 6 (Nat.le_of_ble_eq_true rfl) (hts _ q1047) (fun _ h9 => h9) rfl dX11_keeps_24 ?_
    refine lv_iconst (v := 1) hx hb dX11_keeps_27 (by decide) ?_
    refine lv_isub hx hb dX11_keeps_28 ?_
    refine va_put (D := G.1) (cl := vwCl) (ci := 11) (v := .int ((tI 6) - (1 : Int32))) (ty := .int) (C := RX11) (T := TX11) (N := 29) hx hb hts inG11 tyX11 tyX11_ok nmX11 hown hK hP hD hS 0 rfl rfl 6 (Nat.le_of_ble_eq_true rfl) (hts _ q1047) (fun _ h9 => h9) rfl (tyX11_ok 6 (Nat.le_of_ble_eq_true rfl)) rfl rfl (Nat.le_of_ble_eq_true rfl) dX11_keeps_29 (fun H locs hP hD hS => ?_)
    have hP : va_P G.1 vwCl [(ad_t, .inr (11, [.ref ad_t_all, .ref ad_t_tape, .ref ad_t_isImage, .int (tI 3), .int (tI 4), .int (tI 5), .int ((tI 6) - (1 : Int32)), .ref ad_t_size, .ref ad_t_givenRow, .ref ad_t_givenColumn, .ref ad_t_newRow, .int (tI 11), .int (tI 12), .int (tI 13), .int (tI 14), .int (tI 15), .int (tI 16), .int (tI 17), .int (tI 18), .int (tI 19), .ref ad_t_view, .int (tI 21), .int (tI 22), .int (tI 23), .int (tI 24), .int (tI 25), .long t_value, .int (tI 27), .int (tI 28)])), (ad_t_all, .inl (G.2.1 0, 43047, .inl a11))] H := hP
    have hD : va_D A [(ad_t, .inr (11, [.ref ad_t_all, .ref ad_t_tape, .ref ad_t_isImage, .int (tI 3), .int (tI 4), .int (tI 5), .int ((tI 6) - (1 : Int32)), .ref ad_t_size, .ref ad_t_givenRow, .ref ad_t_givenColumn, .ref ad_t_newRow, .int (tI 11), .int (tI 12), .int (tI 13), .int (tI 14), .int (tI 15), .int (tI 16), .int (tI 17), .int (tI 18), .int (tI 19), .ref ad_t_view, .int (tI 21), .int (tI 22), .int (tI 23), .int (tI 24), .int (tI 25), .long t_value, .int (tI 27), .int (tI 28)])), (ad_t_all, .inl (G.2.1 0, 43047, .inl a11))] := hD
    refine lv_aload_n hx hb dX11_keeps_32 rfl (lv_at hl 0 rfl) ?_
    refine lv_iconst (v := 0) hx hb dX11_keeps_33 (by decide) ?_
    refine lv_sipush (v := 4257) hx hb dX11_keeps_34 (by decide) ?_
    refine lv_sipush (v := 4208) hx hb dX11_keeps_37 (by decide) ?_
    refine lv_aload_n hx hb dX11_keeps_40 rfl (lv_at hl 0 rfl) ?_
    refine va_get (D := G.1) (cl := vwCl) (ci := 11) (v := .int ((tI 6) - (1 : Int32))) (C := RX11) (T := TX11) (N := 29) hx hb hts inG11 hown hK hP 0 rfl rfl 6 (Nat.le_of_ble_eq_true rfl) (hts _ q1047) (fun _ h9 => h9) rfl dX11_keeps_41 ?_
    refine lv_imul hx hb dX11_keeps_44 ?_
    refine lv_iadd hx hb dX11_keeps_45 ?_
    refine lv_sipush (v := 4208) hx hb dX11_keeps_46 (by decide) ?_
    obtain ⟨a13, h14, hf⟩ := bn_some hf
    refine kEV (tX11_copies l G ad_t ad_t_all ad_t_tape ad_t_isImage ad_t_size ad_t_givenRow ad_t_givenColumn ad_t_newRow ad_t_view (upd tI 6 ((tI 6) - (1 : Int32))) t_value a11 (0 : Int32) ((4257 : Int32) + ((4208 : Int32) * ((tI 6) - (1 : Int32)))) (4208 : Int32) a13 h14) ⟨hx, hb, hml, hown, hts⟩ q1147 q1149 q40 q108 q1150 okyX11_copies ⟨Nat.le_of_ble_eq_true rfl, Nat.le_of_ble_eq_true rfl⟩ hP hD hG hS hA [0, 1] [] rfl (wr := []) rfl (by decide) 0 rfl rfl hl.1 rfl (Nat.le_of_ble_eq_true rfl) dX11_keeps_49 ⟨Nat.zero_le _, Nat.zero_le _⟩ (fun r w H locs hR hP hD hS => ?_)
    obtain ⟨rfl, rfl⟩ := hR
    have hP : va_P G.1 vwCl [(ad_t, .inr (11, [.ref ad_t_all, .ref ad_t_tape, .ref ad_t_isImage, .int (tI 3), .int (tI 4), .int (tI 5), .int ((tI 6) - (1 : Int32)), .ref ad_t_size, .ref ad_t_givenRow, .ref ad_t_givenColumn, .ref ad_t_newRow, .int (tI 11), .int (tI 12), .int (tI 13), .int (tI 14), .int (tI 15), .int (tI 16), .int (tI 17), .int (tI 18), .int (tI 19), .ref ad_t_view, .int (tI 21), .int (tI 22), .int (tI 23), .int (tI 24), .int (tI 25), .long t_value, .int (tI 27), .int (tI 28)])), (ad_t_all, .inl (G.2.1 0, 43047, .inl a13))] H := hP
    have hD : va_D A [(ad_t, .inr (11, [.ref ad_t_all, .ref ad_t_tape, .ref ad_t_isImage, .int (tI 3), .int (tI 4), .int (tI 5), .int ((tI 6) - (1 : Int32)), .ref ad_t_size, .ref ad_t_givenRow, .ref ad_t_givenColumn, .ref ad_t_newRow, .int (tI 11), .int (tI 12), .int (tI 13), .int (tI 14), .int (tI 15), .int (tI 16), .int (tI 17), .int (tI 18), .int (tI 19), .ref ad_t_view, .int (tI 21), .int (tI 22), .int (tI 23), .int (tI 24), .int (tI 25), .long t_value, .int (tI 27), .int (tI 28)])), (ad_t_all, .inl (G.2.1 0, 43047, .inl a13))] := hD
    refine W.eq (g2 := F0 m 52 ls []) rfl ?_
    refine lv_aload_n hx hb dX11_keeps_52 rfl (lv_at hl 0 rfl) ?_
    refine lv_dup hx hb dX11_keeps_53 rfl ?_
    refine va_get (D := G.1) (cl := vwCl) (ci := 11) (v := .int ((tI 6) - (1 : Int32))) (C := RX11) (T := TX11) (N := 29) hx hb hts inG11 hown hK hP 0 rfl rfl 6 (Nat.le_of_ble_eq_true rfl) (hts _ q1047) (fun _ h9 => h9) rfl dX11_keeps_54 ?_
    refine lv_iconst (v := 1) hx hb dX11_keeps_57 (by decide) ?_
    refine lv_iadd hx hb dX11_keeps_58 ?_
    refine va_put (D := G.1) (cl := vwCl) (ci := 11) (v := .int (((tI 6) - (1 : Int32)) + (1 : Int32))) (ty := .int) (C := RX11) (T := TX11) (N := 29) hx hb hts inG11 tyX11 tyX11_ok nmX11 hown hK hP hD hS 0 rfl rfl 6 (Nat.le_of_ble_eq_true rfl) (hts _ q1047) (fun _ h9 => h9) rfl (tyX11_ok 6 (Nat.le_of_ble_eq_true rfl)) rfl rfl (Nat.le_of_ble_eq_true rfl) dX11_keeps_59 (fun H locs hP hD hS => ?_)
    have hP : va_P G.1 vwCl [(ad_t, .inr (11, [.ref ad_t_all, .ref ad_t_tape, .ref ad_t_isImage, .int (tI 3), .int (tI 4), .int (tI 5), .int (((tI 6) - (1 : Int32)) + (1 : Int32)), .ref ad_t_size, .ref ad_t_givenRow, .ref ad_t_givenColumn, .ref ad_t_newRow, .int (tI 11), .int (tI 12), .int (tI 13), .int (tI 14), .int (tI 15), .int (tI 16), .int (tI 17), .int (tI 18), .int (tI 19), .ref ad_t_view, .int (tI 21), .int (tI 22), .int (tI 23), .int (tI 24), .int (tI 25), .long t_value, .int (tI 27), .int (tI 28)])), (ad_t_all, .inl (G.2.1 0, 43047, .inl a13))] H := hP
    have hD : va_D A [(ad_t, .inr (11, [.ref ad_t_all, .ref ad_t_tape, .ref ad_t_isImage, .int (tI 3), .int (tI 4), .int (tI 5), .int (((tI 6) - (1 : Int32)) + (1 : Int32)), .ref ad_t_size, .ref ad_t_givenRow, .ref ad_t_givenColumn, .ref ad_t_newRow, .int (tI 11), .int (tI 12), .int (tI 13), .int (tI 14), .int (tI 15), .int (tI 16), .int (tI 17), .int (tI 18), .int (tI 19), .ref ad_t_view, .int (tI 21), .int (tI 22), .int (tI 23), .int (tI 24), .int (tI 25), .long t_value, .int (tI 27), .int (tI 28)])), (ad_t_all, .inl (G.2.1 0, 43047, .inl a13))] := hD
    have hf := Option.some.inj hf
    subst hf
    exact eRetV hx hb hr hlocks hP hD hS ⟨rfl, rfl⟩ dX11_keeps_62

def fX11_refused (t_all : Nat → Int32) (p0 : Int32) (p1 : Int32) : Option (Int32 × (Nat → Int32)) :=
  some (p0, (upd (upd (upd t_all 4208 p0) 4209 p1) 4210 (0 : Int32)))
set_option maxRecDepth 100000 in
set_option maxHeartbeats 4000000 in
theorem tX11_refused (l : Launch) (G : gG) (ad_t ad_t_all ad_t_tape ad_t_isImage ad_t_size ad_t_givenRow ad_t_givenColumn ad_t_newRow ad_t_view : Nat) (tI : Nat → Int32) (t_value : Int64) (t_all : Nat → Int32) (p0 : Int32) (p1 : Int32) (o : Int32 × (Nat → Int32)) (hf : fX11_refused t_all p0 p1 = some o) : mE G l yX11_refused cX11_refused 3 (some .int) 0 0 0 0 [.ref ad_t, .int p0, .int p1] [(ad_t, .inr (11, [.ref ad_t_all, .ref ad_t_tape, .ref ad_t_isImage, .int (tI 3), .int (tI 4), .int (tI 5), .int (tI 6), .ref ad_t_size, .ref ad_t_givenRow, .ref ad_t_givenColumn, .ref ad_t_newRow, .int (tI 11), .int (tI 12), .int (tI 13), .int (tI 14), .int (tI 15), .int (tI 16), .int (tI 17), .int (tI 18), .int (tI 19), .ref ad_t_view, .int (tI 21), .int (tI 22), .int (tI 23), .int (tI 24), .int (tI 25), .long t_value, .int (tI 27), .int (tI 28)])), (ad_t_all, .inl (G.2.1 0, 43047, .inl t_all))] (fun r w => r = (some (.int o.1)) ∧ w = [(ad_t, .inr (11, [.ref ad_t_all, .ref ad_t_tape, .ref ad_t_isImage, .int (tI 3), .int (tI 4), .int (tI 5), .int (tI 6), .ref ad_t_size, .ref ad_t_givenRow, .ref ad_t_givenColumn, .ref ad_t_newRow, .int (tI 11), .int (tI 12), .int (tI 13), .int (tI 14), .int (tI 15), .int (tI 16), .int (tI 17), .int (tI 18), .int (tI 19), .ref ad_t_view, .int (tI 21), .int (tI 22), .int (tI 23), .int (tI 24), .int (tI 25), .long t_value, .int (tI 27), .int (tI 28)])), (ad_t_all, .inl (G.2.1 0, 43047, .inl o.2))]) := by
  refine mE_of (by decide) (Nat.le_of_ble_eq_true rfl) ?_
  intro p e s m below meth cd ls A hx hb hml hown hts hr hlocks hnm hl hA hP hD hS hG
  have hK := hG.1
  have hown : s.vm.findClass RX11 = some m.cls := hown
  have hl : lv_has ls 3 [(0, .ref ad_t), (1, .int p0), (2, .int p1)] := hl
  have hS := hS
  unfold fX11_refused at hf
  obtain ⟨H, locs, eH, eL⟩ : ∃ (H : Heap) (locs : List Loc), H = s.heap ∧ locs = [] := ⟨_, _, rfl, rfl⟩
  have hP : va_P G.1 vwCl [(ad_t, .inr (11, [.ref ad_t_all, .ref ad_t_tape, .ref ad_t_isImage, .int (tI 3), .int (tI 4), .int (tI 5), .int (tI 6), .ref ad_t_size, .ref ad_t_givenRow, .ref ad_t_givenColumn, .ref ad_t_newRow, .int (tI 11), .int (tI 12), .int (tI 13), .int (tI 14), .int (tI 15), .int (tI 16), .int (tI 17), .int (tI 18), .int (tI 19), .ref ad_t_view, .int (tI 21), .int (tI 22), .int (tI 23), .int (tI 24), .int (tI 25), .long t_value, .int (tI 27), .int (tI 28)])), (ad_t_all, .inl (G.2.1 0, 43047, .inl t_all))] H := eH ▸ hP
  have hS : va_S A s.heap H locs := by rw [eH, eL]; exact hS
  suffices hgo : wG p l e 0 0 s m [.ref ad_t, .int p0, .int p1] below meth cd H locs (eQ G A (fun r w => r = (some (.int o.1)) ∧ w = [(ad_t, .inr (11, [.ref ad_t_all, .ref ad_t_tape, .ref ad_t_isImage, .int (tI 3), .int (tI 4), .int (tI 5), .int (tI 6), .ref ad_t_size, .ref ad_t_givenRow, .ref ad_t_givenColumn, .ref ad_t_newRow, .int (tI 11), .int (tI 12), .int (tI 13), .int (tI 14), .int (tI 15), .int (tI 16), .int (tI 17), .int (tI 18), .int (tI 19), .ref ad_t_view, .int (tI 21), .int (tI 22), .int (tI 23), .int (tI 24), .int (tI 25), .long t_value, .int (tI 27), .int (tI 28)])), (ad_t_all, .inl (G.2.1 0, 43047, .inl o.2))])) A (F0 m 0 ls []) by rw [eH, eL] at hgo; exact hgo
  clear eH eL
  refine lv_aload_n hx hb dX11_refused_0 rfl (lv_at hl 0 rfl) ?_
  refine va_get (D := G.1) (cl := vwCl) (ci := 11) (v := .ref ad_t_all) (C := RX11) (T := TX11) (N := 29) hx hb hts inG11 hown hK hP 0 rfl rfl 0 (Nat.le_of_ble_eq_true rfl) (hts _ q1041) (fun _ h9 => h9) rfl dX11_refused_1 ?_
  refine lv_sipush (v := 4208) hx hb dX11_refused_4 (by decide) ?_
  refine lv_iload_n hx hb dX11_refused_7 rfl (lv_at hl 1 rfl) ?_
  refine va_iast (D := G.1) (cl := vwCl) hx hb hK hP hD hS 1 0 rfl rfl (vin (by decide)) dX11_refused_8 (fun H locs hP hD hS => ?_)
  have hP : va_P G.1 vwCl [(ad_t, .inr (11, [.ref ad_t_all, .ref ad_t_tape, .ref ad_t_isImage, .int (tI 3), .int (tI 4), .int (tI 5), .int (tI 6), .ref ad_t_size, .ref ad_t_givenRow, .ref ad_t_givenColumn, .ref ad_t_newRow, .int (tI 11), .int (tI 12), .int (tI 13), .int (tI 14), .int (tI 15), .int (tI 16), .int (tI 17), .int (tI 18), .int (tI 19), .ref ad_t_view, .int (tI 21), .int (tI 22), .int (tI 23), .int (tI 24), .int (tI 25), .long t_value, .int (tI 27), .int (tI 28)])), (ad_t_all, .inl (G.2.1 0, 43047, .inl (upd t_all 4208 p0)))] H := hP
  have hD : va_D A [(ad_t, .inr (11, [.ref ad_t_all, .ref ad_t_tape, .ref ad_t_isImage, .int (tI 3), .int (tI 4), .int (tI 5), .int (tI 6), .ref ad_t_size, .ref ad_t_givenRow, .ref ad_t_givenColumn, .ref ad_t_newRow, .int (tI 11), .int (tI 12), .int (tI 13), .int (tI 14), .int (tI 15), .int (tI 16), .int (tI 17), .int (tI 18), .int (tI 19), .ref ad_t_view, .int (tI 21), .int (tI 22), .int (tI 23), .int (tI 24), .int (tI 25), .long t_value, .int (tI 27), .int (tI 28)])), (ad_t_all, .inl (G.2.1 0, 43047, .inl (upd t_all 4208 p0)))] := hD
  refine lv_aload_n hx hb dX11_refused_9 rfl (lv_at hl 0 rfl) ?_
  refine va_get (D := G.1) (cl := vwCl) (ci := 11) (v := .ref ad_t_all) (C := RX11) (T := TX11) (N := 29) hx hb hts inG11 hown hK hP 0 rfl rfl 0 (Nat.le_of_ble_eq_true rfl) (hts _ q1041) (fun _ h9 => h9) rfl dX11_refused_10 ?_
  refine lv_sipush (v := 4209) hx hb dX11_refused_13 (by decide) ?_
  refine lv_iload_n hx hb dX11_refused_16 rfl (lv_at hl 2 rfl) ?_
  refine va_iast (D := G.1) (cl := vwCl) hx hb hK hP hD hS 1 0 rfl rfl (vin (by decide)) dX11_refused_17 (fun H locs hP hD hS => ?_)
  have hP : va_P G.1 vwCl [(ad_t, .inr (11, [.ref ad_t_all, .ref ad_t_tape, .ref ad_t_isImage, .int (tI 3), .int (tI 4), .int (tI 5), .int (tI 6), .ref ad_t_size, .ref ad_t_givenRow, .ref ad_t_givenColumn, .ref ad_t_newRow, .int (tI 11), .int (tI 12), .int (tI 13), .int (tI 14), .int (tI 15), .int (tI 16), .int (tI 17), .int (tI 18), .int (tI 19), .ref ad_t_view, .int (tI 21), .int (tI 22), .int (tI 23), .int (tI 24), .int (tI 25), .long t_value, .int (tI 27), .int (tI 28)])), (ad_t_all, .inl (G.2.1 0, 43047, .inl (upd (upd t_all 4208 p0) 4209 p1)))] H := hP
  have hD : va_D A [(ad_t, .inr (11, [.ref ad_t_all, .ref ad_t_tape, .ref ad_t_isImage, .int (tI 3), .int (tI 4), .int (tI 5), .int (tI 6), .ref ad_t_size, .ref ad_t_givenRow, .ref ad_t_givenColumn, .ref ad_t_newRow, .int (tI 11), .int (tI 12), .int (tI 13), .int (tI 14), .int (tI 15), .int (tI 16), .int (tI 17), .int (tI 18), .int (tI 19), .ref ad_t_view, .int (tI 21), .int (tI 22), .int (tI 23), .int (tI 24), .int (tI 25), .long t_value, .int (tI 27), .int (tI 28)])), (ad_t_all, .inl (G.2.1 0, 43047, .inl (upd (upd t_all 4208 p0) 4209 p1)))] := hD
  refine lv_aload_n hx hb dX11_refused_18 rfl (lv_at hl 0 rfl) ?_
  refine va_get (D := G.1) (cl := vwCl) (ci := 11) (v := .ref ad_t_all) (C := RX11) (T := TX11) (N := 29) hx hb hts inG11 hown hK hP 0 rfl rfl 0 (Nat.le_of_ble_eq_true rfl) (hts _ q1041) (fun _ h9 => h9) rfl dX11_refused_19 ?_
  refine lv_sipush (v := 4210) hx hb dX11_refused_22 (by decide) ?_
  refine lv_iconst (v := 0) hx hb dX11_refused_25 (by decide) ?_
  refine va_iast (D := G.1) (cl := vwCl) hx hb hK hP hD hS 1 0 rfl rfl (vin (by decide)) dX11_refused_26 (fun H locs hP hD hS => ?_)
  have hP : va_P G.1 vwCl [(ad_t, .inr (11, [.ref ad_t_all, .ref ad_t_tape, .ref ad_t_isImage, .int (tI 3), .int (tI 4), .int (tI 5), .int (tI 6), .ref ad_t_size, .ref ad_t_givenRow, .ref ad_t_givenColumn, .ref ad_t_newRow, .int (tI 11), .int (tI 12), .int (tI 13), .int (tI 14), .int (tI 15), .int (tI 16), .int (tI 17), .int (tI 18), .int (tI 19), .ref ad_t_view, .int (tI 21), .int (tI 22), .int (tI 23), .int (tI 24), .int (tI 25), .long t_value, .int (tI 27), .int (tI 28)])), (ad_t_all, .inl (G.2.1 0, 43047, .inl (upd (upd (upd t_all 4208 p0) 4209 p1) 4210 (0 : Int32))))] H := hP
  have hD : va_D A [(ad_t, .inr (11, [.ref ad_t_all, .ref ad_t_tape, .ref ad_t_isImage, .int (tI 3), .int (tI 4), .int (tI 5), .int (tI 6), .ref ad_t_size, .ref ad_t_givenRow, .ref ad_t_givenColumn, .ref ad_t_newRow, .int (tI 11), .int (tI 12), .int (tI 13), .int (tI 14), .int (tI 15), .int (tI 16), .int (tI 17), .int (tI 18), .int (tI 19), .ref ad_t_view, .int (tI 21), .int (tI 22), .int (tI 23), .int (tI 24), .int (tI 25), .long t_value, .int (tI 27), .int (tI 28)])), (ad_t_all, .inl (G.2.1 0, 43047, .inl (upd (upd (upd t_all 4208 p0) 4209 p1) 4210 (0 : Int32))))] := hD
  refine lv_iload_n hx hb dX11_refused_27 rfl (lv_at hl 1 rfl) ?_
  have hf := Option.some.inj hf
  subst hf
  exact eRet hx hb hr hlocks hP hD hS ⟨rfl, rfl⟩ dX11_refused_28

def fX11_canBe (p0 : Int32) (p1 : Int32) : Bool :=
  (if p0 = (0 : Int32) then (if (bi (fX11_isIn p1 (16 : Int32) (1024 : Int32))) = 0 then false else (if (p1 &&& (p1 - (1 : Int32))) = 0 then true else false)) else (if p0 = (1 : Int32) then (fX11_isIn p1 (1 : Int32) (32 : Int32)) else (if p0 = (2 : Int32) then (if p1 = 0 then true else (if (bi (fX11_isMux p1)) = 0 then false else true)) else (if p0 = (3 : Int32) then (fX11_isIn p1 (0 : Int32) (4 : Int32)) else (if p0 = (4 : Int32) then (fX11_isIn p1 (0 : Int32) (2 : Int32)) else (if p0 = (5 : Int32) then (fX11_isIn p1 (1 : Int32) (20 : Int32)) else (if p0 = (6 : Int32) then (fX11_isIn p1 (1 : Int32) (20 : Int32)) else (if p0 = (7 : Int32) then (fX11_isIn p1 (0 : Int32) (100 : Int32)) else (if p0 = (8 : Int32) then (fX11_isIn p1 (0 : Int32) (2 : Int32)) else false)))))))))
set_option maxRecDepth 100000 in
set_option maxHeartbeats 4000000 in
theorem tX11_canBe (l : Launch) (G : gG) (p0 : Int32) (p1 : Int32) (o : Bool) (hf : fX11_canBe p0 p1 = o) : mP G l yX11_canBe cX11_canBe 2 (some .boolean) 1 22 [.int p0, .int p1] [] (some (.int (bi o))) := by
  refine mP_of (by decide) (Nat.le_of_ble_eq_true rfl) ?_
  intro p e s m below meth cd ls hx hb hml hown hts hr hlocks hl hP hG
  have hK := hG.1
  have hown : s.vm.findClass RX11 = some m.cls := hown
  have hl : lv_has ls 2 [(0, .int p0), (1, .int p1)] := hl
  have hS : va_S no s.heap s.heap [] := va_S.rf
  generalize ([] : List Loc) = locs at hS ⊢
  unfold fX11_canBe at hf
  show wG p l e 1 22 s m [.int p0, .int p1] below meth cd s.heap locs (pQ (some (.int (bi o)))) no (F0 m 0 ls [])
  refine lv_iload_n hx hb dX11_canBe_0 rfl (lv_at hl 0 rfl) ?_
  by_cases c14 : p0 = (0 : Int32)
  · have hf := if_t hf c14
    refine lv_tableIn (off := 51) (tgt := 52) hx hb dX11_canBe_1 (by rw [c14]; decide) (by rw [c14]; decide) (by rw [c14]; decide) (by decide) ?_
    refine lv_iload_n hx hb dX11_canBe_52 rfl (lv_at hl 1 rfl) ?_
    refine lv_bipush (v := 16) hx hb dX11_canBe_53 (by decide) ?_
    refine lv_sipush (v := 1024) hx hb dX11_canBe_55 (by decide) ?_
    refine kPS (tX11_isIn l G p1 (16 : Int32) (1024 : Int32) _ rfl) ⟨hx, hb, hml, hown, hts⟩ q1137 q1138 q108 q1139 okyX11_isIn ⟨Nat.le_of_ble_eq_true rfl, Nat.le_of_ble_eq_true rfl⟩ hP hG hS [] rfl hl.1 rfl (Nat.le_of_ble_eq_true rfl) dX11_canBe_58 ⟨Nat.zero_le _, Nat.zero_le _⟩ (fun locs hS => ?_)
    refine W.eq (g2 := F0 m 61 ls [.int (bi (fX11_isIn p1 (16 : Int32) (1024 : Int32)))]) rfl ?_
    refine lv_if_eq (tgt := 76) hx hb dX11_canBe_61 (by decide) (fun c15 => ?_) (fun c15 => ?_)
    · have hf := if_t hf c15
      refine lv_iconst (v := 0) hx hb dX11_canBe_76 (by decide) ?_
      subst hf
      exact pRetZ (v := false) hx hb hr hlocks hS dX11_canBe_77
    · have hf := if_f hf c15
      refine lv_iload_n hx hb dX11_canBe_64 rfl (lv_at hl 1 rfl) ?_
      refine lv_iload_n hx hb dX11_canBe_65 rfl (lv_at hl 1 rfl) ?_
      refine lv_iconst (v := 1) hx hb dX11_canBe_66 (by decide) ?_
      refine lv_isub hx hb dX11_canBe_67 ?_
      refine lv_iand hx hb dX11_canBe_68 ?_
      refine lv_if_ne (tgt := 76) hx hb dX11_canBe_69 (by decide) (fun c16 => ?_) (fun c16 => ?_)
      · have hf := if_f hf c16
        refine lv_iconst (v := 0) hx hb dX11_canBe_76 (by decide) ?_
        subst hf
        exact pRetZ (v := false) hx hb hr hlocks hS dX11_canBe_77
      · have hf := if_t hf c16
        refine lv_iconst (v := 1) hx hb dX11_canBe_72 (by decide) ?_
        refine lv_goto (tgt := 77) hx hb dX11_canBe_73 (by decide) ?_
        subst hf
        exact pRetZ (v := true) hx hb hr hlocks hS dX11_canBe_77
  · have hf := if_f hf c14
    by_cases c17 : p0 = (1 : Int32)
    · have hf := if_t hf c17
      refine lv_tableIn (off := 77) (tgt := 78) hx hb dX11_canBe_1 (by rw [c17]; decide) (by rw [c17]; decide) (by rw [c17]; decide) (by decide) ?_
      refine lv_iload_n hx hb dX11_canBe_78 rfl (lv_at hl 1 rfl) ?_
      refine lv_iconst (v := 1) hx hb dX11_canBe_79 (by decide) ?_
      refine lv_bipush (v := 32) hx hb dX11_canBe_80 (by decide) ?_
      refine kPS (tX11_isIn l G p1 (1 : Int32) (32 : Int32) _ rfl) ⟨hx, hb, hml, hown, hts⟩ q1137 q1138 q108 q1139 okyX11_isIn ⟨Nat.le_of_ble_eq_true rfl, Nat.le_of_ble_eq_true rfl⟩ hP hG hS [] rfl hl.1 rfl (Nat.le_of_ble_eq_true rfl) dX11_canBe_82 ⟨Nat.zero_le _, Nat.zero_le _⟩ (fun locs hS => ?_)
      refine W.eq (g2 := F0 m 85 ls [.int (bi (fX11_isIn p1 (1 : Int32) (32 : Int32)))]) rfl ?_
      subst hf
      exact pRetZ (v := (fX11_isIn p1 (1 : Int32) (32 : Int32))) hx hb hr hlocks hS dX11_canBe_85
    · have hf := if_f hf c17
      by_cases c18 : p0 = (2 : Int32)
      · have hf := if_t hf c18
        refine lv_tableIn (off := 85) (tgt := 86) hx hb dX11_canBe_1 (by rw [c18]; decide) (by rw [c18]; decide) (by rw [c18]; decide) (by decide) ?_
        refine lv_iload_n hx hb dX11_canBe_86 rfl (lv_at hl 1 rfl) ?_
        refine lv_if_eq (tgt := 97) hx hb dX11_canBe_87 (by decide) (fun c19 => ?_) (fun c19 => ?_)
        · have hf := if_t hf c19
          refine lv_iconst (v := 1) hx hb dX11_canBe_97 (by decide) ?_
          refine lv_goto (tgt := 102) hx hb dX11_canBe_98 (by decide) ?_
          subst hf
          exact pRetZ (v := true) hx hb hr hlocks hS dX11_canBe_102
        · have hf := if_f hf c19
          refine lv_iload_n hx hb dX11_canBe_90 rfl (lv_at hl 1 rfl) ?_
          refine kPS (tX11_isMux l G p1 _ rfl) ⟨hx, hb, hml, hown, hts⟩ q1140 q1141 q108 q1142 okyX11_isMux ⟨Nat.le_of_ble_eq_true rfl, Nat.le_of_ble_eq_true rfl⟩ hP hG hS [] rfl hl.1 rfl (Nat.le_of_ble_eq_true rfl) dX11_canBe_91 ⟨Nat.zero_le _, Nat.zero_le _⟩ (fun locs hS => ?_)
          refine W.eq (g2 := F0 m 94 ls [.int (bi (fX11_isMux p1))]) rfl ?_
          refine lv_if_eq (tgt := 101) hx hb dX11_canBe_94 (by decide) (fun c20 => ?_) (fun c20 => ?_)
          · have hf := if_t hf c20
            refine lv_iconst (v := 0) hx hb dX11_canBe_101 (by decide) ?_
            subst hf
            exact pRetZ (v := false) hx hb hr hlocks hS dX11_canBe_102
          · have hf := if_f hf c20
            refine lv_iconst (v := 1) hx hb dX11_canBe_97 (by decide) ?_
            refine lv_goto (tgt := 102) hx hb dX11_canBe_98 (by decide) ?_
            subst hf
            exact pRetZ (v := true) hx hb hr hlocks hS dX11_canBe_102
      · have hf := if_f hf c18
        by_cases c21 : p0 = (3 : Int32)
        · have hf := if_t hf c21
          refine lv_tableIn (off := 102) (tgt := 103) hx hb dX11_canBe_1 (by rw [c21]; decide) (by rw [c21]; decide) (by rw [c21]; decide) (by decide) ?_
          refine lv_iload_n hx hb dX11_canBe_103 rfl (lv_at hl 1 rfl) ?_
          refine lv_iconst (v := 0) hx hb dX11_canBe_104 (by decide) ?_
          refine lv_iconst (v := 4) hx hb dX11_canBe_105 (by decide) ?_
          refine kPS (tX11_isIn l G p1 (0 : Int32) (4 : Int32) _ rfl) ⟨hx, hb, hml, hown, hts⟩ q1137 q1138 q108 q1139 okyX11_isIn ⟨Nat.le_of_ble_eq_true rfl, Nat.le_of_ble_eq_true rfl⟩ hP hG hS [] rfl hl.1 rfl (Nat.le_of_ble_eq_true rfl) dX11_canBe_106 ⟨Nat.zero_le _, Nat.zero_le _⟩ (fun locs hS => ?_)
          refine W.eq (g2 := F0 m 109 ls [.int (bi (fX11_isIn p1 (0 : Int32) (4 : Int32)))]) rfl ?_
          subst hf
          exact pRetZ (v := (fX11_isIn p1 (0 : Int32) (4 : Int32))) hx hb hr hlocks hS dX11_canBe_109
        · have hf := if_f hf c21
          by_cases c22 : p0 = (4 : Int32)
          · have hf := if_t hf c22
            refine lv_tableIn (off := 109) (tgt := 110) hx hb dX11_canBe_1 (by rw [c22]; decide) (by rw [c22]; decide) (by rw [c22]; decide) (by decide) ?_
            refine lv_iload_n hx hb dX11_canBe_110 rfl (lv_at hl 1 rfl) ?_
            refine lv_iconst (v := 0) hx hb dX11_canBe_111 (by decide) ?_
            refine lv_iconst (v := 2) hx hb dX11_canBe_112 (by decide) ?_
            refine kPS (tX11_isIn l G p1 (0 : Int32) (2 : Int32) _ rfl) ⟨hx, hb, hml, hown, hts⟩ q1137 q1138 q108 q1139 okyX11_isIn ⟨Nat.le_of_ble_eq_true rfl, Nat.le_of_ble_eq_true rfl⟩ hP hG hS [] rfl hl.1 rfl (Nat.le_of_ble_eq_true rfl) dX11_canBe_113 ⟨Nat.zero_le _, Nat.zero_le _⟩ (fun locs hS => ?_)
            refine W.eq (g2 := F0 m 116 ls [.int (bi (fX11_isIn p1 (0 : Int32) (2 : Int32)))]) rfl ?_
            subst hf
            exact pRetZ (v := (fX11_isIn p1 (0 : Int32) (2 : Int32))) hx hb hr hlocks hS dX11_canBe_116
          · have hf := if_f hf c22
            by_cases c23 : p0 = (5 : Int32)
            · have hf := if_t hf c23
              refine lv_tableIn (off := 116) (tgt := 117) hx hb dX11_canBe_1 (by rw [c23]; decide) (by rw [c23]; decide) (by rw [c23]; decide) (by decide) ?_
              refine lv_iload_n hx hb dX11_canBe_117 rfl (lv_at hl 1 rfl) ?_
              refine lv_iconst (v := 1) hx hb dX11_canBe_118 (by decide) ?_
              refine lv_bipush (v := 20) hx hb dX11_canBe_119 (by decide) ?_
              refine kPS (tX11_isIn l G p1 (1 : Int32) (20 : Int32) _ rfl) ⟨hx, hb, hml, hown, hts⟩ q1137 q1138 q108 q1139 okyX11_isIn ⟨Nat.le_of_ble_eq_true rfl, Nat.le_of_ble_eq_true rfl⟩ hP hG hS [] rfl hl.1 rfl (Nat.le_of_ble_eq_true rfl) dX11_canBe_121 ⟨Nat.zero_le _, Nat.zero_le _⟩ (fun locs hS => ?_)
              refine W.eq (g2 := F0 m 124 ls [.int (bi (fX11_isIn p1 (1 : Int32) (20 : Int32)))]) rfl ?_
              subst hf
              exact pRetZ (v := (fX11_isIn p1 (1 : Int32) (20 : Int32))) hx hb hr hlocks hS dX11_canBe_124
            · have hf := if_f hf c23
              by_cases c24 : p0 = (6 : Int32)
              · have hf := if_t hf c24
                refine lv_tableIn (off := 124) (tgt := 125) hx hb dX11_canBe_1 (by rw [c24]; decide) (by rw [c24]; decide) (by rw [c24]; decide) (by decide) ?_
                refine lv_iload_n hx hb dX11_canBe_125 rfl (lv_at hl 1 rfl) ?_
                refine lv_iconst (v := 1) hx hb dX11_canBe_126 (by decide) ?_
                refine lv_bipush (v := 20) hx hb dX11_canBe_127 (by decide) ?_
                refine kPS (tX11_isIn l G p1 (1 : Int32) (20 : Int32) _ rfl) ⟨hx, hb, hml, hown, hts⟩ q1137 q1138 q108 q1139 okyX11_isIn ⟨Nat.le_of_ble_eq_true rfl, Nat.le_of_ble_eq_true rfl⟩ hP hG hS [] rfl hl.1 rfl (Nat.le_of_ble_eq_true rfl) dX11_canBe_129 ⟨Nat.zero_le _, Nat.zero_le _⟩ (fun locs hS => ?_)
                refine W.eq (g2 := F0 m 132 ls [.int (bi (fX11_isIn p1 (1 : Int32) (20 : Int32)))]) rfl ?_
                subst hf
                exact pRetZ (v := (fX11_isIn p1 (1 : Int32) (20 : Int32))) hx hb hr hlocks hS dX11_canBe_132
              · have hf := if_f hf c24
                by_cases c25 : p0 = (7 : Int32)
                · have hf := if_t hf c25
                  refine lv_tableIn (off := 132) (tgt := 133) hx hb dX11_canBe_1 (by rw [c25]; decide) (by rw [c25]; decide) (by rw [c25]; decide) (by decide) ?_
                  refine lv_iload_n hx hb dX11_canBe_133 rfl (lv_at hl 1 rfl) ?_
                  refine lv_iconst (v := 0) hx hb dX11_canBe_134 (by decide) ?_
                  refine lv_bipush (v := 100) hx hb dX11_canBe_135 (by decide) ?_
                  refine kPS (tX11_isIn l G p1 (0 : Int32) (100 : Int32) _ rfl) ⟨hx, hb, hml, hown, hts⟩ q1137 q1138 q108 q1139 okyX11_isIn ⟨Nat.le_of_ble_eq_true rfl, Nat.le_of_ble_eq_true rfl⟩ hP hG hS [] rfl hl.1 rfl (Nat.le_of_ble_eq_true rfl) dX11_canBe_137 ⟨Nat.zero_le _, Nat.zero_le _⟩ (fun locs hS => ?_)
                  refine W.eq (g2 := F0 m 140 ls [.int (bi (fX11_isIn p1 (0 : Int32) (100 : Int32)))]) rfl ?_
                  subst hf
                  exact pRetZ (v := (fX11_isIn p1 (0 : Int32) (100 : Int32))) hx hb hr hlocks hS dX11_canBe_140
                · have hf := if_f hf c25
                  by_cases c26 : p0 = (8 : Int32)
                  · have hf := if_t hf c26
                    refine lv_tableIn (off := 140) (tgt := 141) hx hb dX11_canBe_1 (by rw [c26]; decide) (by rw [c26]; decide) (by rw [c26]; decide) (by decide) ?_
                    refine lv_iload_n hx hb dX11_canBe_141 rfl (lv_at hl 1 rfl) ?_
                    refine lv_iconst (v := 0) hx hb dX11_canBe_142 (by decide) ?_
                    refine lv_iconst (v := 2) hx hb dX11_canBe_143 (by decide) ?_
                    refine kPS (tX11_isIn l G p1 (0 : Int32) (2 : Int32) _ rfl) ⟨hx, hb, hml, hown, hts⟩ q1137 q1138 q108 q1139 okyX11_isIn ⟨Nat.le_of_ble_eq_true rfl, Nat.le_of_ble_eq_true rfl⟩ hP hG hS [] rfl hl.1 rfl (Nat.le_of_ble_eq_true rfl) dX11_canBe_144 ⟨Nat.zero_le _, Nat.zero_le _⟩ (fun locs hS => ?_)
                    refine W.eq (g2 := F0 m 147 ls [.int (bi (fX11_isIn p1 (0 : Int32) (2 : Int32)))]) rfl ?_
                    subst hf
                    exact pRetZ (v := (fX11_isIn p1 (0 : Int32) (2 : Int32))) hx hb hr hlocks hS dX11_canBe_147
                  · have hf := if_f hf c26
                    refine lv_tableOut (tgt := 148) hx hb dX11_canBe_1 (by have ec14 := sw_ne (k := 0) (by decide) (by decide) c14; have ec17 := sw_ne (k := 1) (by decide) (by decide) c17; have ec18 := sw_ne (k := 2) (by decide) (by decide) c18; have ec21 := sw_ne (k := 3) (by decide) (by decide) c21; have ec22 := sw_ne (k := 4) (by decide) (by decide) c22; have ec23 := sw_ne (k := 5) (by decide) (by decide) c23; have ec24 := sw_ne (k := 6) (by decide) (by decide) c24; have ec25 := sw_ne (k := 7) (by decide) (by decide) c25; have ec26 := sw_ne (k := 8) (by decide) (by decide) c26; omega) (by decide) ?_
                    refine lv_iconst (v := 0) hx hb dX11_canBe_148 (by decide) ?_
                    subst hf
                    exact pRetZ (v := false) hx hb hr hlocks hS dX11_canBe_149
