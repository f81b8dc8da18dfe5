def fX11_cell_l51 (x1 : Int32) (tI : Nat → Int32) (t_all : Nat → Int32) (t_size : Nat → Int32) (t_givenRow : Nat → Int32) (t_givenColumn : Nat → Int32) (t_newRow : Nat → Int32) : Nat → Int32 → Option ((Unit) ⊕ (Int32 × (Nat → Int32) × (Nat → Int32) × (Nat → Int32) × (Nat → Int32) × (Nat → Int32)))
  | 0, _ => none
  | n + 1, x3 =>
    (if (tI 11) ≤ x3 then some (.inl ()) else gd (gi x3 12) (gd (gi (fX11_badAt x1) 43047) ((if (t_givenRow x3.toNatClampNeg) = (t_all (fX11_badAt x1).toNatClampNeg) then some (.inr ((1 : Int32), tI, t_size, t_givenRow, t_givenColumn, t_newRow)) else fX11_cell_l51 x1 tI t_all t_size t_givenRow t_givenColumn t_newRow n (x3 + (1 : Int32))))))
def fX11_cell_l87 (x1 : Int32) (tI : Nat → Int32) (t_all : Nat → Int32) (t_size : Nat → Int32) (t_givenRow : Nat → Int32) (t_givenColumn : Nat → Int32) (t_newRow : Nat → Int32) : Nat → Int32 → Option ((Unit) ⊕ (Int32 × (Nat → Int32) × (Nat → Int32) × (Nat → Int32) × (Nat → Int32) × (Nat → Int32)))
  | 0, _ => none
  | n + 1, x3 =>
    (if (tI 12) ≤ x3 then some (.inl ()) else gd (gi x3 2) (gd (gi ((fX11_badAt x1) + (1 : Int32)) 43047) ((if (t_givenColumn x3.toNatClampNeg) = (t_all ((fX11_badAt x1) + (1 : Int32)).toNatClampNeg) then some (.inr ((1 : Int32), tI, t_size, t_givenRow, t_givenColumn, t_newRow)) else fX11_cell_l87 x1 tI t_all t_size t_givenRow t_givenColumn t_newRow n (x3 + (1 : Int32))))))
def fX11_cell (tI : Nat → Int32) (t_all : Nat → Int32) (t_size : Nat → Int32) (t_givenRow : Nat → Int32) (t_givenColumn : Nat → Int32) (t_newRow : Nat → Int32) (p0 : Int32) (p1 : Int32) : Option (Int32 × (Nat → Int32) × (Nat → Int32) × (Nat → Int32) × (Nat → Int32) × (Nat → Int32)) :=
  (if (bi (fX11_isIn p0 (0 : Int32) ((t_all 9) - (1 : Int32)))) = 0 then some ((-1 : Int32), tI, t_size, t_givenRow, t_givenColumn, t_newRow) else (if (bi (fX11_isIn p1 (0 : Int32) (3 : Int32))) = 0 then some ((-1 : Int32), tI, t_size, t_givenRow, t_givenColumn, t_newRow) else (if (3 : Int32) ≤ p1 then bn (fX11_laysAll tI t_all t_size t_givenRow t_givenColumn t_newRow) fun a4 => (bn (fX11_cell_l51 p0 a4.1 t_all a4.2.1 a4.2.2.1 a4.2.2.2.1 a4.2.2.2.2 FU (0 : Int32)) fun y10 => match y10 with | .inl y10z => (bn (fX11_cell_l87 p0 a4.1 t_all a4.2.1 a4.2.2.1 a4.2.2.2.1 a4.2.2.2.2 FU (0 : Int32)) fun y15 => match y15 with | .inl y15z => some ((0 : Int32), a4.1, a4.2.1, a4.2.2.1, a4.2.2.2.1, a4.2.2.2.2) | .inr y15o => some y15o) | .inr y10o => some y10o) else gd (gi ((fX11_badAt p0) + p1) 43047) (some ((t_all ((fX11_badAt p0) + p1).toNatClampNeg), tI, t_size, t_givenRow, t_givenColumn, t_newRow)))))
set_option maxRecDepth 100000 in
set_option maxHeartbeats 4000000 in
theorem tX11_cell (l : Launch) (G : gG) (ad_t ad_t_all ad_t_tape ad_t_isImage ad_t_size ad_t_givenRow ad_t_givenColumn ad_t_newRow ad_t_view : Nat) (tI : Nat → Int32) (t_value : Int64) (t_all : Nat → Int32) (t_size : Nat → Int32) (t_givenRow : Nat → Int32) (t_givenColumn : Nat → Int32) (t_newRow : Nat → Int32) (p0 : Int32) (p1 : Int32) (o : Int32 × (Nat → Int32) × (Nat → Int32) × (Nat → Int32) × (Nat → Int32) × (Nat → Int32)) (hf : fX11_cell tI t_all t_size t_givenRow t_givenColumn t_newRow p0 p1 = some o) : mE G l yX11_cell cX11_cell 4 (some .int) 13 302 0 0 [.ref ad_t, .int p0, .int p1] [(ad_t, .inr (11, [.ref ad_t_all, .ref ad_t_tape, .ref ad_t_isImage, .int (tI 3), .int (tI 4), .int (tI 5), .int (tI 6), .ref ad_t_size, .ref ad_t_givenRow, .ref ad_t_givenColumn, .ref ad_t_newRow, .int (tI 11), .int (tI 12), .int (tI 13), .int (tI 14), .int (tI 15), .int (tI 16), .int (tI 17), .int (tI 18), .int (tI 19), .ref ad_t_view, .int (tI 21), .int (tI 22), .int (tI 23), .int (tI 24), .int (tI 25), .long t_value, .int (tI 27), .int (tI 28)])), (ad_t_all, .inl (G.2.1 0, 43047, .inl t_all)), (ad_t_size, .inl (G.2.1 0, 8, .inl t_size)), (ad_t_givenRow, .inl (G.2.1 0, 12, .inl t_givenRow)), (ad_t_givenColumn, .inl (G.2.1 0, 2, .inl t_givenColumn)), (ad_t_newRow, .inl (G.2.1 0, 13, .inl t_newRow))] (fun r w => r = (some (.int o.1)) ∧ w = [(ad_t, .inr (11, [.ref ad_t_all, .ref ad_t_tape, .ref ad_t_isImage, .int (o.2.1 3), .int (o.2.1 4), .int (o.2.1 5), .int (o.2.1 6), .ref ad_t_size, .ref ad_t_givenRow, .ref ad_t_givenColumn, .ref ad_t_newRow, .int (o.2.1 11), .int (o.2.1 12), .int (o.2.1 13), .int (o.2.1 14), .int (o.2.1 15), .int (o.2.1 16), .int (o.2.1 17), .int (o.2.1 18), .int (o.2.1 19), .ref ad_t_view, .int (o.2.1 21), .int (o.2.1 22), .int (o.2.1 23), .int (o.2.1 24), .int (o.2.1 25), .long t_value, .int (o.2.1 27), .int (o.2.1 28)])), (ad_t_all, .inl (G.2.1 0, 43047, .inl t_all)), (ad_t_size, .inl (G.2.1 0, 8, .inl o.2.2.1)), (ad_t_givenRow, .inl (G.2.1 0, 12, .inl o.2.2.2.1)), (ad_t_givenColumn, .inl (G.2.1 0, 2, .inl o.2.2.2.2.1)), (ad_t_newRow, .inl (G.2.1 0, 13, .inl o.2.2.2.2.2))]) := by
  refine mE_of (by decide) (Nat.le_of_ble_eq_true rfl) ?_
  intro p e s m below meth cd ls A hx hb hml hown hts hr hlocks hnm hl hA hP hD hS hG
  have hK := hG.1
  have hown : s.vm.findClass RX11 = some m.cls := hown
  have hl : lv_has ls 4 [(0, .ref ad_t), (1, .int p0), (2, .int p1)] := hl
  have hS := hS
  unfold fX11_cell at hf
  obtain ⟨H, locs, eH, eL⟩ : ∃ (H : Heap) (locs : List Loc), H = s.heap ∧ locs = [] := ⟨_, _, rfl, rfl⟩
  have hP : va_P G.1 vwCl [(ad_t, .inr (11, [.ref ad_t_all, .ref ad_t_tape, .ref ad_t_isImage, .int (tI 3), .int (tI 4), .int (tI 5), .int (tI 6), .ref ad_t_size, .ref ad_t_givenRow, .ref ad_t_givenColumn, .ref ad_t_newRow, .int (tI 11), .int (tI 12), .int (tI 13), .int (tI 14), .int (tI 15), .int (tI 16), .int (tI 17), .int (tI 18), .int (tI 19), .ref ad_t_view, .int (tI 21), .int (tI 22), .int (tI 23), .int (tI 24), .int (tI 25), .long t_value, .int (tI 27), .int (tI 28)])), (ad_t_all, .inl (G.2.1 0, 43047, .inl t_all)), (ad_t_size, .inl (G.2.1 0, 8, .inl t_size)), (ad_t_givenRow, .inl (G.2.1 0, 12, .inl t_givenRow)), (ad_t_givenColumn, .inl (G.2.1 0, 2, .inl t_givenColumn)), (ad_t_newRow, .inl (G.2.1 0, 13, .inl t_newRow))] H := eH ▸ hP
  have hS : va_S A s.heap H locs := by rw [eH, eL]; exact hS
  suffices hgo : wG p l e 13 302 s m [.ref ad_t, .int p0, .int p1] below meth cd H locs (eQ G A (fun r w => r = (some (.int o.1)) ∧ w = [(ad_t, .inr (11, [.ref ad_t_all, .ref ad_t_tape, .ref ad_t_isImage, .int (o.2.1 3), .int (o.2.1 4), .int (o.2.1 5), .int (o.2.1 6), .ref ad_t_size, .ref ad_t_givenRow, .ref ad_t_givenColumn, .ref ad_t_newRow, .int (o.2.1 11), .int (o.2.1 12), .int (o.2.1 13), .int (o.2.1 14), .int (o.2.1 15), .int (o.2.1 16), .int (o.2.1 17), .int (o.2.1 18), .int (o.2.1 19), .ref ad_t_view, .int (o.2.1 21), .int (o.2.1 22), .int (o.2.1 23), .int (o.2.1 24), .int (o.2.1 25), .long t_value, .int (o.2.1 27), .int (o.2.1 28)])), (ad_t_all, .inl (G.2.1 0, 43047, .inl t_all)), (ad_t_size, .inl (G.2.1 0, 8, .inl o.2.2.1)), (ad_t_givenRow, .inl (G.2.1 0, 12, .inl o.2.2.2.1)), (ad_t_givenColumn, .inl (G.2.1 0, 2, .inl o.2.2.2.2.1)), (ad_t_newRow, .inl (G.2.1 0, 13, .inl o.2.2.2.2.2))])) A (F0 m 0 ls []) by rw [eH, eL] at hgo; exact hgo
  clear eH eL
  refine lv_iload_n hx hb dX11_cell_0 rfl (lv_at hl 1 rfl) ?_
  refine lv_iconst (v := 0) hx hb dX11_cell_1 (by decide) ?_
  refine lv_aload_n hx hb dX11_cell_2 rfl (lv_at hl 0 rfl) ?_
  refine va_get (D := G.1) (cl := vwCl) (ci := 11) (v := .ref ad_t_all) (C := RX11) (T := TX11) (N := 29) hx hb hts inG11 hown hK hP 0 rfl rfl 0 (Nat.le_of_ble_eq_true rfl) (hts _ q1041) (fun _ h9 => h9) rfl dX11_cell_3 ?_
  refine lv_bipush (v := 9) hx hb dX11_cell_6 (by decide) ?_
  refine va_iald (D := G.1) (cl := vwCl) hx hb hK hP 1 0 rfl rfl (vin (by decide)) dX11_cell_8 ?_
  refine lv_ti (v := (t_all 9)) (congrArg (t_all) (tn 9)) ?_
  refine lv_iconst (v := 1) hx hb dX11_cell_9 (by decide) ?_
  refine lv_isub hx hb dX11_cell_10 ?_
  refine kPS (tX11_isIn l G p0 (0 : Int32) ((t_all 9) - (1 : Int32)) _ rfl) ⟨hx, hb, hml, hown, hts⟩ q1137 q1138 q108 q1139 okyX11_isIn ⟨Nat.le_of_ble_eq_true rfl, Nat.le_of_ble_eq_true rfl⟩ hP hG hS [] rfl hl.1 rfl (Nat.le_of_ble_eq_true rfl) dX11_cell_11 ⟨Nat.zero_le _, Nat.zero_le _⟩ (fun locs hS => ?_)
  refine W.eq (g2 := F0 m 14 ls [.int (bi (fX11_isIn p0 (0 : Int32) ((t_all 9) - (1 : Int32))))]) rfl ?_
  refine lv_if_eq (tgt := 26) hx hb dX11_cell_14 (by decide) (fun c17 => ?_) (fun c17 => ?_)
  · have hf := if_t hf c17
    refine lv_iconst (v := -1) hx hb dX11_cell_26 (by decide) ?_
    have hf := Option.some.inj hf
    subst hf
    exact eRet hx hb hr hlocks hP hD hS ⟨rfl, rfl⟩ dX11_cell_27
  · have hf := if_f hf c17
    refine lv_iload_n hx hb dX11_cell_17 rfl (lv_at hl 2 rfl) ?_
    refine lv_iconst (v := 0) hx hb dX11_cell_18 (by decide) ?_
    refine lv_iconst (v := 3) hx hb dX11_cell_19 (by decide) ?_
    refine kPS (tX11_isIn l G p1 (0 : Int32) (3 : Int32) _ rfl) ⟨hx, hb, hml, hown, hts⟩ q1137 q1138 q108 q1139 okyX11_isIn ⟨Nat.le_of_ble_eq_true rfl, Nat.le_of_ble_eq_true rfl⟩ hP hG hS [] rfl hl.1 rfl (Nat.le_of_ble_eq_true rfl) dX11_cell_20 ⟨Nat.zero_le _, Nat.zero_le _⟩ (fun locs hS => ?_)
    refine W.eq (g2 := F0 m 23 ls [.int (bi (fX11_isIn p1 (0 : Int32) (3 : Int32)))]) rfl ?_
    refine lv_if_ne (tgt := 28) hx hb dX11_cell_23 (by decide) (fun c18 => ?_) (fun c18 => ?_)
    · have hf := if_f hf c18
      refine lv_iload_n hx hb dX11_cell_28 rfl (lv_at hl 2 rfl) ?_
      refine lv_iconst (v := 3) hx hb dX11_cell_29 (by decide) ?_
      refine lv_icmp_ge (tgt := 45) hx hb dX11_cell_30 (by decide) (fun c19 => ?_) (fun c19 => ?_)
      · have hf := if_t hf c19
        refine lv_aload_n hx hb dX11_cell_45 rfl (lv_at hl 0 rfl) ?_
        obtain ⟨a20, h21, hf⟩ := bn_some hf
        refine kEV (tX11_laysAll l G ad_t ad_t_all ad_t_tape ad_t_isImage ad_t_size ad_t_givenRow ad_t_givenColumn ad_t_newRow ad_t_view tI t_value t_all t_size t_givenRow t_givenColumn t_newRow a20 h21) ⟨hx, hb, hml, hown, hts⟩ q1294 q1296 q69 q108 q1297 okyX11_laysAll ⟨Nat.le_of_ble_eq_true rfl, Nat.le_of_ble_eq_true rfl⟩ hP hD hG hS hA [0, 1, 2, 3, 4, 5] [] rfl (wr := []) rfl (by decide) 0 rfl rfl hl.1 rfl (Nat.le_of_ble_eq_true rfl) dX11_cell_46 ⟨Nat.zero_le _, Nat.zero_le _⟩ (fun r w H locs hR hP hD hS => ?_)
        obtain ⟨rfl, rfl⟩ := hR
        have hP : va_P G.1 vwCl [(ad_t, .inr (11, [.ref ad_t_all, .ref ad_t_tape, .ref ad_t_isImage, .int (a20.1 3), .int (a20.1 4), .int (a20.1 5), .int (a20.1 6), .ref ad_t_size, .ref ad_t_givenRow, .ref ad_t_givenColumn, .ref ad_t_newRow, .int (a20.1 11), .int (a20.1 12), .int (a20.1 13), .int (a20.1 14), .int (a20.1 15), .int (a20.1 16), .int (a20.1 17), .int (a20.1 18), .int (a20.1 19), .ref ad_t_view, .int (a20.1 21), .int (a20.1 22), .int (a20.1 23), .int (a20.1 24), .int (a20.1 25), .long t_value, .int (a20.1 27), .int (a20.1 28)])), (ad_t_all, .inl (G.2.1 0, 43047, .inl t_all)), (ad_t_size, .inl (G.2.1 0, 8, .inl a20.2.1)), (ad_t_givenRow, .inl (G.2.1 0, 12, .inl a20.2.2.1)), (ad_t_givenColumn, .inl (G.2.1 0, 2, .inl a20.2.2.2.1)), (ad_t_newRow, .inl (G.2.1 0, 13, .inl a20.2.2.2.2))] H := hP
        have hD : va_D A [(ad_t, .inr (11, [.ref ad_t_all, .ref ad_t_tape, .ref ad_t_isImage, .int (a20.1 3), .int (a20.1 4), .int (a20.1 5), .int (a20.1 6), .ref ad_t_size, .ref ad_t_givenRow, .ref ad_t_givenColumn, .ref ad_t_newRow, .int (a20.1 11), .int (a20.1 12), .int (a20.1 13), .int (a20.1 14), .int (a20.1 15), .int (a20.1 16), .int (a20.1 17), .int (a20.1 18), .int (a20.1 19), .ref ad_t_view, .int (a20.1 21), .int (a20.1 22), .int (a20.1 23), .int (a20.1 24), .int (a20.1 25), .long t_value, .int (a20.1 27), .int (a20.1 28)])), (ad_t_all, .inl (G.2.1 0, 43047, .inl t_all)), (ad_t_size, .inl (G.2.1 0, 8, .inl a20.2.1)), (ad_t_givenRow, .inl (G.2.1 0, 12, .inl a20.2.2.1)), (ad_t_givenColumn, .inl (G.2.1 0, 2, .inl a20.2.2.2.1)), (ad_t_newRow, .inl (G.2.1 0, 13, .inl a20.2.2.2.2))] := hD
        refine W.eq (g2 := F0 m 49 ls []) rfl ?_
        refine lv_iconst (v := 0) hx hb dX11_cell_49 (by decide) ?_
        refine lv_istore_n (lv' := [(3, .int (0 : Int32)), (0, .ref ad_t), (1, .int p0), (2, .int p1)]) hx hb dX11_cell_50 rfl hl (by decide) rfl (fun ls hl => ?_)
        obtain ⟨y22, hLy22, hky22⟩ := bn_some hf
        have Ey22 : ∀ y22z, y22 = .inl y22z → ∀  (H : Heap) (locs : List Loc) (ls : Array Slot), lv_has ls 4 [(0, .ref ad_t), (1, .int p0)] → va_P G.1 vwCl [(ad_t, .inr (11, [.ref ad_t_all, .ref ad_t_tape, .ref ad_t_isImage, .int (a20.1 3), .int (a20.1 4), .int (a20.1 5), .int (a20.1 6), .ref ad_t_size, .ref ad_t_givenRow, .ref ad_t_givenColumn, .ref ad_t_newRow, .int (a20.1 11), .int (a20.1 12), .int (a20.1 13), .int (a20.1 14), .int (a20.1 15), .int (a20.1 16), .int (a20.1 17), .int (a20.1 18), .int (a20.1 19), .ref ad_t_view, .int (a20.1 21), .int (a20.1 22), .int (a20.1 23), .int (a20.1 24), .int (a20.1 25), .long t_value, .int (a20.1 27), .int (a20.1 28)])), (ad_t_all, .inl (G.2.1 0, 43047, .inl t_all)), (ad_t_size, .inl (G.2.1 0, 8, .inl a20.2.1)), (ad_t_givenRow, .inl (G.2.1 0, 12, .inl a20.2.2.1)), (ad_t_givenColumn, .inl (G.2.1 0, 2, .inl a20.2.2.2.1)), (ad_t_newRow, .inl (G.2.1 0, 13, .inl a20.2.2.2.2))] H → va_D A [(ad_t, .inr (11, [.ref ad_t_all, .ref ad_t_tape, .ref ad_t_isImage, .int (a20.1 3), .int (a20.1 4), .int (a20.1 5), .int (a20.1 6), .ref ad_t_size, .ref ad_t_givenRow, .ref ad_t_givenColumn, .ref ad_t_newRow, .int (a20.1 11), .int (a20.1 12), .int (a20.1 13), .int (a20.1 14), .int (a20.1 15), .int (a20.1 16), .int (a20.1 17), .int (a20.1 18), .int (a20.1 19), .ref ad_t_view, .int (a20.1 21), .int (a20.1 22), .int (a20.1 23), .int (a20.1 24), .int (a20.1 25), .long t_value, .int (a20.1 27), .int (a20.1 28)])), (ad_t_all, .inl (G.2.1 0, 43047, .inl t_all)), (ad_t_size, .inl (G.2.1 0, 8, .inl a20.2.1)), (ad_t_givenRow, .inl (G.2.1 0, 12, .inl a20.2.2.1)), (ad_t_givenColumn, .inl (G.2.1 0, 2, .inl a20.2.2.2.1)), (ad_t_newRow, .inl (G.2.1 0, 13, .inl a20.2.2.2.2))] → va_S A s.heap H locs → wG p l e 13 302 s m [.ref ad_t, .int p0, .int p1] below meth cd H locs (eQ G A (fun r w => r = (some (.int o.1)) ∧ w = [(ad_t, .inr (11, [.ref ad_t_all, .ref ad_t_tape, .ref ad_t_isImage, .int (o.2.1 3), .int (o.2.1 4), .int (o.2.1 5), .int (o.2.1 6), .ref ad_t_size, .ref ad_t_givenRow, .ref ad_t_givenColumn, .ref ad_t_newRow, .int (o.2.1 11), .int (o.2.1 12), .int (o.2.1 13), .int (o.2.1 14), .int (o.2.1 15), .int (o.2.1 16), .int (o.2.1 17), .int (o.2.1 18), .int (o.2.1 19), .ref ad_t_view, .int (o.2.1 21), .int (o.2.1 22), .int (o.2.1 23), .int (o.2.1 24), .int (o.2.1 25), .long t_value, .int (o.2.1 27), .int (o.2.1 28)])), (ad_t_all, .inl (G.2.1 0, 43047, .inl t_all)), (ad_t_size, .inl (G.2.1 0, 8, .inl o.2.2.1)), (ad_t_givenRow, .inl (G.2.1 0, 12, .inl o.2.2.2.1)), (ad_t_givenColumn, .inl (G.2.1 0, 2, .inl o.2.2.2.2.1)), (ad_t_newRow, .inl (G.2.1 0, 13, .inl o.2.2.2.2.2))])) A (F0 m 85 ls []) := by
          intro y22z ez
          intro  H locs ls hl hP hD hS
          subst ez
          have hf := hky22
          (try dsimp only at hf)
          refine lv_iconst (v := 0) hx hb dX11_cell_85 (by decide) ?_
          refine lv_istore_n (lv' := [(3, .int (0 : Int32)), (0, .ref ad_t), (1, .int p0)]) hx hb dX11_cell_86 rfl hl (by decide) rfl (fun ls hl => ?_)
          obtain ⟨y23, hLy23, hky23⟩ := bn_some hf
          have Ey23 : ∀ y23z, y23 = .inl y23z → ∀  (H : Heap) (locs : List Loc) (ls : Array Slot), lv_has ls 4 [] → va_P G.1 vwCl [(ad_t, .inr (11, [.ref ad_t_all, .ref ad_t_tape, .ref ad_t_isImage, .int (a20.1 3), .int (a20.1 4), .int (a20.1 5), .int (a20.1 6), .ref ad_t_size, .ref ad_t_givenRow, .ref ad_t_givenColumn, .ref ad_t_newRow, .int (a20.1 11), .int (a20.1 12), .int (a20.1 13), .int (a20.1 14), .int (a20.1 15), .int (a20.1 16), .int (a20.1 17), .int (a20.1 18), .int (a20.1 19), .ref ad_t_view, .int (a20.1 21), .int (a20.1 22), .int (a20.1 23), .int (a20.1 24), .int (a20.1 25), .long t_value, .int (a20.1 27), .int (a20.1 28)])), (ad_t_all, .inl (G.2.1 0, 43047, .inl t_all)), (ad_t_size, .inl (G.2.1 0, 8, .inl a20.2.1)), (ad_t_givenRow, .inl (G.2.1 0, 12, .inl a20.2.2.1)), (ad_t_givenColumn, .inl (G.2.1 0, 2, .inl a20.2.2.2.1)), (ad_t_newRow, .inl (G.2.1 0, 13, .inl a20.2.2.2.2))] H → va_D A [(ad_t, .inr (11, [.ref ad_t_all, .ref ad_t_tape, .ref ad_t_isImage, .int (a20.1 3), .int (a20.1 4), .int (a20.1 5), .int (a20.1 6), .ref ad_t_size, .ref ad_t_givenRow, .ref ad_t_givenColumn, .ref ad_t_newRow, .int (a20.1 11), .int (a20.1 12), .int (a20.1 13), .int (a20.1 14), .int (a20.1 15), .int (a20.1 16), .int (a20.1 17), .int (a20.1 18), .int (a20.1 19), .ref ad_t_view, .int (a20.1 21), .int (a20.1 22), .int (a20.1 23), .int (a20.1 24), .int (a20.1 25), .long t_value, .int (a20.1 27), .int (a20.1 28)])), (ad_t_all, .inl (G.2.1 0, 43047, .inl t_all)), (ad_t_size, .inl (G.2.1 0, 8, .inl a20.2.1)), (ad_t_givenRow, .inl (G.2.1 0, 12, .inl a20.2.2.1)), (ad_t_givenColumn, .inl (G.2.1 0, 2, .inl a20.2.2.2.1)), (ad_t_newRow, .inl (G.2.1 0, 13, .inl a20.2.2.2.2))] → va_S A s.heap H locs → wG p l e 13 302 s m [.ref ad_t, .int p0, .int p1] below meth cd H locs (eQ G A (fun r w => r = (some (.int o.1)) ∧ w = [(ad_t, .inr (11, [.ref ad_t_all, .ref ad_t_tape, .ref ad_t_isImage, .int (o.2.1 3), .int (o.2.1 4), .int (o.2.1 5), .int (o.2.1 6), .ref ad_t_size, .ref ad_t_givenRow, .ref ad_t_givenColumn, .ref ad_t_newRow, .int (o.2.1 11), .int (o.2.1 12), .int (o.2.1 13), .int (o.2.1 14), .int (o.2.1 15), .int (o.2.1 16), .int (o.2.1 17), .int (o.2.1 18), .int (o.2.1 19), .ref ad_t_view, .int (o.2.1 21), .int (o.2.1 22), .int (o.2.1 23), .int (o.2.1 24), .int (o.2.1 25), .long t_value, .int (o.2.1 27), .int (o.2.1 28)])), (ad_t_all, .inl (G.2.1 0, 43047, .inl t_all)), (ad_t_size, .inl (G.2.1 0, 8, .inl o.2.2.1)), (ad_t_givenRow, .inl (G.2.1 0, 12, .inl o.2.2.2.1)), (ad_t_givenColumn, .inl (G.2.1 0, 2, .inl o.2.2.2.2.1)), (ad_t_newRow, .inl (G.2.1 0, 13, .inl o.2.2.2.2.2))])) A (F0 m 123 ls []) := by
            intro y23z ez
            intro  H locs ls hl hP hD hS
            subst ez
            have hf := hky23
            (try dsimp only at hf)
            refine lv_iconst (v := 0) hx hb dX11_cell_123 (by decide) ?_
            have hf := Option.some.inj hf
            subst hf
            exact eRet hx hb hr hlocks hP hD hS ⟨rfl, rfl⟩ dX11_cell_124
          have Ly23 : ∀ (n : Nat), ∀ (x24 : Int32) (H : Heap) (locs : List Loc) (ls : Array Slot), lv_has ls 4 [(3, .int x24), (0, .ref ad_t), (1, .int p0)] → va_P G.1 vwCl [(ad_t, .inr (11, [.ref ad_t_all, .ref ad_t_tape, .ref ad_t_isImage, .int (a20.1 3), .int (a20.1 4), .int (a20.1 5), .int (a20.1 6), .ref ad_t_size, .ref ad_t_givenRow, .ref ad_t_givenColumn, .ref ad_t_newRow, .int (a20.1 11), .int (a20.1 12), .int (a20.1 13), .int (a20.1 14), .int (a20.1 15), .int (a20.1 16), .int (a20.1 17), .int (a20.1 18), .int (a20.1 19), .ref ad_t_view, .int (a20.1 21), .int (a20.1 22), .int (a20.1 23), .int (a20.1 24), .int (a20.1 25), .long t_value, .int (a20.1 27), .int (a20.1 28)])), (ad_t_all, .inl (G.2.1 0, 43047, .inl t_all)), (ad_t_size, .inl (G.2.1 0, 8, .inl a20.2.1)), (ad_t_givenRow, .inl (G.2.1 0, 12, .inl a20.2.2.1)), (ad_t_givenColumn, .inl (G.2.1 0, 2, .inl a20.2.2.2.1)), (ad_t_newRow, .inl (G.2.1 0, 13, .inl a20.2.2.2.2))] H → va_D A [(ad_t, .inr (11, [.ref ad_t_all, .ref ad_t_tape, .ref ad_t_isImage, .int (a20.1 3), .int (a20.1 4), .int (a20.1 5), .int (a20.1 6), .ref ad_t_size, .ref ad_t_givenRow, .ref ad_t_givenColumn, .ref ad_t_newRow, .int (a20.1 11), .int (a20.1 12), .int (a20.1 13), .int (a20.1 14), .int (a20.1 15), .int (a20.1 16), .int (a20.1 17), .int (a20.1 18), .int (a20.1 19), .ref ad_t_view, .int (a20.1 21), .int (a20.1 22), .int (a20.1 23), .int (a20.1 24), .int (a20.1 25), .long t_value, .int (a20.1 27), .int (a20.1 28)])), (ad_t_all, .inl (G.2.1 0, 43047, .inl t_all)), (ad_t_size, .inl (G.2.1 0, 8, .inl a20.2.1)), (ad_t_givenRow, .inl (G.2.1 0, 12, .inl a20.2.2.1)), (ad_t_givenColumn, .inl (G.2.1 0, 2, .inl a20.2.2.2.1)), (ad_t_newRow, .inl (G.2.1 0, 13, .inl a20.2.2.2.2))] → va_S A s.heap H locs → fX11_cell_l87 p0 a20.1 t_all a20.2.1 a20.2.2.1 a20.2.2.2.1 a20.2.2.2.2 n x24 = some y23 → wG p l e 13 302 s m [.ref ad_t, .int p0, .int p1] below meth cd H locs (eQ G A (fun r w => r = (some (.int o.1)) ∧ w = [(ad_t, .inr (11, [.ref ad_t_all, .ref ad_t_tape, .ref ad_t_isImage, .int (o.2.1 3), .int (o.2.1 4), .int (o.2.1 5), .int (o.2.1 6), .ref ad_t_size, .ref ad_t_givenRow, .ref ad_t_givenColumn, .ref ad_t_newRow, .int (o.2.1 11), .int (o.2.1 12), .int (o.2.1 13), .int (o.2.1 14), .int (o.2.1 15), .int (o.2.1 16), .int (o.2.1 17), .int (o.2.1 18), .int (o.2.1 19), .ref ad_t_view, .int (o.2.1 21), .int (o.2.1 22), .int (o.2.1 23), .int (o.2.1 24), .int (o.2.1 25), .long t_value, .int (o.2.1 27), .int (o.2.1 28)])), (ad_t_all, .inl (G.2.1 0, 43047, .inl t_all)), (ad_t_size, .inl (G.2.1 0, 8, .inl o.2.2.1)), (ad_t_givenRow, .inl (G.2.1 0, 12, .inl o.2.2.2.1)), (ad_t_givenColumn, .inl (G.2.1 0, 2, .inl o.2.2.2.2.1)), (ad_t_newRow, .inl (G.2.1 0, 13, .inl o.2.2.2.2.2))])) A (F0 m 87 ls []) := by
            intro n
            induction n with
            | zero =>
              intro x24 H locs ls hl hP hD hS hf
              rw [fX11_cell_l87] at hf
              cases hf
            | succ n ih =>
              intro x24 H locs ls hl hP hD hS hf
              rw [fX11_cell_l87] at hf
              refine lv_iload_n hx hb dX11_cell_87 rfl (lv_at hl 0 rfl) ?_
              refine lv_aload_n hx hb dX11_cell_88 rfl (lv_at hl 1 rfl) ?_
              refine va_get (D := G.1) (cl := vwCl) (ci := 11) (v := .int (a20.1 12)) (C := RX11) (T := TX11) (N := 29) hx hb hts inG11 hown hK hP 0 rfl rfl 12 (Nat.le_of_ble_eq_true rfl) (hts _ q1053) (fun _ h9 => h9) rfl dX11_cell_89 ?_
              refine lv_icmp_ge (tgt := 123) hx hb dX11_cell_92 (by decide) (fun c25 => ?_) (fun c25 => ?_)
              · have hf := if_t hf c25
                have hf := Option.some.inj hf
                subst hf
                exact Ey23 _ rfl H locs ls (lv_sub hl [] rfl) hP hD hS 
              · have hf := if_f hf c25
                refine lv_aload_n hx hb dX11_cell_95 rfl (lv_at hl 1 rfl) ?_
                refine va_get (D := G.1) (cl := vwCl) (ci := 11) (v := .ref ad_t_givenColumn) (C := RX11) (T := TX11) (N := 29) hx hb hts inG11 hown hK hP 0 rfl rfl 9 (Nat.le_of_ble_eq_true rfl) (hts _ q1050) (fun _ h9 => h9) rfl dX11_cell_96 ?_
                refine lv_iload_n hx hb dX11_cell_99 rfl (lv_at hl 0 rfl) ?_
                obtain ⟨h26, hf⟩ := gd_some hf
                refine va_iald (D := G.1) (cl := vwCl) hx hb hK hP 4 0 rfl rfl (gi_in h26) dX11_cell_100 ?_
                refine lv_aload_n hx hb dX11_cell_101 rfl (lv_at hl 1 rfl) ?_
                refine va_get (D := G.1) (cl := vwCl) (ci := 11) (v := .ref ad_t_all) (C := RX11) (T := TX11) (N := 29) hx hb hts inG11 hown hK hP 0 rfl rfl 0 (Nat.le_of_ble_eq_true rfl) (hts _ q1041) (fun _ h9 => h9) rfl dX11_cell_102 ?_
                refine lv_iload_n hx hb dX11_cell_105 rfl (lv_at hl 2 rfl) ?_
                refine kPS (tX11_badAt l G p0 _ rfl) ⟨hx, hb, hml, hown, hts⟩ q1287 q1288 q108 q1289 okyX11_badAt ⟨Nat.le_of_ble_eq_true rfl, Nat.le_of_ble_eq_true rfl⟩ hP hG hS [] rfl hl.1 rfl (Nat.le_of_ble_eq_true rfl) dX11_cell_106 ⟨Nat.zero_le _, Nat.zero_le _⟩ (fun locs hS => ?_)
                refine W.eq (g2 := F0 m 109 ls [.int (fX11_badAt p0), .ref ad_t_all, .int (a20.2.2.2.1 x24.toNatClampNeg)]) rfl ?_
                refine lv_iconst (v := 1) hx hb dX11_cell_109 (by decide) ?_
                refine lv_iadd hx hb dX11_cell_110 ?_
                obtain ⟨h27, hf⟩ := gd_some hf
                refine va_iald (D := G.1) (cl := vwCl) hx hb hK hP 1 0 rfl rfl (gi_in h27) dX11_cell_111 ?_
                refine lv_icmp_ne (tgt := 117) hx hb dX11_cell_112 (by decide) (fun c28 => ?_) (fun c28 => ?_)
                · have hf := if_f hf c28
                  refine lv_iinc (v := (x24 + (1 : Int32))) (lv' := [(3, .int (x24 + (1 : Int32))), (0, .ref ad_t), (1, .int p0)]) hx hb dX11_cell_117 hl (k := 0) rfl (ii_1 _) (by decide) rfl (fun ls hl => ?_)
                  refine lv_goto (tgt := 87) hx hb dX11_cell_120 (by decide) ?_
                  exact ih (x24 + (1 : Int32)) H locs ls (lv_sub hl [0, 1, 2] rfl) hP hD hS hf
                · have hf := if_t hf c28
                  refine lv_iconst (v := 1) hx hb dX11_cell_115 (by decide) ?_
                  have hf := Option.some.inj hf
                  subst hf
                  have hf := hky23
                  (try dsimp only at hf)
                  have hf := Option.some.inj hf
                  subst hf
                  exact eRet hx hb hr hlocks hP hD hS ⟨rfl, rfl⟩ dX11_cell_116
          exact Ly23 FU (0 : Int32) H locs ls (lv_sub hl [0, 1, 2] rfl) hP hD hS hLy23
        have Ly22 : ∀ (n : Nat), ∀ (x29 : Int32) (H : Heap) (locs : List Loc) (ls : Array Slot), lv_has ls 4 [(3, .int x29), (0, .ref ad_t), (1, .int p0)] → va_P G.1 vwCl [(ad_t, .inr (11, [.ref ad_t_all, .ref ad_t_tape, .ref ad_t_isImage, .int (a20.1 3), .int (a20.1 4), .int (a20.1 5), .int (a20.1 6), .ref ad_t_size, .ref ad_t_givenRow, .ref ad_t_givenColumn, .ref ad_t_newRow, .int (a20.1 11), .int (a20.1 12), .int (a20.1 13), .int (a20.1 14), .int (a20.1 15), .int (a20.1 16), .int (a20.1 17), .int (a20.1 18), .int (a20.1 19), .ref ad_t_view, .int (a20.1 21), .int (a20.1 22), .int (a20.1 23), .int (a20.1 24), .int (a20.1 25), .long t_value, .int (a20.1 27), .int (a20.1 28)])), (ad_t_all, .inl (G.2.1 0, 43047, .inl t_all)), (ad_t_size, .inl (G.2.1 0, 8, .inl a20.2.1)), (ad_t_givenRow, .inl (G.2.1 0, 12, .inl a20.2.2.1)), (ad_t_givenColumn, .inl (G.2.1 0, 2, .inl a20.2.2.2.1)), (ad_t_newRow, .inl (G.2.1 0, 13, .inl a20.2.2.2.2))] H → va_D A [(ad_t, .inr (11, [.ref ad_t_all, .ref ad_t_tape, .ref ad_t_isImage, .int (a20.1 3), .int (a20.1 4), .int (a20.1 5), .int (a20.1 6), .ref ad_t_size, .ref ad_t_givenRow, .ref ad_t_givenColumn, .ref ad_t_newRow, .int (a20.1 11), .int (a20.1 12), .int (a20.1 13), .int (a20.1 14), .int (a20.1 15), .int (a20.1 16), .int (a20.1 17), .int (a20.1 18), .int (a20.1 19), .ref ad_t_view, .int (a20.1 21), .int (a20.1 22), .int (a20.1 23), .int (a20.1 24), .int (a20.1 25), .long t_value, .int (a20.1 27), .int (a20.1 28)])), (ad_t_all, .inl (G.2.1 0, 43047, .inl t_all)), (ad_t_size, .inl (G.2.1 0, 8, .inl a20.2.1)), (ad_t_givenRow, .inl (G.2.1 0, 12, .inl a20.2.2.1)), (ad_t_givenColumn, .inl (G.2.1 0, 2, .inl a20.2.2.2.1)), (ad_t_newRow, .inl (G.2.1 0, 13, .inl a20.2.2.2.2))] → va_S A s.heap H locs → fX11_cell_l51 p0 a20.1 t_all a20.2.1 a20.2.2.1 a20.2.2.2.1 a20.2.2.2.2 n x29 = some y22 → wG p l e 13 302 s m [.ref ad_t, .int p0, .int p1] below meth cd H locs (eQ G A (fun r w => r = (some (.int o.1)) ∧ w = [(ad_t, .inr (11, [.ref ad_t_all, .ref ad_t_tape, .ref ad_t_isImage, .int (o.2.1 3), .int (o.2.1 4), .int (o.2.1 5), .int (o.2.1 6), .ref ad_t_size, .ref ad_t_givenRow, .ref ad_t_givenColumn, .ref ad_t_newRow, .int (o.2.1 11), .int (o.2.1 12), .int (o.2.1 13), .int (o.2.1 14), .int (o.2.1 15), .int (o.2.1 16), .int (o.2.1 17), .int (o.2.1 18), .int (o.2.1 19), .ref ad_t_view, .int (o.2.1 21), .int (o.2.1 22), .int (o.2.1 23), .int (o.2.1 24), .int (o.2.1 25), .long t_value, .int (o.2.1 27), .int (o.2.1 28)])), (ad_t_all, .inl (G.2.1 0, 43047, .inl t_all)), (ad_t_size, .inl (G.2.1 0, 8, .inl o.2.2.1)), (ad_t_givenRow, .inl (G.2.1 0, 12, .inl o.2.2.2.1)), (ad_t_givenColumn, .inl (G.2.1 0, 2, .inl o.2.2.2.2.1)), (ad_t_newRow, .inl (G.2.1 0, 13, .inl o.2.2.2.2.2))])) A (F0 m 51 ls []) := by
          intro n
          induction n with
          | zero =>
            intro x29 H locs ls hl hP hD hS hf
            rw [fX11_cell_l51] at hf
            cases hf
          | succ n ih =>
            intro x29 H locs ls hl hP hD hS hf
            rw [fX11_cell_l51] at hf
            refine lv_iload_n hx hb dX11_cell_51 rfl (lv_at hl 0 rfl) ?_
            refine lv_aload_n hx hb dX11_cell_52 rfl (lv_at hl 1 rfl) ?_
            refine va_get (D := G.1) (cl := vwCl) (ci := 11) (v := .int (a20.1 11)) (C := RX11) (T := TX11) (N := 29) hx hb hts inG11 hown hK hP 0 rfl rfl 11 (Nat.le_of_ble_eq_true rfl) (hts _ q1052) (fun _ h9 => h9) rfl dX11_cell_53 ?_
            refine lv_icmp_ge (tgt := 85) hx hb dX11_cell_56 (by decide) (fun c30 => ?_) (fun c30 => ?_)
            · have hf := if_t hf c30
              have hf := Option.some.inj hf
              subst hf
              exact Ey22 _ rfl H locs ls (lv_sub hl [1, 2] rfl) hP hD hS 
            · have hf := if_f hf c30
              refine lv_aload_n hx hb dX11_cell_59 rfl (lv_at hl 1 rfl) ?_
              refine va_get (D := G.1) (cl := vwCl) (ci := 11) (v := .ref ad_t_givenRow) (C := RX11) (T := TX11) (N := 29) hx hb hts inG11 hown hK hP 0 rfl rfl 8 (Nat.le_of_ble_eq_true rfl) (hts _ q1049) (fun _ h9 => h9) rfl dX11_cell_60 ?_
              refine lv_iload_n hx hb dX11_cell_63 rfl (lv_at hl 0 rfl) ?_
              obtain ⟨h31, hf⟩ := gd_some hf
              refine va_iald (D := G.1) (cl := vwCl) hx hb hK hP 3 0 rfl rfl (gi_in h31) dX11_cell_64 ?_
              refine lv_aload_n hx hb dX11_cell_65 rfl (lv_at hl 1 rfl) ?_
              refine va_get (D := G.1) (cl := vwCl) (ci := 11) (v := .ref ad_t_all) (C := RX11) (T := TX11) (N := 29) hx hb hts inG11 hown hK hP 0 rfl rfl 0 (Nat.le_of_ble_eq_true rfl) (hts _ q1041) (fun _ h9 => h9) rfl dX11_cell_66 ?_
              refine lv_iload_n hx hb dX11_cell_69 rfl (lv_at hl 2 rfl) ?_
              refine kPS (tX11_badAt l G p0 _ rfl) ⟨hx, hb, hml, hown, hts⟩ q1287 q1288 q108 q1289 okyX11_badAt ⟨Nat.le_of_ble_eq_true rfl, Nat.le_of_ble_eq_true rfl⟩ hP hG hS [] rfl hl.1 rfl (Nat.le_of_ble_eq_true rfl) dX11_cell_70 ⟨Nat.zero_le _, Nat.zero_le _⟩ (fun locs hS => ?_)
              refine W.eq (g2 := F0 m 73 ls [.int (fX11_badAt p0), .ref ad_t_all, .int (a20.2.2.1 x29.toNatClampNeg)]) rfl ?_
              obtain ⟨h32, hf⟩ := gd_some hf
              refine va_iald (D := G.1) (cl := vwCl) hx hb hK hP 1 0 rfl rfl (gi_in h32) dX11_cell_73 ?_
              refine lv_icmp_ne (tgt := 79) hx hb dX11_cell_74 (by decide) (fun c33 => ?_) (fun c33 => ?_)
              · have hf := if_f hf c33
                refine lv_iinc (v := (x29 + (1 : Int32))) (lv' := [(3, .int (x29 + (1 : Int32))), (0, .ref ad_t), (1, .int p0)]) hx hb dX11_cell_79 hl (k := 0) rfl (ii_1 _) (by decide) rfl (fun ls hl => ?_)
                refine lv_goto (tgt := 51) hx hb dX11_cell_82 (by decide) ?_
                exact ih (x29 + (1 : Int32)) H locs ls (lv_sub hl [0, 1, 2] rfl) hP hD hS hf
              · have hf := if_t hf c33
                refine lv_iconst (v := 1) hx hb dX11_cell_77 (by decide) ?_
                have hf := Option.some.inj hf
                subst hf
                have hf := hky22
                (try dsimp only at hf)
                have hf := Option.some.inj hf
                subst hf
                exact eRet hx hb hr hlocks hP hD hS ⟨rfl, rfl⟩ dX11_cell_78
        exact Ly22 FU (0 : Int32) H locs ls (lv_sub hl [0, 1, 2] rfl) hP hD hS hLy22
      · have hf := if_f hf c19
        refine lv_aload_n hx hb dX11_cell_33 rfl (lv_at hl 0 rfl) ?_
        refine va_get (D := G.1) (cl := vwCl) (ci := 11) (v := .ref ad_t_all) (C := RX11) (T := TX11) (N := 29) hx hb hts inG11 hown hK hP 0 rfl rfl 0 (Nat.le_of_ble_eq_true rfl) (hts _ q1041) (fun _ h9 => h9) rfl dX11_cell_34 ?_
        refine lv_iload_n hx hb dX11_cell_37 rfl (lv_at hl 1 rfl) ?_
        refine kPS (tX11_badAt l G p0 _ rfl) ⟨hx, hb, hml, hown, hts⟩ q1287 q1288 q108 q1289 okyX11_badAt ⟨Nat.le_of_ble_eq_true rfl, Nat.le_of_ble_eq_true rfl⟩ hP hG hS [] rfl hl.1 rfl (Nat.le_of_ble_eq_true rfl) dX11_cell_38 ⟨Nat.zero_le _, Nat.zero_le _⟩ (fun locs hS => ?_)
        refine W.eq (g2 := F0 m 41 ls [.int (fX11_badAt p0), .ref ad_t_all]) rfl ?_
        refine lv_iload_n hx hb dX11_cell_41 rfl (lv_at hl 2 rfl) ?_
        refine lv_iadd hx hb dX11_cell_42 ?_
        obtain ⟨h34, hf⟩ := gd_some hf
        refine va_iald (D := G.1) (cl := vwCl) hx hb hK hP 1 0 rfl rfl (gi_in h34) dX11_cell_43 ?_
        have hf := Option.some.inj hf
        subst hf
        exact eRet hx hb hr hlocks hP hD hS ⟨rfl, rfl⟩ dX11_cell_44
    · have hf := if_t hf c18
      refine lv_iconst (v := -1) hx hb dX11_cell_26 (by decide) ?_
      have hf := Option.some.inj hf
      subst hf
      exact eRet hx hb hr hlocks hP hD hS ⟨rfl, rfl⟩ dX11_cell_27

def fX11_place (tI : Nat → Int32) (t_all : Nat → Int32) (t_size : Nat → Int32) (t_givenRow : Nat → Int32) (t_givenColumn : Nat → Int32) (t_newRow : Nat → Int32) (p0 : Int32) (p1 : Int32) (p2 : Int32) : Option (Int32 × (Nat → Int32) × (Nat → Int32) × (Nat → Int32) × (Nat → Int32) × (Nat → Int32)) :=
  (if (bi (fX11_isCell t_all p0 p1)) = 0 then some ((-1 : Int32), tI, t_size, t_givenRow, t_givenColumn, t_newRow) else (if (bi (fX11_isIn p2 (0 : Int32) (3 : Int32))) = 0 then some ((-1 : Int32), tI, t_size, t_givenRow, t_givenColumn, t_newRow) else bn (fX11_laysAll tI t_all t_size t_givenRow t_givenColumn t_newRow) fun a3 => bn (fX11_goesTo a3.1 t_all a3.2.2.1 a3.2.2.2.1 p0 p1) fun a5 => some ((if p2 = 0 then (a5 15) else (if p2 = (1 : Int32) then (a5 16) else (if p2 = (2 : Int32) then (a5 17) else (if (a5 18) = 0 then (0 : Int32) else (1 : Int32))))), a5, a3.2.1, a3.2.2.1, a3.2.2.2.1, a3.2.2.2.2)))
set_option maxRecDepth 100000 in
set_option maxHeartbeats 4000000 in
theorem tX11_place (l : Launch) (G : gG) (ad_t ad_t_all ad_t_tape ad_t_isImage ad_t_size ad_t_givenRow ad_t_givenColumn ad_t_newRow ad_t_view : Nat) (tI : Nat → Int32) (t_value : Int64) (t_all : Nat → Int32) (t_size : Nat → Int32) (t_givenRow : Nat → Int32) (t_givenColumn : Nat → Int32) (t_newRow : Nat → Int32) (p0 : Int32) (p1 : Int32) (p2 : Int32) (o : Int32 × (Nat → Int32) × (Nat → Int32) × (Nat → Int32) × (Nat → Int32) × (Nat → Int32)) (hf : fX11_place tI t_all t_size t_givenRow t_givenColumn t_newRow p0 p1 p2 = some o) : mE G l yX11_place cX11_place 4 (some .int) 13 302 0 0 [.ref ad_t, .int p0, .int p1, .int p2] [(ad_t, .inr (11, [.ref ad_t_all, .ref ad_t_tape, .ref ad_t_isImage, .int (tI 3), .int (tI 4), .int (tI 5), .int (tI 6), .ref ad_t_size, .ref ad_t_givenRow, .ref ad_t_givenColumn, .ref ad_t_newRow, .int (tI 11), .int (tI 12), .int (tI 13), .int (tI 14), .int (tI 15), .int (tI 16), .int (tI 17), .int (tI 18), .int (tI 19), .ref ad_t_view, .int (tI 21), .int (tI 22), .int (tI 23), .int (tI 24), .int (tI 25), .long t_value, .int (tI 27), .int (tI 28)])), (ad_t_all, .inl (G.2.1 0, 43047, .inl t_all)), (ad_t_size, .inl (G.2.1 0, 8, .inl t_size)), (ad_t_givenRow, .inl (G.2.1 0, 12, .inl t_givenRow)), (ad_t_givenColumn, .inl (G.2.1 0, 2, .inl t_givenColumn)), (ad_t_newRow, .inl (G.2.1 0, 13, .inl t_newRow))] (fun r w => r = (some (.int o.1)) ∧ w = [(ad_t, .inr (11, [.ref ad_t_all, .ref ad_t_tape, .ref ad_t_isImage, .int (o.2.1 3), .int (o.2.1 4), .int (o.2.1 5), .int (o.2.1 6), .ref ad_t_size, .ref ad_t_givenRow, .ref ad_t_givenColumn, .ref ad_t_newRow, .int (o.2.1 11), .int (o.2.1 12), .int (o.2.1 13), .int (o.2.1 14), .int (o.2.1 15), .int (o.2.1 16), .int (o.2.1 17), .int (o.2.1 18), .int (o.2.1 19), .ref ad_t_view, .int (o.2.1 21), .int (o.2.1 22), .int (o.2.1 23), .int (o.2.1 24), .int (o.2.1 25), .long t_value, .int (o.2.1 27), .int (o.2.1 28)])), (ad_t_all, .inl (G.2.1 0, 43047, .inl t_all)), (ad_t_size, .inl (G.2.1 0, 8, .inl o.2.2.1)), (ad_t_givenRow, .inl (G.2.1 0, 12, .inl o.2.2.2.1)), (ad_t_givenColumn, .inl (G.2.1 0, 2, .inl o.2.2.2.2.1)), (ad_t_newRow, .inl (G.2.1 0, 13, .inl o.2.2.2.2.2))]) := by
  refine mE_of (by decide) (Nat.le_of_ble_eq_true rfl) ?_
  intro p e s m below meth cd ls A hx hb hml hown hts hr hlocks hnm hl hA hP hD hS hG
  have hK := hG.1
  have hown : s.vm.findClass RX11 = some m.cls := hown
  have hl : lv_has ls 4 [(0, .ref ad_t), (1, .int p0), (2, .int p1), (3, .int p2)] := hl
  have hS := hS
  unfold fX11_place at hf
  obtain ⟨H, locs, eH, eL⟩ : ∃ (H : Heap) (locs : List Loc), H = s.heap ∧ locs = [] := ⟨_, _, rfl, rfl⟩
  have hP : va_P G.1 vwCl [(ad_t, .inr (11, [.ref ad_t_all, .ref ad_t_tape, .ref ad_t_isImage, .int (tI 3), .int (tI 4), .int (tI 5), .int (tI 6), .ref ad_t_size, .ref ad_t_givenRow, .ref ad_t_givenColumn, .ref ad_t_newRow, .int (tI 11), .int (tI 12), .int (tI 13), .int (tI 14), .int (tI 15), .int (tI 16), .int (tI 17), .int (tI 18), .int (tI 19), .ref ad_t_view, .int (tI 21), .int (tI 22), .int (tI 23), .int (tI 24), .int (tI 25), .long t_value, .int (tI 27), .int (tI 28)])), (ad_t_all, .inl (G.2.1 0, 43047, .inl t_all)), (ad_t_size, .inl (G.2.1 0, 8, .inl t_size)), (ad_t_givenRow, .inl (G.2.1 0, 12, .inl t_givenRow)), (ad_t_givenColumn, .inl (G.2.1 0, 2, .inl t_givenColumn)), (ad_t_newRow, .inl (G.2.1 0, 13, .inl t_newRow))] H := eH ▸ hP
  have hS : va_S A s.heap H locs := by rw [eH, eL]; exact hS
  suffices hgo : wG p l e 13 302 s m [.ref ad_t, .int p0, .int p1, .int p2] below meth cd H locs (eQ G A (fun r w => r = (some (.int o.1)) ∧ w = [(ad_t, .inr (11, [.ref ad_t_all, .ref ad_t_tape, .ref ad_t_isImage, .int (o.2.1 3), .int (o.2.1 4), .int (o.2.1 5), .int (o.2.1 6), .ref ad_t_size, .ref ad_t_givenRow, .ref ad_t_givenColumn, .ref ad_t_newRow, .int (o.2.1 11), .int (o.2.1 12), .int (o.2.1 13), .int (o.2.1 14), .int (o.2.1 15), .int (o.2.1 16), .int (o.2.1 17), .int (o.2.1 18), .int (o.2.1 19), .ref ad_t_view, .int (o.2.1 21), .int (o.2.1 22), .int (o.2.1 23), .int (o.2.1 24), .int (o.2.1 25), .long t_value, .int (o.2.1 27), .int (o.2.1 28)])), (ad_t_all, .inl (G.2.1 0, 43047, .inl t_all)), (ad_t_size, .inl (G.2.1 0, 8, .inl o.2.2.1)), (ad_t_givenRow, .inl (G.2.1 0, 12, .inl o.2.2.2.1)), (ad_t_givenColumn, .inl (G.2.1 0, 2, .inl o.2.2.2.2.1)), (ad_t_newRow, .inl (G.2.1 0, 13, .inl o.2.2.2.2.2))])) A (F0 m 0 ls []) by rw [eH, eL] at hgo; exact hgo
  clear eH eL
  refine lv_aload_n hx hb dX11_place_0 rfl (lv_at hl 0 rfl) ?_
  refine lv_iload_n hx hb dX11_place_1 rfl (lv_at hl 1 rfl) ?_
  refine lv_iload_n hx hb dX11_place_2 rfl (lv_at hl 2 rfl) ?_
  refine kPV (tX11_isCell l G ad_t ad_t_all ad_t_tape ad_t_isImage ad_t_size ad_t_givenRow ad_t_givenColumn ad_t_newRow ad_t_view tI t_value t_all p0 p1 _ rfl) ⟨hx, hb, hml, hown, hts⟩ q1358 q1360 q77 q108 q1361 okyX11_isCell ⟨Nat.le_of_ble_eq_true rfl, Nat.le_of_ble_eq_true rfl⟩ hP hG hS [0, 1] rfl 0 rfl rfl hl.1 rfl (Nat.le_of_ble_eq_true rfl) dX11_place_3 ⟨Nat.zero_le _, Nat.zero_le _⟩ (fun locs hS => ?_)
  refine W.eq (g2 := F0 m 6 ls [.int (bi (fX11_isCell t_all p0 p1))]) rfl ?_
  refine lv_if_eq (tgt := 18) hx hb dX11_place_6 (by decide) (fun c12 => ?_) (fun c12 => ?_)
  · have hf := if_t hf c12
    refine lv_iconst (v := -1) hx hb dX11_place_18 (by decide) ?_
    have hf := Option.some.inj hf
    subst hf
    exact eRet hx hb hr hlocks hP hD hS ⟨rfl, rfl⟩ dX11_place_19
  · have hf := if_f hf c12
    refine lv_iload_n hx hb dX11_place_9 rfl (lv_at hl 3 rfl) ?_
    refine lv_iconst (v := 0) hx hb dX11_place_10 (by decide) ?_
    refine lv_iconst (v := 3) hx hb dX11_place_11 (by decide) ?_
    refine kPS (tX11_isIn l G p2 (0 : Int32) (3 : Int32) _ rfl) ⟨hx, hb, hml, hown, hts⟩ q1137 q1138 q108 q1139 okyX11_isIn ⟨Nat.le_of_ble_eq_true rfl, Nat.le_of_ble_eq_true rfl⟩ hP hG hS [] rfl hl.1 rfl (Nat.le_of_ble_eq_true rfl) dX11_place_12 ⟨Nat.zero_le _, Nat.zero_le _⟩ (fun locs hS => ?_)
    refine W.eq (g2 := F0 m 15 ls [.int (bi (fX11_isIn p2 (0 : Int32) (3 : Int32)))]) rfl ?_
    refine lv_if_ne (tgt := 20) hx hb dX11_place_15 (by decide) (fun c13 => ?_) (fun c13 => ?_)
    · have hf := if_f hf c13
      refine lv_aload_n hx hb dX11_place_20 rfl (lv_at hl 0 rfl) ?_
      obtain ⟨a14, h15, hf⟩ := bn_some hf
      refine kEV (tX11_laysAll l G ad_t ad_t_all ad_t_tape ad_t_isImage ad_t_size ad_t_givenRow ad_t_givenColumn ad_t_newRow ad_t_view tI t_value t_all t_size t_givenRow t_givenColumn t_newRow a14 h15) ⟨hx, hb, hml, hown, hts⟩ q1294 q1296 q69 q108 q1297 okyX11_laysAll ⟨Nat.le_of_ble_eq_true rfl, Nat.le_of_ble_eq_true rfl⟩ hP hD hG hS hA [0, 1, 2, 3, 4, 5] [] rfl (wr := []) rfl (by decide) 0 rfl rfl hl.1 rfl (Nat.le_of_ble_eq_true rfl) dX11_place_21 ⟨Nat.zero_le _, Nat.zero_le _⟩ (fun r w H locs hR hP hD hS => ?_)
      obtain ⟨rfl, rfl⟩ := hR
      have hP : va_P G.1 vwCl [(ad_t, .inr (11, [.ref ad_t_all, .ref ad_t_tape, .ref ad_t_isImage, .int (a14.1 3), .int (a14.1 4), .int (a14.1 5), .int (a14.1 6), .ref ad_t_size, .ref ad_t_givenRow, .ref ad_t_givenColumn, .ref ad_t_newRow, .int (a14.1 11), .int (a14.1 12), .int (a14.1 13), .int (a14.1 14), .int (a14.1 15), .int (a14.1 16), .int (a14.1 17), .int (a14.1 18), .int (a14.1 19), .ref ad_t_view, .int (a14.1 21), .int (a14.1 22), .int (a14.1 23), .int (a14.1 24), .int (a14.1 25), .long t_value, .int (a14.1 27), .int (a14.1 28)])), (ad_t_all, .inl (G.2.1 0, 43047, .inl t_all)), (ad_t_size, .inl (G.2.1 0, 8, .inl a14.2.1)), (ad_t_givenRow, .inl (G.2.1 0, 12, .inl a14.2.2.1)), (ad_t_givenColumn, .inl (G.2.1 0, 2, .inl a14.2.2.2.1)), (ad_t_newRow, .inl (G.2.1 0, 13, .inl a14.2.2.2.2))] H := hP
      have hD : va_D A [(ad_t, .inr (11, [.ref ad_t_all, .ref ad_t_tape, .ref ad_t_isImage, .int (a14.1 3), .int (a14.1 4), .int (a14.1 5), .int (a14.1 6), .ref ad_t_size, .ref ad_t_givenRow, .ref ad_t_givenColumn, .ref ad_t_newRow, .int (a14.1 11), .int (a14.1 12), .int (a14.1 13), .int (a14.1 14), .int (a14.1 15), .int (a14.1 16), .int (a14.1 17), .int (a14.1 18), .int (a14.1 19), .ref ad_t_view, .int (a14.1 21), .int (a14.1 22), .int (a14.1 23), .int (a14.1 24), .int (a14.1 25), .long t_value, .int (a14.1 27), .int (a14.1 28)])), (ad_t_all, .inl (G.2.1 0, 43047, .inl t_all)), (ad_t_size, .inl (G.2.1 0, 8, .inl a14.2.1)), (ad_t_givenRow, .inl (G.2.1 0, 12, .inl a14.2.2.1)), (ad_t_givenColumn, .inl (G.2.1 0, 2, .inl a14.2.2.2.1)), (ad_t_newRow, .inl (G.2.1 0, 13, .inl a14.2.2.2.2))] := hD
      refine W.eq (g2 := F0 m 24 ls []) rfl ?_
      refine lv_aload_n hx hb dX11_place_24 rfl (lv_at hl 0 rfl) ?_
      refine lv_iload_n hx hb dX11_place_25 rfl (lv_at hl 1 rfl) ?_
      refine lv_iload_n hx hb dX11_place_26 rfl (lv_at hl 2 rfl) ?_
      obtain ⟨a16, h17, hf⟩ := bn_some hf
      refine kEV (tX11_goesTo l G ad_t ad_t_all ad_t_tape ad_t_isImage ad_t_size ad_t_givenRow ad_t_givenColumn ad_t_newRow ad_t_view a14.1 t_value t_all a14.2.2.1 a14.2.2.2.1 p0 p1 a16 h17) ⟨hx, hb, hml, hown, hts⟩ q1318 q1320 q75 q108 q1321 okyX11_goesTo ⟨Nat.le_of_ble_eq_true rfl, Nat.le_of_ble_eq_true rfl⟩ hP hD hG hS hA [0, 1, 3, 4] [2, 5] rfl (wr := [(ad_t_size, .inl (G.2.1 0, 8, .inl a14.2.1)), (ad_t_newRow, .inl (G.2.1 0, 13, .inl a14.2.2.2.2))]) rfl (by decide) 0 rfl rfl hl.1 rfl (Nat.le_of_ble_eq_true rfl) dX11_place_27 ⟨Nat.zero_le _, Nat.zero_le _⟩ (fun r w H locs hR hP hD hS => ?_)
      obtain ⟨rfl, rfl⟩ := hR
      have hP : va_P G.1 vwCl [(ad_t_size, .inl (G.2.1 0, 8, .inl a14.2.1)), (ad_t_newRow, .inl (G.2.1 0, 13, .inl a14.2.2.2.2)), (ad_t, .inr (11, [.ref ad_t_all, .ref ad_t_tape, .ref ad_t_isImage, .int (a16 3), .int (a16 4), .int (a16 5), .int (a16 6), .ref ad_t_size, .ref ad_t_givenRow, .ref ad_t_givenColumn, .ref ad_t_newRow, .int (a16 11), .int (a16 12), .int (a16 13), .int (a16 14), .int (a16 15), .int (a16 16), .int (a16 17), .int (a16 18), .int (a16 19), .ref ad_t_view, .int (a16 21), .int (a16 22), .int (a16 23), .int (a16 24), .int (a16 25), .long t_value, .int (a16 27), .int (a16 28)])), (ad_t_all, .inl (G.2.1 0, 43047, .inl t_all)), (ad_t_givenRow, .inl (G.2.1 0, 12, .inl a14.2.2.1)), (ad_t_givenColumn, .inl (G.2.1 0, 2, .inl a14.2.2.2.1))] H := hP
      have hD : va_D A [(ad_t_size, .inl (G.2.1 0, 8, .inl a14.2.1)), (ad_t_newRow, .inl (G.2.1 0, 13, .inl a14.2.2.2.2)), (ad_t, .inr (11, [.ref ad_t_all, .ref ad_t_tape, .ref ad_t_isImage, .int (a16 3), .int (a16 4), .int (a16 5), .int (a16 6), .ref ad_t_size, .ref ad_t_givenRow, .ref ad_t_givenColumn, .ref ad_t_newRow, .int (a16 11), .int (a16 12), .int (a16 13), .int (a16 14), .int (a16 15), .int (a16 16), .int (a16 17), .int (a16 18), .int (a16 19), .ref ad_t_view, .int (a16 21), .int (a16 22), .int (a16 23), .int (a16 24), .int (a16 25), .long t_value, .int (a16 27), .int (a16 28)])), (ad_t_all, .inl (G.2.1 0, 43047, .inl t_all)), (ad_t_givenRow, .inl (G.2.1 0, 12, .inl a14.2.2.1)), (ad_t_givenColumn, .inl (G.2.1 0, 2, .inl a14.2.2.2.1))] := hD
      refine W.eq (g2 := F0 m 30 ls []) rfl ?_
      refine lv_iload_n hx hb dX11_place_30 rfl (lv_at hl 3 rfl) ?_
      have J18 : wG p l e 13 302 s m [.ref ad_t, .int p0, .int p1, .int p2] below meth cd H locs (eQ G A (fun r w => r = (some (.int o.1)) ∧ w = [(ad_t, .inr (11, [.ref ad_t_all, .ref ad_t_tape, .ref ad_t_isImage, .int (o.2.1 3), .int (o.2.1 4), .int (o.2.1 5), .int (o.2.1 6), .ref ad_t_size, .ref ad_t_givenRow, .ref ad_t_givenColumn, .ref ad_t_newRow, .int (o.2.1 11), .int (o.2.1 12), .int (o.2.1 13), .int (o.2.1 14), .int (o.2.1 15), .int (o.2.1 16), .int (o.2.1 17), .int (o.2.1 18), .int (o.2.1 19), .ref ad_t_view, .int (o.2.1 21), .int (o.2.1 22), .int (o.2.1 23), .int (o.2.1 24), .int (o.2.1 25), .long t_value, .int (o.2.1 27), .int (o.2.1 28)])), (ad_t_all, .inl (G.2.1 0, 43047, .inl t_all)), (ad_t_size, .inl (G.2.1 0, 8, .inl o.2.2.1)), (ad_t_givenRow, .inl (G.2.1 0, 12, .inl o.2.2.2.1)), (ad_t_givenColumn, .inl (G.2.1 0, 2, .inl o.2.2.2.2.1)), (ad_t_newRow, .inl (G.2.1 0, 13, .inl o.2.2.2.2.2))])) A (F0 m 77 ls [.int (if p2 = 0 then (a16 15) else (if p2 = (1 : Int32) then (a16 16) else (if p2 = (2 : Int32) then (a16 17) else (if (a16 18) = 0 then (0 : Int32) else (1 : Int32)))))]) := by
        have hf := Option.some.inj hf
        subst hf
        have hP := hP.sub (ws' := [(ad_t, .inr (11, [.ref ad_t_all, .ref ad_t_tape, .ref ad_t_isImage, .int (a16 3), .int (a16 4), .int (a16 5), .int (a16 6), .ref ad_t_size, .ref ad_t_givenRow, .ref ad_t_givenColumn, .ref ad_t_newRow, .int (a16 11), .int (a16 12), .int (a16 13), .int (a16 14), .int (a16 15), .int (a16 16), .int (a16 17), .int (a16 18), .int (a16 19), .ref ad_t_view, .int (a16 21), .int (a16 22), .int (a16 23), .int (a16 24), .int (a16 25), .long t_value, .int (a16 27), .int (a16 28)])), (ad_t_all, .inl (G.2.1 0, 43047, .inl t_all)), (ad_t_size, .inl (G.2.1 0, 8, .inl a14.2.1)), (ad_t_givenRow, .inl (G.2.1 0, 12, .inl a14.2.2.1)), (ad_t_givenColumn, .inl (G.2.1 0, 2, .inl a14.2.2.2.1)), (ad_t_newRow, .inl (G.2.1 0, 13, .inl a14.2.2.2.2))]) [2, 3, 0, 4, 5, 1] rfl
        have hD := hD.sub (ws' := [(ad_t, .inr (11, [.ref ad_t_all, .ref ad_t_tape, .ref ad_t_isImage, .int (a16 3), .int (a16 4), .int (a16 5), .int (a16 6), .ref ad_t_size, .ref ad_t_givenRow, .ref ad_t_givenColumn, .ref ad_t_newRow, .int (a16 11), .int (a16 12), .int (a16 13), .int (a16 14), .int (a16 15), .int (a16 16), .int (a16 17), .int (a16 18), .int (a16 19), .ref ad_t_view, .int (a16 21), .int (a16 22), .int (a16 23), .int (a16 24), .int (a16 25), .long t_value, .int (a16 27), .int (a16 28)])), (ad_t_all, .inl (G.2.1 0, 43047, .inl t_all)), (ad_t_size, .inl (G.2.1 0, 8, .inl a14.2.1)), (ad_t_givenRow, .inl (G.2.1 0, 12, .inl a14.2.2.1)), (ad_t_givenColumn, .inl (G.2.1 0, 2, .inl a14.2.2.2.1)), (ad_t_newRow, .inl (G.2.1 0, 13, .inl a14.2.2.2.2))]) [2, 3, 0, 4, 5, 1] (by decide) rfl
        exact eRet hx hb hr hlocks hP hD hS ⟨rfl, rfl⟩ dX11_place_77
      refine lv_if_ne (tgt := 41) hx hb dX11_place_31 (by decide) (fun c19 => ?_) (fun c19 => ?_)
      · refine lv_iload_n hx hb dX11_place_41 rfl (lv_at hl 3 rfl) ?_
        refine lv_iconst (v := 1) hx hb dX11_place_42 (by decide) ?_
        refine lv_icmp_ne (tgt := 53) hx hb dX11_place_43 (by decide) (fun c20 => ?_) (fun c20 => ?_)
        · refine lv_iload_n hx hb dX11_place_53 rfl (lv_at hl 3 rfl) ?_
          refine lv_iconst (v := 2) hx hb dX11_place_54 (by decide) ?_
          refine lv_icmp_ne (tgt := 65) hx hb dX11_place_55 (by decide) (fun c21 => ?_) (fun c21 => ?_)
          · refine lv_aload_n hx hb dX11_place_65 rfl (lv_at hl 0 rfl) ?_
            refine va_get (D := G.1) (cl := vwCl) (ci := 11) (v := .int (a16 18)) (C := RX11) (T := TX11) (N := 29) hx hb hts inG11 hown hK hP 2 rfl rfl 18 (Nat.le_of_ble_eq_true rfl) (hts _ q1059) (fun _ h9 => h9) rfl dX11_place_66 ?_
            refine lv_if_eq (tgt := 76) hx hb dX11_place_69 (by decide) (fun c22 => ?_) (fun c22 => ?_)
            · refine lv_iconst (v := 0) hx hb dX11_place_76 (by decide) ?_
              exact (mgT c22 (mgF c21 (mgF c20 (mgF c19 J18))))
            · refine lv_iconst (v := 1) hx hb dX11_place_72 (by decide) ?_
              refine lv_goto (tgt := 77) hx hb dX11_place_73 (by decide) ?_
              exact (mgF c22 (mgF c21 (mgF c20 (mgF c19 J18))))
          · refine lv_aload_n hx hb dX11_place_58 rfl (lv_at hl 0 rfl) ?_
            refine va_get (D := G.1) (cl := vwCl) (ci := 11) (v := .int (a16 17)) (C := RX11) (T := TX11) (N := 29) hx hb hts inG11 hown hK hP 2 rfl rfl 17 (Nat.le_of_ble_eq_true rfl) (hts _ q1058) (fun _ h9 => h9) rfl dX11_place_59 ?_
            refine lv_goto (tgt := 77) hx hb dX11_place_62 (by decide) ?_
            exact (mgT c21 (mgF c20 (mgF c19 J18)))
        · refine lv_aload_n hx hb dX11_place_46 rfl (lv_at hl 0 rfl) ?_
          refine va_get (D := G.1) (cl := vwCl) (ci := 11) (v := .int (a16 16)) (C := RX11) (T := TX11) (N := 29) hx hb hts inG11 hown hK hP 2 rfl rfl 16 (Nat.le_of_ble_eq_true rfl) (hts _ q1057) (fun _ h9 => h9) rfl dX11_place_47 ?_
          refine lv_goto (tgt := 77) hx hb dX11_place_50 (by decide) ?_
          exact (mgT c20 (mgF c19 J18))
      · refine lv_aload_n hx hb dX11_place_34 rfl (lv_at hl 0 rfl) ?_
        refine va_get (D := G.1) (cl := vwCl) (ci := 11) (v := .int (a16 15)) (C := RX11) (T := TX11) (N := 29) hx hb hts inG11 hown hK hP 2 rfl rfl 15 (Nat.le_of_ble_eq_true rfl) (hts _ q1056) (fun _ h9 => h9) rfl dX11_place_35 ?_
        refine lv_goto (tgt := 77) hx hb dX11_place_38 (by decide) ?_
        exact (mgT c19 J18)
    · have hf := if_t hf c13
      refine lv_iconst (v := -1) hx hb dX11_place_18 (by decide) ?_
      have hf := Option.some.inj hf
      subst hf
      exact eRet hx hb hr hlocks hP hD hS ⟨rfl, rfl⟩ dX11_place_19

def fX11_read_l26 (x1 : Int32) (t_all : Nat → Int32) (t_givenRow : Nat → Int32) (t_givenColumn : Nat → Int32) : Nat → Int32 → Int32 → (Nat → Int32) → Option (Int32 × (Nat → Int32))
  | 0, _, _, _ => none
  | n + 1, x2, x3, tI =>
    (if (t_all 1) ≤ x3 then some (x2, tI) else bn (fX11_goesTo tI t_all t_givenRow t_givenColumn x1 x3) fun a5 => fX11_read_l26 x1 t_all t_givenRow t_givenColumn n (x2 ||| ((a5 17) <<< (x3 &&& 31))) (x3 + (1 : Int32)) a5)
def fX11_read (tI : Nat → Int32) (t_all : Nat → Int32) (t_size : Nat → Int32) (t_givenRow : Nat → Int32) (t_givenColumn : Nat → Int32) (t_newRow : Nat → Int32) (p0 : Int32) : Option (Int32 × (Nat → Int32) × (Nat → Int32) × (Nat → Int32) × (Nat → Int32) × (Nat → Int32)) :=
  (if (bi (fX11_isIn p0 (0 : Int32) ((t_all 0) - (1 : Int32)))) = 0 then some ((0 : Int32), tI, t_size, t_givenRow, t_givenColumn, t_newRow) else bn (fX11_laysAll tI t_all t_size t_givenRow t_givenColumn t_newRow) fun a2 => bn (fX11_read_l26 p0 t_all a2.2.2.1 a2.2.2.2.1 FU (0 : Int32) (0 : Int32) a2.1) fun y7 => some (y7.1, y7.2, a2.2.1, a2.2.2.1, a2.2.2.2.1, a2.2.2.2.2))
set_option maxRecDepth 100000 in
set_option maxHeartbeats 4000000 in
theorem tX11_read (l : Launch) (G : gG) (ad_t ad_t_all ad_t_tape ad_t_isImage ad_t_size ad_t_givenRow ad_t_givenColumn ad_t_newRow ad_t_view : Nat) (tI : Nat → Int32) (t_value : Int64) (t_all : Nat → Int32) (t_size : Nat → Int32) (t_givenRow : Nat → Int32) (t_givenColumn : Nat → Int32) (t_newRow : Nat → Int32) (p0 : Int32) (o : Int32 × (Nat → Int32) × (Nat → Int32) × (Nat → Int32) × (Nat → Int32) × (Nat → Int32)) (hf : fX11_read tI t_all t_size t_givenRow t_givenColumn t_newRow p0 = some o) : mE G l yX11_read cX11_read 4 (some .int) 13 302 0 0 [.ref ad_t, .int p0] [(ad_t, .inr (11, [.ref ad_t_all, .ref ad_t_tape, .ref ad_t_isImage, .int (tI 3), .int (tI 4), .int (tI 5), .int (tI 6), .ref ad_t_size, .ref ad_t_givenRow, .ref ad_t_givenColumn, .ref ad_t_newRow, .int (tI 11), .int (tI 12), .int (tI 13), .int (tI 14), .int (tI 15), .int (tI 16), .int (tI 17), .int (tI 18), .int (tI 19), .ref ad_t_view, .int (tI 21), .int (tI 22), .int (tI 23), .int (tI 24), .int (tI 25), .long t_value, .int (tI 27), .int (tI 28)])), (ad_t_all, .inl (G.2.1 0, 43047, .inl t_all)), (ad_t_size, .inl (G.2.1 0, 8, .inl t_size)), (ad_t_givenRow, .inl (G.2.1 0, 12, .inl t_givenRow)), (ad_t_givenColumn, .inl (G.2.1 0, 2, .inl t_givenColumn)), (ad_t_newRow, .inl (G.2.1 0, 13, .inl t_newRow))] (fun r w => r = (some (.int o.1)) ∧ w = [(ad_t, .inr (11, [.ref ad_t_all, .ref ad_t_tape, .ref ad_t_isImage, .int (o.2.1 3), .int (o.2.1 4), .int (o.2.1 5), .int (o.2.1 6), .ref ad_t_size, .ref ad_t_givenRow, .ref ad_t_givenColumn, .ref ad_t_newRow, .int (o.2.1 11), .int (o.2.1 12), .int (o.2.1 13), .int (o.2.1 14), .int (o.2.1 15), .int (o.2.1 16), .int (o.2.1 17), .int (o.2.1 18), .int (o.2.1 19), .ref ad_t_view, .int (o.2.1 21), .int (o.2.1 22), .int (o.2.1 23), .int (o.2.1 24), .int (o.2.1 25), .long t_value, .int (o.2.1 27), .int (o.2.1 28)])), (ad_t_all, .inl (G.2.1 0, 43047, .inl t_all)), (ad_t_size, .inl (G.2.1 0, 8, .inl o.2.2.1)), (ad_t_givenRow, .inl (G.2.1 0, 12, .inl o.2.2.2.1)), (ad_t_givenColumn, .inl (G.2.1 0, 2, .inl o.2.2.2.2.1)), (ad_t_newRow, .inl (G.2.1 0, 13, .inl o.2.2.2.2.2))]) := by
  refine mE_of (by decide) (Nat.le_of_ble_eq_true rfl) ?_
  intro p e s m below meth cd ls A hx hb hml hown hts hr hlocks hnm hl hA hP hD hS hG
  have hK := hG.1
  have hown : s.vm.findClass RX11 = some m.cls := hown
  have hl : lv_has ls 4 [(0, .ref ad_t), (1, .int p0)] := hl
  have hS := hS
  unfold fX11_read at hf
  obtain ⟨H, locs, eH, eL⟩ : ∃ (H : Heap) (locs : List Loc), H = s.heap ∧ locs = [] := ⟨_, _, rfl, rfl⟩
  have hP : va_P G.1 vwCl [(ad_t, .inr (11, [.ref ad_t_all, .ref ad_t_tape, .ref ad_t_isImage, .int (tI 3), .int (tI 4), .int (tI 5), .int (tI 6), .ref ad_t_size, .ref ad_t_givenRow, .ref ad_t_givenColumn, .ref ad_t_newRow, .int (tI 11), .int (tI 12), .int (tI 13), .int (tI 14), .int (tI 15), .int (tI 16), .int (tI 17), .int (tI 18), .int (tI 19), .ref ad_t_view, .int (tI 21), .int (tI 22), .int (tI 23), .int (tI 24), .int (tI 25), .long t_value, .int (tI 27), .int (tI 28)])), (ad_t_all, .inl (G.2.1 0, 43047, .inl t_all)), (ad_t_size, .inl (G.2.1 0, 8, .inl t_size)), (ad_t_givenRow, .inl (G.2.1 0, 12, .inl t_givenRow)), (ad_t_givenColumn, .inl (G.2.1 0, 2, .inl t_givenColumn)), (ad_t_newRow, .inl (G.2.1 0, 13, .inl t_newRow))] H := eH ▸ hP
  have hS : va_S A s.heap H locs := by rw [eH, eL]; exact hS
  suffices hgo : wG p l e 13 302 s m [.ref ad_t, .int p0] below meth cd H locs (eQ G A (fun r w => r = (some (.int o.1)) ∧ w = [(ad_t, .inr (11, [.ref ad_t_all, .ref ad_t_tape, .ref ad_t_isImage, .int (o.2.1 3), .int (o.2.1 4), .int (o.2.1 5), .int (o.2.1 6), .ref ad_t_size, .ref ad_t_givenRow, .ref ad_t_givenColumn, .ref ad_t_newRow, .int (o.2.1 11), .int (o.2.1 12), .int (o.2.1 13), .int (o.2.1 14), .int (o.2.1 15), .int (o.2.1 16), .int (o.2.1 17), .int (o.2.1 18), .int (o.2.1 19), .ref ad_t_view, .int (o.2.1 21), .int (o.2.1 22), .int (o.2.1 23), .int (o.2.1 24), .int (o.2.1 25), .long t_value, .int (o.2.1 27), .int (o.2.1 28)])), (ad_t_all, .inl (G.2.1 0, 43047, .inl t_all)), (ad_t_size, .inl (G.2.1 0, 8, .inl o.2.2.1)), (ad_t_givenRow, .inl (G.2.1 0, 12, .inl o.2.2.2.1)), (ad_t_givenColumn, .inl (G.2.1 0, 2, .inl o.2.2.2.2.1)), (ad_t_newRow, .inl (G.2.1 0, 13, .inl o.2.2.2.2.2))])) A (F0 m 0 ls []) by rw [eH, eL] at hgo; exact hgo
  clear eH eL
  refine lv_iload_n hx hb dX11_read_0 rfl (lv_at hl 1 rfl) ?_
  refine lv_iconst (v := 0) hx hb dX11_read_1 (by decide) ?_
  refine lv_aload_n hx hb dX11_read_2 rfl (lv_at hl 0 rfl) ?_
  refine va_get (D := G.1) (cl := vwCl) (ci := 11) (v := .ref ad_t_all) (C := RX11) (T := TX11) (N := 29) hx hb hts inG11 hown hK hP 0 rfl rfl 0 (Nat.le_of_ble_eq_true rfl) (hts _ q1041) (fun _ h9 => h9) rfl dX11_read_3 ?_
  refine lv_iconst (v := 0) hx hb dX11_read_6 (by decide) ?_
  refine va_iald (D := G.1) (cl := vwCl) hx hb hK hP 1 0 rfl rfl (vin (by decide)) dX11_read_7 ?_
  refine lv_ti (v := (t_all 0)) (congrArg (t_all) (tn 0)) ?_
  refine lv_iconst (v := 1) hx hb dX11_read_8 (by decide) ?_
  refine lv_isub hx hb dX11_read_9 ?_
  refine kPS (tX11_isIn l G p0 (0 : Int32) ((t_all 0) - (1 : Int32)) _ rfl) ⟨hx, hb, hml, hown, hts⟩ q1137 q1138 q108 q1139 okyX11_isIn ⟨Nat.le_of_ble_eq_true rfl, Nat.le_of_ble_eq_true rfl⟩ hP hG hS [] rfl hl.1 rfl (Nat.le_of_ble_eq_true rfl) dX11_read_10 ⟨Nat.zero_le _, Nat.zero_le _⟩ (fun locs hS => ?_)
  refine W.eq (g2 := F0 m 13 ls [.int (bi (fX11_isIn p0 (0 : Int32) ((t_all 0) - (1 : Int32))))]) rfl ?_
  refine lv_if_ne (tgt := 18) hx hb dX11_read_13 (by decide) (fun c8 => ?_) (fun c8 => ?_)
  · have hf := if_f hf c8
    refine lv_aload_n hx hb dX11_read_18 rfl (lv_at hl 0 rfl) ?_
    obtain ⟨a9, h10, hf⟩ := bn_some hf
    refine kEV (tX11_laysAll l G ad_t ad_t_all ad_t_tape ad_t_isImage ad_t_size ad_t_givenRow ad_t_givenColumn ad_t_newRow ad_t_view tI t_value t_all t_size t_givenRow t_givenColumn t_newRow a9 h10) ⟨hx, hb, hml, hown, hts⟩ q1294 q1296 q69 q108 q1297 okyX11_laysAll ⟨Nat.le_of_ble_eq_true rfl, Nat.le_of_ble_eq_true rfl⟩ hP hD hG hS hA [0, 1, 2, 3, 4, 5] [] rfl (wr := []) rfl (by decide) 0 rfl rfl hl.1 rfl (Nat.le_of_ble_eq_true rfl) dX11_read_19 ⟨Nat.zero_le _, Nat.zero_le _⟩ (fun r w H locs hR hP hD hS => ?_)
    obtain ⟨rfl, rfl⟩ := hR
    have hP : va_P G.1 vwCl [(ad_t, .inr (11, [.ref ad_t_all, .ref ad_t_tape, .ref ad_t_isImage, .int (a9.1 3), .int (a9.1 4), .int (a9.1 5), .int (a9.1 6), .ref ad_t_size, .ref ad_t_givenRow, .ref ad_t_givenColumn, .ref ad_t_newRow, .int (a9.1 11), .int (a9.1 12), .int (a9.1 13), .int (a9.1 14), .int (a9.1 15), .int (a9.1 16), .int (a9.1 17), .int (a9.1 18), .int (a9.1 19), .ref ad_t_view, .int (a9.1 21), .int (a9.1 22), .int (a9.1 23), .int (a9.1 24), .int (a9.1 25), .long t_value, .int (a9.1 27), .int (a9.1 28)])), (ad_t_all, .inl (G.2.1 0, 43047, .inl t_all)), (ad_t_size, .inl (G.2.1 0, 8, .inl a9.2.1)), (ad_t_givenRow, .inl (G.2.1 0, 12, .inl a9.2.2.1)), (ad_t_givenColumn, .inl (G.2.1 0, 2, .inl a9.2.2.2.1)), (ad_t_newRow, .inl (G.2.1 0, 13, .inl a9.2.2.2.2))] H := hP
    have hD : va_D A [(ad_t, .inr (11, [.ref ad_t_all, .ref ad_t_tape, .ref ad_t_isImage, .int (a9.1 3), .int (a9.1 4), .int (a9.1 5), .int (a9.1 6), .ref ad_t_size, .ref ad_t_givenRow, .ref ad_t_givenColumn, .ref ad_t_newRow, .int (a9.1 11), .int (a9.1 12), .int (a9.1 13), .int (a9.1 14), .int (a9.1 15), .int (a9.1 16), .int (a9.1 17), .int (a9.1 18), .int (a9.1 19), .ref ad_t_view, .int (a9.1 21), .int (a9.1 22), .int (a9.1 23), .int (a9.1 24), .int (a9.1 25), .long t_value, .int (a9.1 27), .int (a9.1 28)])), (ad_t_all, .inl (G.2.1 0, 43047, .inl t_all)), (ad_t_size, .inl (G.2.1 0, 8, .inl a9.2.1)), (ad_t_givenRow, .inl (G.2.1 0, 12, .inl a9.2.2.1)), (ad_t_givenColumn, .inl (G.2.1 0, 2, .inl a9.2.2.2.1)), (ad_t_newRow, .inl (G.2.1 0, 13, .inl a9.2.2.2.2))] := hD
    refine W.eq (g2 := F0 m 22 ls []) rfl ?_
    refine lv_iconst (v := 0) hx hb dX11_read_22 (by decide) ?_
    refine lv_istore_n (lv' := [(2, .int (0 : Int32)), (0, .ref ad_t), (1, .int p0)]) hx hb dX11_read_23 rfl hl (by decide) rfl (fun ls hl => ?_)
    refine lv_iconst (v := 0) hx hb dX11_read_24 (by decide) ?_
    refine lv_istore_n (lv' := [(3, .int (0 : Int32)), (2, .int (0 : Int32)), (0, .ref ad_t), (1, .int p0)]) hx hb dX11_read_25 rfl hl (by decide) rfl (fun ls hl => ?_)
    obtain ⟨y11, hLy11, hky11⟩ := bn_some hf
    have Ey11 : ∀  (H : Heap) (locs : List Loc) (ls : Array Slot), lv_has ls 4 [(2, .int y11.1)] → va_P G.1 vwCl [(ad_t, .inr (11, [.ref ad_t_all, .ref ad_t_tape, .ref ad_t_isImage, .int (y11.2 3), .int (y11.2 4), .int (y11.2 5), .int (y11.2 6), .ref ad_t_size, .ref ad_t_givenRow, .ref ad_t_givenColumn, .ref ad_t_newRow, .int (y11.2 11), .int (y11.2 12), .int (y11.2 13), .int (y11.2 14), .int (y11.2 15), .int (y11.2 16), .int (y11.2 17), .int (y11.2 18), .int (y11.2 19), .ref ad_t_view, .int (y11.2 21), .int (y11.2 22), .int (y11.2 23), .int (y11.2 24), .int (y11.2 25), .long t_value, .int (y11.2 27), .int (y11.2 28)])), (ad_t_all, .inl (G.2.1 0, 43047, .inl t_all)), (ad_t_size, .inl (G.2.1 0, 8, .inl a9.2.1)), (ad_t_givenRow, .inl (G.2.1 0, 12, .inl a9.2.2.1)), (ad_t_givenColumn, .inl (G.2.1 0, 2, .inl a9.2.2.2.1)), (ad_t_newRow, .inl (G.2.1 0, 13, .inl a9.2.2.2.2))] H → va_D A [(ad_t, .inr (11, [.ref ad_t_all, .ref ad_t_tape, .ref ad_t_isImage, .int (y11.2 3), .int (y11.2 4), .int (y11.2 5), .int (y11.2 6), .ref ad_t_size, .ref ad_t_givenRow, .ref ad_t_givenColumn, .ref ad_t_newRow, .int (y11.2 11), .int (y11.2 12), .int (y11.2 13), .int (y11.2 14), .int (y11.2 15), .int (y11.2 16), .int (y11.2 17), .int (y11.2 18), .int (y11.2 19), .ref ad_t_view, .int (y11.2 21), .int (y11.2 22), .int (y11.2 23), .int (y11.2 24), .int (y11.2 25), .long t_value, .int (y11.2 27), .int (y11.2 28)])), (ad_t_all, .inl (G.2.1 0, 43047, .inl t_all)), (ad_t_size, .inl (G.2.1 0, 8, .inl a9.2.1)), (ad_t_givenRow, .inl (G.2.1 0, 12, .inl a9.2.2.1)), (ad_t_givenColumn, .inl (G.2.1 0, 2, .inl a9.2.2.2.1)), (ad_t_newRow, .inl (G.2.1 0, 13, .inl a9.2.2.2.2))] → va_S A s.heap H locs → wG p l e 13 302 s m [.ref ad_t, .int p0] below meth cd H locs (eQ G A (fun r w => r = (some (.int o.1)) ∧ w = [(ad_t, .inr (11, [.ref ad_t_all, .ref ad_t_tape, .ref ad_t_isImage, .int (o.2.1 3), .int (o.2.1 4), .int (o.2.1 5), .int (o.2.1 6), .ref ad_t_size, .ref ad_t_givenRow, .ref ad_t_givenColumn, .ref ad_t_newRow, .int (o.2.1 11), .int (o.2.1 12), .int (o.2.1 13), .int (o.2.1 14), .int (o.2.1 15), .int (o.2.1 16), .int (o.2.1 17), .int (o.2.1 18), .int (o.2.1 19), .ref ad_t_view, .int (o.2.1 21), .int (o.2.1 22), .int (o.2.1 23), .int (o.2.1 24), .int (o.2.1 25), .long t_value, .int (o.2.1 27), .int (o.2.1 28)])), (ad_t_all, .inl (G.2.1 0, 43047, .inl t_all)), (ad_t_size, .inl (G.2.1 0, 8, .inl o.2.2.1)), (ad_t_givenRow, .inl (G.2.1 0, 12, .inl o.2.2.2.1)), (ad_t_givenColumn, .inl (G.2.1 0, 2, .inl o.2.2.2.2.1)), (ad_t_newRow, .inl (G.2.1 0, 13, .inl o.2.2.2.2.2))])) A (F0 m 57 ls []) := by
      intro  H locs ls hl hP hD hS
      have hf := hky11
      refine lv_iload_n hx hb dX11_read_57 rfl (lv_at hl 0 rfl) ?_
      have hf := Option.some.inj hf
      subst hf
      exact eRet hx hb hr hlocks hP hD hS ⟨rfl, rfl⟩ dX11_read_58
    have Ly11 : ∀ (n : Nat), ∀ (x12 : Int32) (x13 : Int32) (g14 : Nat → Int32) (H : Heap) (locs : List Loc) (ls : Array Slot), lv_has ls 4 [(3, .int x13), (2, .int x12), (0, .ref ad_t), (1, .int p0)] → va_P G.1 vwCl [(ad_t, .inr (11, [.ref ad_t_all, .ref ad_t_tape, .ref ad_t_isImage, .int (g14 3), .int (g14 4), .int (g14 5), .int (g14 6), .ref ad_t_size, .ref ad_t_givenRow, .ref ad_t_givenColumn, .ref ad_t_newRow, .int (g14 11), .int (g14 12), .int (g14 13), .int (g14 14), .int (g14 15), .int (g14 16), .int (g14 17), .int (g14 18), .int (g14 19), .ref ad_t_view, .int (g14 21), .int (g14 22), .int (g14 23), .int (g14 24), .int (g14 25), .long t_value, .int (g14 27), .int (g14 28)])), (ad_t_all, .inl (G.2.1 0, 43047, .inl t_all)), (ad_t_size, .inl (G.2.1 0, 8, .inl a9.2.1)), (ad_t_givenRow, .inl (G.2.1 0, 12, .inl a9.2.2.1)), (ad_t_givenColumn, .inl (G.2.1 0, 2, .inl a9.2.2.2.1)), (ad_t_newRow, .inl (G.2.1 0, 13, .inl a9.2.2.2.2))] H → va_D A [(ad_t, .inr (11, [.ref ad_t_all, .ref ad_t_tape, .ref ad_t_isImage, .int (g14 3), .int (g14 4), .int (g14 5), .int (g14 6), .ref ad_t_size, .ref ad_t_givenRow, .ref ad_t_givenColumn, .ref ad_t_newRow, .int (g14 11), .int (g14 12), .int (g14 13), .int (g14 14), .int (g14 15), .int (g14 16), .int (g14 17), .int (g14 18), .int (g14 19), .ref ad_t_view, .int (g14 21), .int (g14 22), .int (g14 23), .int (g14 24), .int (g14 25), .long t_value, .int (g14 27), .int (g14 28)])), (ad_t_all, .inl (G.2.1 0, 43047, .inl t_all)), (ad_t_size, .inl (G.2.1 0, 8, .inl a9.2.1)), (ad_t_givenRow, .inl (G.2.1 0, 12, .inl a9.2.2.1)), (ad_t_givenColumn, .inl (G.2.1 0, 2, .inl a9.2.2.2.1)), (ad_t_newRow, .inl (G.2.1 0, 13, .inl a9.2.2.2.2))] → va_S A s.heap H locs → fX11_read_l26 p0 t_all a9.2.2.1 a9.2.2.2.1 n x12 x13 g14 = some y11 → wG p l e 13 302 s m [.ref ad_t, .int p0] below meth cd H locs (eQ G A (fun r w => r = (some (.int o.1)) ∧ w = [(ad_t, .inr (11, [.ref ad_t_all, .ref ad_t_tape, .ref ad_t_isImage, .int (o.2.1 3), .int (o.2.1 4), .int (o.2.1 5), .int (o.2.1 6), .ref ad_t_size, .ref ad_t_givenRow, .ref ad_t_givenColumn, .ref ad_t_newRow, .int (o.2.1 11), .int (o.2.1 12), .int (o.2.1 13), .int (o.2.1 14), .int (o.2.1 15), .int (o.2.1 16), .int (o.2.1 17), .int (o.2.1 18), .int (o.2.1 19), .ref ad_t_view, .int (o.2.1 21), .int (o.2.1 22), .int (o.2.1 23), .int (o.2.1 24), .int (o.2.1 25), .long t_value, .int (o.2.1 27), .int (o.2.1 28)])), (ad_t_all, .inl (G.2.1 0, 43047, .inl t_all)), (ad_t_size, .inl (G.2.1 0, 8, .inl o.2.2.1)), (ad_t_givenRow, .inl (G.2.1 0, 12, .inl o.2.2.2.1)), (ad_t_givenColumn, .inl (G.2.1 0, 2, .inl o.2.2.2.2.1)), (ad_t_newRow, .inl (G.2.1 0, 13, .inl o.2.2.2.2.2))])) A (F0 m 26 ls []) := by
      intro n
      induction n with
      | zero =>
        intro x12 x13 g14 H locs ls hl hP hD hS hf
        rw [fX11_read_l26] at hf
        cases hf
      | succ n ih =>
        intro x12 x13 g14 H locs ls hl hP hD hS hf
        rw [fX11_read_l26] at hf
        refine lv_iload_n hx hb dX11_read_26 rfl (lv_at hl 0 rfl) ?_
        refine lv_aload_n hx hb dX11_read_27 rfl (lv_at hl 2 rfl) ?_
        refine va_get (D := G.1) (cl := vwCl) (ci := 11) (v := .ref ad_t_all) (C := RX11) (T := TX11) (N := 29) hx hb hts inG11 hown hK hP 0 rfl rfl 0 (Nat.le_of_ble_eq_true rfl) (hts _ q1041) (fun _ h9 => h9) rfl dX11_read_28 ?_
        refine lv_iconst (v := 1) hx hb dX11_read_31 (by decide) ?_
        refine va_iald (D := G.1) (cl := vwCl) hx hb hK hP 1 0 rfl rfl (vin (by decide)) dX11_read_32 ?_
        refine lv_ti (v := (t_all 1)) (congrArg (t_all) (tn 1)) ?_
        refine lv_icmp_ge (tgt := 57) hx hb dX11_read_33 (by decide) (fun c15 => ?_) (fun c15 => ?_)
        · have hf := if_t hf c15
          have hf := Option.some.inj hf
          subst hf
          exact Ey11  H locs ls (lv_sub hl [1] rfl) hP hD hS 
        · have hf := if_f hf c15
          refine lv_aload_n hx hb dX11_read_36 rfl (lv_at hl 2 rfl) ?_
          refine lv_iload_n hx hb dX11_read_37 rfl (lv_at hl 3 rfl) ?_
          refine lv_iload_n hx hb dX11_read_38 rfl (lv_at hl 0 rfl) ?_
          obtain ⟨a16, h17, hf⟩ := bn_some hf
          refine kEV (tX11_goesTo l G ad_t ad_t_all ad_t_tape ad_t_isImage ad_t_size ad_t_givenRow ad_t_givenColumn ad_t_newRow ad_t_view g14 t_value t_all a9.2.2.1 a9.2.2.2.1 p0 x13 a16 h17) ⟨hx, hb, hml, hown, hts⟩ q1318 q1320 q75 q108 q1321 okyX11_goesTo ⟨Nat.le_of_ble_eq_true rfl, Nat.le_of_ble_eq_true rfl⟩ hP hD hG hS hA [0, 1, 3, 4] [2, 5] rfl (wr := [(ad_t_size, .inl (G.2.1 0, 8, .inl a9.2.1)), (ad_t_newRow, .inl (G.2.1 0, 13, .inl a9.2.2.2.2))]) rfl (by decide) 0 rfl rfl hl.1 rfl (Nat.le_of_ble_eq_true rfl) dX11_read_39 ⟨Nat.zero_le _, Nat.zero_le _⟩ (fun r w H locs hR hP hD hS => ?_)
          obtain ⟨rfl, rfl⟩ := hR
          have hP : va_P G.1 vwCl [(ad_t_size, .inl (G.2.1 0, 8, .inl a9.2.1)), (ad_t_newRow, .inl (G.2.1 0, 13, .inl a9.2.2.2.2)), (ad_t, .inr (11, [.ref ad_t_all, .ref ad_t_tape, .ref ad_t_isImage, .int (a16 3), .int (a16 4), .int (a16 5), .int (a16 6), .ref ad_t_size, .ref ad_t_givenRow, .ref ad_t_givenColumn, .ref ad_t_newRow, .int (a16 11), .int (a16 12), .int (a16 13), .int (a16 14), .int (a16 15), .int (a16 16), .int (a16 17), .int (a16 18), .int (a16 19), .ref ad_t_view, .int (a16 21), .int (a16 22), .int (a16 23), .int (a16 24), .int (a16 25), .long t_value, .int (a16 27), .int (a16 28)])), (ad_t_all, .inl (G.2.1 0, 43047, .inl t_all)), (ad_t_givenRow, .inl (G.2.1 0, 12, .inl a9.2.2.1)), (ad_t_givenColumn, .inl (G.2.1 0, 2, .inl a9.2.2.2.1))] H := hP
          have hD : va_D A [(ad_t_size, .inl (G.2.1 0, 8, .inl a9.2.1)), (ad_t_newRow, .inl (G.2.1 0, 13, .inl a9.2.2.2.2)), (ad_t, .inr (11, [.ref ad_t_all, .ref ad_t_tape, .ref ad_t_isImage, .int (a16 3), .int (a16 4), .int (a16 5), .int (a16 6), .ref ad_t_size, .ref ad_t_givenRow, .ref ad_t_givenColumn, .ref ad_t_newRow, .int (a16 11), .int (a16 12), .int (a16 13), .int (a16 14), .int (a16 15), .int (a16 16), .int (a16 17), .int (a16 18), .int (a16 19), .ref ad_t_view, .int (a16 21), .int (a16 22), .int (a16 23), .int (a16 24), .int (a16 25), .long t_value, .int (a16 27), .int (a16 28)])), (ad_t_all, .inl (G.2.1 0, 43047, .inl t_all)), (ad_t_givenRow, .inl (G.2.1 0, 12, .inl a9.2.2.1)), (ad_t_givenColumn, .inl (G.2.1 0, 2, .inl a9.2.2.2.1))] := hD
          refine W.eq (g2 := F0 m 42 ls []) rfl ?_
          refine lv_iload_n hx hb dX11_read_42 rfl (lv_at hl 1 rfl) ?_
          refine lv_aload_n hx hb dX11_read_43 rfl (lv_at hl 2 rfl) ?_
          refine va_get (D := G.1) (cl := vwCl) (ci := 11) (v := .int (a16 17)) (C := RX11) (T := TX11) (N := 29) hx hb hts inG11 hown hK hP 2 rfl rfl 17 (Nat.le_of_ble_eq_true rfl) (hts _ q1058) (fun _ h9 => h9) rfl dX11_read_44 ?_
          refine lv_iload_n hx hb dX11_read_47 rfl (lv_at hl 0 rfl) ?_
          refine lv_ishl hx hb dX11_read_48 ?_
          refine lv_ior hx hb dX11_read_49 ?_
          refine lv_istore_n (lv' := [(2, .int (x12 ||| ((a16 17) <<< (x13 &&& 31)))), (3, .int x13), (0, .ref ad_t), (1, .int p0)]) hx hb dX11_read_50 rfl hl (by decide) rfl (fun ls hl => ?_)
          refine lv_iinc (v := (x13 + (1 : Int32))) (lv' := [(3, .int (x13 + (1 : Int32))), (2, .int (x12 ||| ((a16 17) <<< (x13 &&& 31)))), (0, .ref ad_t), (1, .int p0)]) hx hb dX11_read_51 hl (k := 1) rfl (ii_1 _) (by decide) rfl (fun ls hl => ?_)
          refine lv_goto (tgt := 26) hx hb dX11_read_54 (by decide) ?_
          have hP := hP.sub (ws' := [(ad_t, .inr (11, [.ref ad_t_all, .ref ad_t_tape, .ref ad_t_isImage, .int (a16 3), .int (a16 4), .int (a16 5), .int (a16 6), .ref ad_t_size, .ref ad_t_givenRow, .ref ad_t_givenColumn, .ref ad_t_newRow, .int (a16 11), .int (a16 12), .int (a16 13), .int (a16 14), .int (a16 15), .int (a16 16), .int (a16 17), .int (a16 18), .int (a16 19), .ref ad_t_view, .int (a16 21), .int (a16 22), .int (a16 23), .int (a16 24), .int (a16 25), .long t_value, .int (a16 27), .int (a16 28)])), (ad_t_all, .inl (G.2.1 0, 43047, .inl t_all)), (ad_t_size, .inl (G.2.1 0, 8, .inl a9.2.1)), (ad_t_givenRow, .inl (G.2.1 0, 12, .inl a9.2.2.1)), (ad_t_givenColumn, .inl (G.2.1 0, 2, .inl a9.2.2.2.1)), (ad_t_newRow, .inl (G.2.1 0, 13, .inl a9.2.2.2.2))]) [2, 3, 0, 4, 5, 1] rfl
          have hD := hD.sub (ws' := [(ad_t, .inr (11, [.ref ad_t_all, .ref ad_t_tape, .ref ad_t_isImage, .int (a16 3), .int (a16 4), .int (a16 5), .int (a16 6), .ref ad_t_size, .ref ad_t_givenRow, .ref ad_t_givenColumn, .ref ad_t_newRow, .int (a16 11), .int (a16 12), .int (a16 13), .int (a16 14), .int (a16 15), .int (a16 16), .int (a16 17), .int (a16 18), .int (a16 19), .ref ad_t_view, .int (a16 21), .int (a16 22), .int (a16 23), .int (a16 24), .int (a16 25), .long t_value, .int (a16 27), .int (a16 28)])), (ad_t_all, .inl (G.2.1 0, 43047, .inl t_all)), (ad_t_size, .inl (G.2.1 0, 8, .inl a9.2.1)), (ad_t_givenRow, .inl (G.2.1 0, 12, .inl a9.2.2.1)), (ad_t_givenColumn, .inl (G.2.1 0, 2, .inl a9.2.2.2.1)), (ad_t_newRow, .inl (G.2.1 0, 13, .inl a9.2.2.2.2))]) [2, 3, 0, 4, 5, 1] (by decide) rfl
          exact ih (x12 ||| ((a16 17) <<< (x13 &&& 31))) (x13 + (1 : Int32)) a16 H locs ls (lv_sub hl [0, 1, 2, 3] rfl) hP hD hS hf
    exact Ly11 FU (0 : Int32) (0 : Int32) a9.1 H locs ls (lv_sub hl [0, 1, 2, 3] rfl) hP hD hS hLy11
  · have hf := if_t hf c8
    refine lv_iconst (v := 0) hx hb dX11_read_16 (by decide) ?_
    have hf := Option.some.inj hf
    subst hf
    exact eRet hx hb hr hlocks hP hD hS ⟨rfl, rfl⟩ dX11_read_17
