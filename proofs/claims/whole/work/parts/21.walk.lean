def fX11_number_l2 (x1 : Int32) : Nat → Int32 → Option (Int32)
  | 0, _ => none
  | n + 1, x2 =>
    gd (nz x2) ((if (x1 / x2) ≤ (9 : Int32) then some x2 else fX11_number_l2 x1 n (x2 * (10 : Int32))))
def fX11_number_l24 (x1 : Int32) : Nat → Int32 → (Nat → Int32) → (Nat → Int32) → Option ((Nat → Int32) × (Nat → Int32))
  | 0, _, _, _ => none
  | n + 1, x2, tI, t_view =>
    (if x2 ≤ 0 then some (tI, t_view) else gd (nz x2) (bn (fX11_adds tI t_view ((48 : Int32) + ((x1 / x2) - (x1 / x2) / (10 : Int32) * (10 : Int32)))) fun a8 => fX11_number_l24 x1 n (x2 / (10 : Int32)) a8.1 a8.2))
def fX11_number (tI : Nat → Int32) (t_view : Nat → Int32) (p0 : Int32) : Option ((Nat → Int32) × (Nat → Int32)) :=
  bn (fX11_number_l2 p0 FU (1 : Int32)) fun y3 => bn (fX11_adds tI t_view (32 : Int32)) fun a4 => bn (fX11_number_l24 p0 FU y3 a4.1 a4.2) fun y10 => some (y10.1, y10.2)
set_option maxRecDepth 100000 in
set_option maxHeartbeats 4000000 in
theorem tX11_number (l : Launch) (G : gG) (ad_t ad_t_all ad_t_tape ad_t_isImage ad_t_size ad_t_givenRow ad_t_givenColumn ad_t_newRow ad_t_view : Nat) (tI : Nat → Int32) (t_value : Int64) (t_view : Nat → Int32) (p0 : Int32) (o : (Nat → Int32) × (Nat → Int32)) (hf : fX11_number tI t_view p0 = some o) : mE G l yX11_number cX11_number 3 none 1 21 0 0 [.ref ad_t, .int p0] [(ad_t, .inr (11, [.ref ad_t_all, .ref ad_t_tape, .ref ad_t_isImage, .int (tI 3), .int (tI 4), .int (tI 5), .int (tI 6), .ref ad_t_size, .ref ad_t_givenRow, .ref ad_t_givenColumn, .ref ad_t_newRow, .int (tI 11), .int (tI 12), .int (tI 13), .int (tI 14), .int (tI 15), .int (tI 16), .int (tI 17), .int (tI 18), .int (tI 19), .ref ad_t_view, .int (tI 21), .int (tI 22), .int (tI 23), .int (tI 24), .int (tI 25), .long t_value, .int (tI 27), .int (tI 28)])), (ad_t_view, .inl (G.2.1 0, 600, .inl t_view))] (fun r w => r = none ∧ w = [(ad_t, .inr (11, [.ref ad_t_all, .ref ad_t_tape, .ref ad_t_isImage, .int (o.1 3), .int (o.1 4), .int (o.1 5), .int (o.1 6), .ref ad_t_size, .ref ad_t_givenRow, .ref ad_t_givenColumn, .ref ad_t_newRow, .int (o.1 11), .int (o.1 12), .int (o.1 13), .int (o.1 14), .int (o.1 15), .int (o.1 16), .int (o.1 17), .int (o.1 18), .int (o.1 19), .ref ad_t_view, .int (o.1 21), .int (o.1 22), .int (o.1 23), .int (o.1 24), .int (o.1 25), .long t_value, .int (o.1 27), .int (o.1 28)])), (ad_t_view, .inl (G.2.1 0, 600, .inl o.2))]) := by
  refine mE_of (by decide) (Nat.le_of_ble_eq_true rfl) ?_
  intro p e s m below meth cd ls A hx hb hml hown hts hr hlocks hnm hl hA hP hD hS hG
  have hK := hG.1
  have hown : s.vm.findClass RX11 = some m.cls := hown
  have hl : lv_has ls 3 [(0, .ref ad_t), (1, .int p0)] := hl
  have hS := hS
  unfold fX11_number at hf
  obtain ⟨H, locs, eH, eL⟩ : ∃ (H : Heap) (locs : List Loc), H = s.heap ∧ locs = [] := ⟨_, _, rfl, rfl⟩
  have hP : va_P G.1 vwCl [(ad_t, .inr (11, [.ref ad_t_all, .ref ad_t_tape, .ref ad_t_isImage, .int (tI 3), .int (tI 4), .int (tI 5), .int (tI 6), .ref ad_t_size, .ref ad_t_givenRow, .ref ad_t_givenColumn, .ref ad_t_newRow, .int (tI 11), .int (tI 12), .int (tI 13), .int (tI 14), .int (tI 15), .int (tI 16), .int (tI 17), .int (tI 18), .int (tI 19), .ref ad_t_view, .int (tI 21), .int (tI 22), .int (tI 23), .int (tI 24), .int (tI 25), .long t_value, .int (tI 27), .int (tI 28)])), (ad_t_view, .inl (G.2.1 0, 600, .inl t_view))] H := eH ▸ hP
  have hS : va_S A s.heap H locs := by rw [eH, eL]; exact hS
  suffices hgo : wG p l e 1 21 s m [.ref ad_t, .int p0] below meth cd H locs (eQ G A (fun r w => r = none ∧ w = [(ad_t, .inr (11, [.ref ad_t_all, .ref ad_t_tape, .ref ad_t_isImage, .int (o.1 3), .int (o.1 4), .int (o.1 5), .int (o.1 6), .ref ad_t_size, .ref ad_t_givenRow, .ref ad_t_givenColumn, .ref ad_t_newRow, .int (o.1 11), .int (o.1 12), .int (o.1 13), .int (o.1 14), .int (o.1 15), .int (o.1 16), .int (o.1 17), .int (o.1 18), .int (o.1 19), .ref ad_t_view, .int (o.1 21), .int (o.1 22), .int (o.1 23), .int (o.1 24), .int (o.1 25), .long t_value, .int (o.1 27), .int (o.1 28)])), (ad_t_view, .inl (G.2.1 0, 600, .inl o.2))])) A (F0 m 0 ls []) by rw [eH, eL] at hgo; exact hgo
  clear eH eL
  refine lv_iconst (v := 1) hx hb dX11_number_0 (by decide) ?_
  refine lv_istore_n (lv' := [(2, .int (1 : Int32)), (0, .ref ad_t), (1, .int p0)]) hx hb dX11_number_1 rfl hl (by decide) rfl (fun ls hl => ?_)
  obtain ⟨y11, hLy11, hky11⟩ := bn_some hf
  have Ey11 : ∀  (H : Heap) (locs : List Loc) (ls : Array Slot), lv_has ls 3 [(2, .int y11), (0, .ref ad_t), (1, .int p0)] → va_P G.1 vwCl [(ad_t, .inr (11, [.ref ad_t_all, .ref ad_t_tape, .ref ad_t_isImage, .int (tI 3), .int (tI 4), .int (tI 5), .int (tI 6), .ref ad_t_size, .ref ad_t_givenRow, .ref ad_t_givenColumn, .ref ad_t_newRow, .int (tI 11), .int (tI 12), .int (tI 13), .int (tI 14), .int (tI 15), .int (tI 16), .int (tI 17), .int (tI 18), .int (tI 19), .ref ad_t_view, .int (tI 21), .int (tI 22), .int (tI 23), .int (tI 24), .int (tI 25), .long t_value, .int (tI 27), .int (tI 28)])), (ad_t_view, .inl (G.2.1 0, 600, .inl t_view))] H → va_D A [(ad_t, .inr (11, [.ref ad_t_all, .ref ad_t_tape, .ref ad_t_isImage, .int (tI 3), .int (tI 4), .int (tI 5), .int (tI 6), .ref ad_t_size, .ref ad_t_givenRow, .ref ad_t_givenColumn, .ref ad_t_newRow, .int (tI 11), .int (tI 12), .int (tI 13), .int (tI 14), .int (tI 15), .int (tI 16), .int (tI 17), .int (tI 18), .int (tI 19), .ref ad_t_view, .int (tI 21), .int (tI 22), .int (tI 23), .int (tI 24), .int (tI 25), .long t_value, .int (tI 27), .int (tI 28)])), (ad_t_view, .inl (G.2.1 0, 600, .inl t_view))] → va_S A s.heap H locs → wG p l e 1 21 s m [.ref ad_t, .int p0] below meth cd H locs (eQ G A (fun r w => r = none ∧ w = [(ad_t, .inr (11, [.ref ad_t_all, .ref ad_t_tape, .ref ad_t_isImage, .int (o.1 3), .int (o.1 4), .int (o.1 5), .int (o.1 6), .ref ad_t_size, .ref ad_t_givenRow, .ref ad_t_givenColumn, .ref ad_t_newRow, .int (o.1 11), .int (o.1 12), .int (o.1 13), .int (o.1 14), .int (o.1 15), .int (o.1 16), .int (o.1 17), .int (o.1 18), .int (o.1 19), .ref ad_t_view, .int (o.1 21), .int (o.1 22), .int (o.1 23), .int (o.1 24), .int (o.1 25), .long t_value, .int (o.1 27), .int (o.1 28)])), (ad_t_view, .inl (G.2.1 0, 600, .inl o.2))])) A (F0 m 18 ls []) := by
    intro  H locs ls hl hP hD hS
    have hf := hky11
    refine lv_aload_n hx hb dX11_number_18 rfl (lv_at hl 1 rfl) ?_
    refine lv_bipush (v := 32) hx hb dX11_number_19 (by decide) ?_
    obtain ⟨a12, h13, hf⟩ := bn_some hf
    refine kEV (tX11_adds l G ad_t ad_t_all ad_t_tape ad_t_isImage ad_t_size ad_t_givenRow ad_t_givenColumn ad_t_newRow ad_t_view tI t_value t_view (32 : Int32) a12 h13) ⟨hx, hb, hml, hown, hts⟩ q1397 q1399 q81 q108 q1400 okyX11_adds ⟨Nat.le_of_ble_eq_true rfl, Nat.le_of_ble_eq_true rfl⟩ hP hD hG hS hA [0, 1] [] rfl (wr := []) rfl (by decide) 0 rfl rfl hl.1 rfl (Nat.le_of_ble_eq_true rfl) dX11_number_21 ⟨Nat.zero_le _, Nat.zero_le _⟩ (fun r w H locs hR hP hD hS => ?_)
    obtain ⟨rfl, rfl⟩ := hR
    have hP : va_P G.1 vwCl [(ad_t, .inr (11, [.ref ad_t_all, .ref ad_t_tape, .ref ad_t_isImage, .int (a12.1 3), .int (a12.1 4), .int (a12.1 5), .int (a12.1 6), .ref ad_t_size, .ref ad_t_givenRow, .ref ad_t_givenColumn, .ref ad_t_newRow, .int (a12.1 11), .int (a12.1 12), .int (a12.1 13), .int (a12.1 14), .int (a12.1 15), .int (a12.1 16), .int (a12.1 17), .int (a12.1 18), .int (a12.1 19), .ref ad_t_view, .int (a12.1 21), .int (a12.1 22), .int (a12.1 23), .int (a12.1 24), .int (a12.1 25), .long t_value, .int (a12.1 27), .int (a12.1 28)])), (ad_t_view, .inl (G.2.1 0, 600, .inl a12.2))] H := hP
    have hD : va_D A [(ad_t, .inr (11, [.ref ad_t_all, .ref ad_t_tape, .ref ad_t_isImage, .int (a12.1 3), .int (a12.1 4), .int (a12.1 5), .int (a12.1 6), .ref ad_t_size, .ref ad_t_givenRow, .ref ad_t_givenColumn, .ref ad_t_newRow, .int (a12.1 11), .int (a12.1 12), .int (a12.1 13), .int (a12.1 14), .int (a12.1 15), .int (a12.1 16), .int (a12.1 17), .int (a12.1 18), .int (a12.1 19), .ref ad_t_view, .int (a12.1 21), .int (a12.1 22), .int (a12.1 23), .int (a12.1 24), .int (a12.1 25), .long t_value, .int (a12.1 27), .int (a12.1 28)])), (ad_t_view, .inl (G.2.1 0, 600, .inl a12.2))] := hD
    refine W.eq (g2 := F0 m 24 ls []) rfl ?_
    obtain ⟨y14, hLy14, hky14⟩ := bn_some hf
    have Ey14 : ∀  (H : Heap) (locs : List Loc) (ls : Array Slot), lv_has ls 3 [] → va_P G.1 vwCl [(ad_t, .inr (11, [.ref ad_t_all, .ref ad_t_tape, .ref ad_t_isImage, .int (y14.1 3), .int (y14.1 4), .int (y14.1 5), .int (y14.1 6), .ref ad_t_size, .ref ad_t_givenRow, .ref ad_t_givenColumn, .ref ad_t_newRow, .int (y14.1 11), .int (y14.1 12), .int (y14.1 13), .int (y14.1 14), .int (y14.1 15), .int (y14.1 16), .int (y14.1 17), .int (y14.1 18), .int (y14.1 19), .ref ad_t_view, .int (y14.1 21), .int (y14.1 22), .int (y14.1 23), .int (y14.1 24), .int (y14.1 25), .long t_value, .int (y14.1 27), .int (y14.1 28)])), (ad_t_view, .inl (G.2.1 0, 600, .inl y14.2))] H → va_D A [(ad_t, .inr (11, [.ref ad_t_all, .ref ad_t_tape, .ref ad_t_isImage, .int (y14.1 3), .int (y14.1 4), .int (y14.1 5), .int (y14.1 6), .ref ad_t_size, .ref ad_t_givenRow, .ref ad_t_givenColumn, .ref ad_t_newRow, .int (y14.1 11), .int (y14.1 12), .int (y14.1 13), .int (y14.1 14), .int (y14.1 15), .int (y14.1 16), .int (y14.1 17), .int (y14.1 18), .int (y14.1 19), .ref ad_t_view, .int (y14.1 21), .int (y14.1 22), .int (y14.1 23), .int (y14.1 24), .int (y14.1 25), .long t_value, .int (y14.1 27), .int (y14.1 28)])), (ad_t_view, .inl (G.2.1 0, 600, .inl y14.2))] → va_S A s.heap H locs → wG p l e 1 21 s m [.ref ad_t, .int p0] below meth cd H locs (eQ G A (fun r w => r = none ∧ w = [(ad_t, .inr (11, [.ref ad_t_all, .ref ad_t_tape, .ref ad_t_isImage, .int (o.1 3), .int (o.1 4), .int (o.1 5), .int (o.1 6), .ref ad_t_size, .ref ad_t_givenRow, .ref ad_t_givenColumn, .ref ad_t_newRow, .int (o.1 11), .int (o.1 12), .int (o.1 13), .int (o.1 14), .int (o.1 15), .int (o.1 16), .int (o.1 17), .int (o.1 18), .int (o.1 19), .ref ad_t_view, .int (o.1 21), .int (o.1 22), .int (o.1 23), .int (o.1 24), .int (o.1 25), .long t_value, .int (o.1 27), .int (o.1 28)])), (ad_t_view, .inl (G.2.1 0, 600, .inl o.2))])) A (F0 m 49 ls []) := by
      intro  H locs ls hl hP hD hS
      have hf := hky14
      have hf := Option.some.inj hf
      subst hf
      exact eRetV hx hb hr hlocks hP hD hS ⟨rfl, rfl⟩ dX11_number_49
    have Ly14 : ∀ (n : Nat), ∀ (x15 : Int32) (g16 : Nat → Int32) (g17 : Nat → Int32) (H : Heap) (locs : List Loc) (ls : Array Slot), lv_has ls 3 [(2, .int x15), (0, .ref ad_t), (1, .int p0)] → va_P G.1 vwCl [(ad_t, .inr (11, [.ref ad_t_all, .ref ad_t_tape, .ref ad_t_isImage, .int (g16 3), .int (g16 4), .int (g16 5), .int (g16 6), .ref ad_t_size, .ref ad_t_givenRow, .ref ad_t_givenColumn, .ref ad_t_newRow, .int (g16 11), .int (g16 12), .int (g16 13), .int (g16 14), .int (g16 15), .int (g16 16), .int (g16 17), .int (g16 18), .int (g16 19), .ref ad_t_view, .int (g16 21), .int (g16 22), .int (g16 23), .int (g16 24), .int (g16 25), .long t_value, .int (g16 27), .int (g16 28)])), (ad_t_view, .inl (G.2.1 0, 600, .inl g17))] H → va_D A [(ad_t, .inr (11, [.ref ad_t_all, .ref ad_t_tape, .ref ad_t_isImage, .int (g16 3), .int (g16 4), .int (g16 5), .int (g16 6), .ref ad_t_size, .ref ad_t_givenRow, .ref ad_t_givenColumn, .ref ad_t_newRow, .int (g16 11), .int (g16 12), .int (g16 13), .int (g16 14), .int (g16 15), .int (g16 16), .int (g16 17), .int (g16 18), .int (g16 19), .ref ad_t_view, .int (g16 21), .int (g16 22), .int (g16 23), .int (g16 24), .int (g16 25), .long t_value, .int (g16 27), .int (g16 28)])), (ad_t_view, .inl (G.2.1 0, 600, .inl g17))] → va_S A s.heap H locs → fX11_number_l24 p0 n x15 g16 g17 = some y14 → wG p l e 1 21 s m [.ref ad_t, .int p0] below meth cd H locs (eQ G A (fun r w => r = none ∧ w = [(ad_t, .inr (11, [.ref ad_t_all, .ref ad_t_tape, .ref ad_t_isImage, .int (o.1 3), .int (o.1 4), .int (o.1 5), .int (o.1 6), .ref ad_t_size, .ref ad_t_givenRow, .ref ad_t_givenColumn, .ref ad_t_newRow, .int (o.1 11), .int (o.1 12), .int (o.1 13), .int (o.1 14), .int (o.1 15), .int (o.1 16), .int (o.1 17), .int (o.1 18), .int (o.1 19), .ref ad_t_view, .int (o.1 21), .int (o.1 22), .int (o.1 23), .int (o.1 24), .int (o.1 25), .long t_value, .int (o.1 27), .int (o.1 28)])), (ad_t_view, .inl (G.2.1 0, 600, .inl o.2))])) A (F0 m 24 ls []) := by
      intro n
      induction n with
      | zero =>
        intro x15 g16 g17 H locs ls hl hP hD hS hf
        rw [fX11_number_l24] at hf
        cases hf
      | succ n ih =>
        intro x15 g16 g17 H locs ls hl hP hD hS hf
        rw [fX11_number_l24] at hf
        refine lv_iload_n hx hb dX11_number_24 rfl (lv_at hl 0 rfl) ?_
        refine lv_if_le (tgt := 49) hx hb dX11_number_25 (by decide) (fun c18 => ?_) (fun c18 => ?_)
        · have hf := if_t hf c18
          have hf := Option.some.inj hf
          subst hf
          exact Ey14  H locs ls (lv_sub hl [] rfl) hP hD hS 
        · have hf := if_f hf c18
          refine lv_aload_n hx hb dX11_number_28 rfl (lv_at hl 1 rfl) ?_
          refine lv_bipush (v := 48) hx hb dX11_number_29 (by decide) ?_
          refine lv_iload_n hx hb dX11_number_31 rfl (lv_at hl 2 rfl) ?_
          refine lv_iload_n hx hb dX11_number_32 rfl (lv_at hl 0 rfl) ?_
          obtain ⟨h19, hf⟩ := gd_some hf
          refine lv_idiv hx hb dX11_number_33 (nz_ne h19) ?_
          refine lv_bipush (v := 10) hx hb dX11_number_34 (by decide) ?_
          refine lv_irem hx hb dX11_number_36 (by decide) ?_
          refine lv_iadd hx hb dX11_number_37 ?_
          obtain ⟨a20, h21, hf⟩ := bn_some hf
          refine kEV (tX11_adds l G ad_t ad_t_all ad_t_tape ad_t_isImage ad_t_size ad_t_givenRow ad_t_givenColumn ad_t_newRow ad_t_view g16 t_value g17 ((48 : Int32) + ((p0 / x15) - (p0 / x15) / (10 : Int32) * (10 : Int32))) a20 h21) ⟨hx, hb, hml, hown, hts⟩ q1397 q1399 q81 q108 q1400 okyX11_adds ⟨Nat.le_of_ble_eq_true rfl, Nat.le_of_ble_eq_true rfl⟩ hP hD hG hS hA [0, 1] [] rfl (wr := []) rfl (by decide) 0 rfl rfl hl.1 rfl (Nat.le_of_ble_eq_true rfl) dX11_number_38 ⟨Nat.zero_le _, Nat.zero_le _⟩ (fun r w H locs hR hP hD hS => ?_)
          obtain ⟨rfl, rfl⟩ := hR
          have hP : va_P G.1 vwCl [(ad_t, .inr (11, [.ref ad_t_all, .ref ad_t_tape, .ref ad_t_isImage, .int (a20.1 3), .int (a20.1 4), .int (a20.1 5), .int (a20.1 6), .ref ad_t_size, .ref ad_t_givenRow, .ref ad_t_givenColumn, .ref ad_t_newRow, .int (a20.1 11), .int (a20.1 12), .int (a20.1 13), .int (a20.1 14), .int (a20.1 15), .int (a20.1 16), .int (a20.1 17), .int (a20.1 18), .int (a20.1 19), .ref ad_t_view, .int (a20.1 21), .int (a20.1 22), .int (a20.1 23), .int (a20.1 24), .int (a20.1 25), .long t_value, .int (a20.1 27), .int (a20.1 28)])), (ad_t_view, .inl (G.2.1 0, 600, .inl a20.2))] H := hP
          have hD : va_D A [(ad_t, .inr (11, [.ref ad_t_all, .ref ad_t_tape, .ref ad_t_isImage, .int (a20.1 3), .int (a20.1 4), .int (a20.1 5), .int (a20.1 6), .ref ad_t_size, .ref ad_t_givenRow, .ref ad_t_givenColumn, .ref ad_t_newRow, .int (a20.1 11), .int (a20.1 12), .int (a20.1 13), .int (a20.1 14), .int (a20.1 15), .int (a20.1 16), .int (a20.1 17), .int (a20.1 18), .int (a20.1 19), .ref ad_t_view, .int (a20.1 21), .int (a20.1 22), .int (a20.1 23), .int (a20.1 24), .int (a20.1 25), .long t_value, .int (a20.1 27), .int (a20.1 28)])), (ad_t_view, .inl (G.2.1 0, 600, .inl a20.2))] := hD
          refine W.eq (g2 := F0 m 41 ls []) rfl ?_
          refine lv_iload_n hx hb dX11_number_41 rfl (lv_at hl 0 rfl) ?_
          refine lv_bipush (v := 10) hx hb dX11_number_42 (by decide) ?_
          refine lv_idiv hx hb dX11_number_44 (by decide) ?_
          refine lv_istore_n (lv' := [(2, .int (x15 / (10 : Int32))), (0, .ref ad_t), (1, .int p0)]) hx hb dX11_number_45 rfl hl (by decide) rfl (fun ls hl => ?_)
          refine lv_goto (tgt := 24) hx hb dX11_number_46 (by decide) ?_
          exact ih (x15 / (10 : Int32)) a20.1 a20.2 H locs ls (lv_sub hl [0, 1, 2] rfl) hP hD hS hf
    exact Ly14 FU y11 a12.1 a12.2 H locs ls (lv_sub hl [0, 1, 2] rfl) hP hD hS hLy14
  have Ly11 : ∀ (n : Nat), ∀ (x22 : Int32) (H : Heap) (locs : List Loc) (ls : Array Slot), lv_has ls 3 [(2, .int x22), (0, .ref ad_t), (1, .int p0)] → va_P G.1 vwCl [(ad_t, .inr (11, [.ref ad_t_all, .ref ad_t_tape, .ref ad_t_isImage, .int (tI 3), .int (tI 4), .int (tI 5), .int (tI 6), .ref ad_t_size, .ref ad_t_givenRow, .ref ad_t_givenColumn, .ref ad_t_newRow, .int (tI 11), .int (tI 12), .int (tI 13), .int (tI 14), .int (tI 15), .int (tI 16), .int (tI 17), .int (tI 18), .int (tI 19), .ref ad_t_view, .int (tI 21), .int (tI 22), .int (tI 23), .int (tI 24), .int (tI 25), .long t_value, .int (tI 27), .int (tI 28)])), (ad_t_view, .inl (G.2.1 0, 600, .inl t_view))] H → va_D A [(ad_t, .inr (11, [.ref ad_t_all, .ref ad_t_tape, .ref ad_t_isImage, .int (tI 3), .int (tI 4), .int (tI 5), .int (tI 6), .ref ad_t_size, .ref ad_t_givenRow, .ref ad_t_givenColumn, .ref ad_t_newRow, .int (tI 11), .int (tI 12), .int (tI 13), .int (tI 14), .int (tI 15), .int (tI 16), .int (tI 17), .int (tI 18), .int (tI 19), .ref ad_t_view, .int (tI 21), .int (tI 22), .int (tI 23), .int (tI 24), .int (tI 25), .long t_value, .int (tI 27), .int (tI 28)])), (ad_t_view, .inl (G.2.1 0, 600, .inl t_view))] → va_S A s.heap H locs → fX11_number_l2 p0 n x22 = some y11 → wG p l e 1 21 s m [.ref ad_t, .int p0] below meth cd H locs (eQ G A (fun r w => r = none ∧ w = [(ad_t, .inr (11, [.ref ad_t_all, .ref ad_t_tape, .ref ad_t_isImage, .int (o.1 3), .int (o.1 4), .int (o.1 5), .int (o.1 6), .ref ad_t_size, .ref ad_t_givenRow, .ref ad_t_givenColumn, .ref ad_t_newRow, .int (o.1 11), .int (o.1 12), .int (o.1 13), .int (o.1 14), .int (o.1 15), .int (o.1 16), .int (o.1 17), .int (o.1 18), .int (o.1 19), .ref ad_t_view, .int (o.1 21), .int (o.1 22), .int (o.1 23), .int (o.1 24), .int (o.1 25), .long t_value, .int (o.1 27), .int (o.1 28)])), (ad_t_view, .inl (G.2.1 0, 600, .inl o.2))])) A (F0 m 2 ls []) := by
    intro n
    induction n with
    | zero =>
      intro x22 H locs ls hl hP hD hS hf
      rw [fX11_number_l2] at hf
      cases hf
    | succ n ih =>
      intro x22 H locs ls hl hP hD hS hf
      rw [fX11_number_l2] at hf
      refine lv_iload_n hx hb dX11_number_2 rfl (lv_at hl 2 rfl) ?_
      refine lv_iload_n hx hb dX11_number_3 rfl (lv_at hl 0 rfl) ?_
      obtain ⟨h23, hf⟩ := gd_some hf
      refine lv_idiv hx hb dX11_number_4 (nz_ne h23) ?_
      refine lv_bipush (v := 9) hx hb dX11_number_5 (by decide) ?_
      refine lv_icmp_le (tgt := 18) hx hb dX11_number_7 (by decide) (fun c24 => ?_) (fun c24 => ?_)
      · have hf := if_t hf c24
        have hf := Option.some.inj hf
        subst hf
        exact Ey11  H locs ls (lv_sub hl [0, 1, 2] rfl) hP hD hS 
      · have hf := if_f hf c24
        refine lv_iload_n hx hb dX11_number_10 rfl (lv_at hl 0 rfl) ?_
        refine lv_bipush (v := 10) hx hb dX11_number_11 (by decide) ?_
        refine lv_imul hx hb dX11_number_13 ?_
        refine lv_istore_n (lv' := [(2, .int (x22 * (10 : Int32))), (0, .ref ad_t), (1, .int p0)]) hx hb dX11_number_14 rfl hl (by decide) rfl (fun ls hl => ?_)
        refine lv_goto (tgt := 2) hx hb dX11_number_15 (by decide) ?_
        exact ih (x22 * (10 : Int32)) H locs ls (lv_sub hl [0, 1, 2] rfl) hP hD hS hf
  exact Ly11 FU (1 : Int32) H locs ls (lv_sub hl [0, 1, 2] rfl) hP hD hS hLy11

def fX11_line_j22 (x5 : Int32) (tI : Nat → Int32) (t_view : Nat → Int32) : Option ((Nat → Int32) × (Nat → Int32)) :=
  (if x5 = (-1 : Int32) then bn (fX11_adds tI t_view (59 : Int32)) fun a6 => some (a6.1, a6.2) else bn (fX11_number tI t_view x5) fun a8 => bn (fX11_adds a8.1 a8.2 (59 : Int32)) fun a10 => some (a10.1, a10.2))
def fX11_line (tI : Nat → Int32) (t_view : Nat → Int32) (p0 : Int64) (p1 : Int32) (p2 : Int32) (p3 : Int32) : Option ((Nat → Int32) × (Nat → Int32)) :=
  bn (fX11_word tI t_view p0) fun a1 => bn (fX11_number a1.1 a1.2 p1) fun a3 => (if p2 = (-1 : Int32) then fX11_line_j22 p3 a3.1 a3.2 else bn (fX11_number a3.1 a3.2 p2) fun a16 => fX11_line_j22 p3 a16.1 a16.2)
set_option maxRecDepth 100000 in
set_option maxHeartbeats 4000000 in
theorem tX11_line (l : Launch) (G : gG) (ad_t ad_t_all ad_t_tape ad_t_isImage ad_t_size ad_t_givenRow ad_t_givenColumn ad_t_newRow ad_t_view : Nat) (tI : Nat → Int32) (t_value : Int64) (t_view : Nat → Int32) (p0 : Int64) (p1 : Int32) (p2 : Int32) (p3 : Int32) (o : (Nat → Int32) × (Nat → Int32)) (hf : fX11_line tI t_view p0 p1 p2 p3 = some o) : mE G l yX11_line cX11_line 6 none 2 45 0 0 [.ref ad_t, .long p0, .int p1, .int p2, .int p3] [(ad_t, .inr (11, [.ref ad_t_all, .ref ad_t_tape, .ref ad_t_isImage, .int (tI 3), .int (tI 4), .int (tI 5), .int (tI 6), .ref ad_t_size, .ref ad_t_givenRow, .ref ad_t_givenColumn, .ref ad_t_newRow, .int (tI 11), .int (tI 12), .int (tI 13), .int (tI 14), .int (tI 15), .int (tI 16), .int (tI 17), .int (tI 18), .int (tI 19), .ref ad_t_view, .int (tI 21), .int (tI 22), .int (tI 23), .int (tI 24), .int (tI 25), .long t_value, .int (tI 27), .int (tI 28)])), (ad_t_view, .inl (G.2.1 0, 600, .inl t_view))] (fun r w => r = none ∧ w = [(ad_t, .inr (11, [.ref ad_t_all, .ref ad_t_tape, .ref ad_t_isImage, .int (o.1 3), .int (o.1 4), .int (o.1 5), .int (o.1 6), .ref ad_t_size, .ref ad_t_givenRow, .ref ad_t_givenColumn, .ref ad_t_newRow, .int (o.1 11), .int (o.1 12), .int (o.1 13), .int (o.1 14), .int (o.1 15), .int (o.1 16), .int (o.1 17), .int (o.1 18), .int (o.1 19), .ref ad_t_view, .int (o.1 21), .int (o.1 22), .int (o.1 23), .int (o.1 24), .int (o.1 25), .long t_value, .int (o.1 27), .int (o.1 28)])), (ad_t_view, .inl (G.2.1 0, 600, .inl o.2))]) := by
  refine mE_of (by decide) (Nat.le_of_ble_eq_true rfl) ?_
  intro p e s m below meth cd ls A hx hb hml hown hts hr hlocks hnm hl hA hP hD hS hG
  have hK := hG.1
  have hown : s.vm.findClass RX11 = some m.cls := hown
  have hl : lv_has ls 6 [(0, .ref ad_t), (1, .long p0), (3, .int p1), (4, .int p2), (5, .int p3)] := hl
  have hS := hS
  unfold fX11_line at hf
  obtain ⟨H, locs, eH, eL⟩ : ∃ (H : Heap) (locs : List Loc), H = s.heap ∧ locs = [] := ⟨_, _, rfl, rfl⟩
  have hP : va_P G.1 vwCl [(ad_t, .inr (11, [.ref ad_t_all, .ref ad_t_tape, .ref ad_t_isImage, .int (tI 3), .int (tI 4), .int (tI 5), .int (tI 6), .ref ad_t_size, .ref ad_t_givenRow, .ref ad_t_givenColumn, .ref ad_t_newRow, .int (tI 11), .int (tI 12), .int (tI 13), .int (tI 14), .int (tI 15), .int (tI 16), .int (tI 17), .int (tI 18), .int (tI 19), .ref ad_t_view, .int (tI 21), .int (tI 22), .int (tI 23), .int (tI 24), .int (tI 25), .long t_value, .int (tI 27), .int (tI 28)])), (ad_t_view, .inl (G.2.1 0, 600, .inl t_view))] H := eH ▸ hP
  have hS : va_S A s.heap H locs := by rw [eH, eL]; exact hS
  suffices hgo : wG p l e 2 45 s m [.ref ad_t, .long p0, .int p1, .int p2, .int p3] below meth cd H locs (eQ G A (fun r w => r = none ∧ w = [(ad_t, .inr (11, [.ref ad_t_all, .ref ad_t_tape, .ref ad_t_isImage, .int (o.1 3), .int (o.1 4), .int (o.1 5), .int (o.1 6), .ref ad_t_size, .ref ad_t_givenRow, .ref ad_t_givenColumn, .ref ad_t_newRow, .int (o.1 11), .int (o.1 12), .int (o.1 13), .int (o.1 14), .int (o.1 15), .int (o.1 16), .int (o.1 17), .int (o.1 18), .int (o.1 19), .ref ad_t_view, .int (o.1 21), .int (o.1 22), .int (o.1 23), .int (o.1 24), .int (o.1 25), .long t_value, .int (o.1 27), .int (o.1 28)])), (ad_t_view, .inl (G.2.1 0, 600, .inl o.2))])) A (F0 m 0 ls []) by rw [eH, eL] at hgo; exact hgo
  clear eH eL
  refine lv_aload_n hx hb dX11_line_0 rfl (lv_at hl 0 rfl) ?_
  refine lv_lload_n hx hb dX11_line_1 rfl (lv_at hl 1 rfl) ?_
  obtain ⟨a18, h19, hf⟩ := bn_some hf
  refine kEV (tX11_word l G ad_t ad_t_all ad_t_tape ad_t_isImage ad_t_size ad_t_givenRow ad_t_givenColumn ad_t_newRow ad_t_view tI t_value t_view p0 a18 h19) ⟨hx, hb, hml, hown, hts⟩ q1391 q1393 q80 q108 q1394 okyX11_word ⟨Nat.le_of_ble_eq_true rfl, Nat.le_of_ble_eq_true rfl⟩ hP hD hG hS hA [0, 1] [] rfl (wr := []) rfl (by decide) 0 rfl rfl hl.1 rfl (Nat.le_of_ble_eq_true rfl) dX11_line_2 ⟨Nat.zero_le _, Nat.zero_le _⟩ (fun r w H locs hR hP hD hS => ?_)
  obtain ⟨rfl, rfl⟩ := hR
  have hP : va_P G.1 vwCl [(ad_t, .inr (11, [.ref ad_t_all, .ref ad_t_tape, .ref ad_t_isImage, .int (a18.1 3), .int (a18.1 4), .int (a18.1 5), .int (a18.1 6), .ref ad_t_size, .ref ad_t_givenRow, .ref ad_t_givenColumn, .ref ad_t_newRow, .int (a18.1 11), .int (a18.1 12), .int (a18.1 13), .int (a18.1 14), .int (a18.1 15), .int (a18.1 16), .int (a18.1 17), .int (a18.1 18), .int (a18.1 19), .ref ad_t_view, .int (a18.1 21), .int (a18.1 22), .int (a18.1 23), .int (a18.1 24), .int (a18.1 25), .long t_value, .int (a18.1 27), .int (a18.1 28)])), (ad_t_view, .inl (G.2.1 0, 600, .inl a18.2))] H := hP
  have hD : va_D A [(ad_t, .inr (11, [.ref ad_t_all, .ref ad_t_tape, .ref ad_t_isImage, .int (a18.1 3), .int (a18.1 4), .int (a18.1 5), .int (a18.1 6), .ref ad_t_size, .ref ad_t_givenRow, .ref ad_t_givenColumn, .ref ad_t_newRow, .int (a18.1 11), .int (a18.1 12), .int (a18.1 13), .int (a18.1 14), .int (a18.1 15), .int (a18.1 16), .int (a18.1 17), .int (a18.1 18), .int (a18.1 19), .ref ad_t_view, .int (a18.1 21), .int (a18.1 22), .int (a18.1 23), .int (a18.1 24), .int (a18.1 25), .long t_value, .int (a18.1 27), .int (a18.1 28)])), (ad_t_view, .inl (G.2.1 0, 600, .inl a18.2))] := hD
  refine W.eq (g2 := F0 m 5 ls []) rfl ?_
  refine lv_aload_n hx hb dX11_line_5 rfl (lv_at hl 0 rfl) ?_
  refine lv_iload_n hx hb dX11_line_6 rfl (lv_at hl 2 rfl) ?_
  obtain ⟨a20, h21, hf⟩ := bn_some hf
  refine kEV (tX11_number l G ad_t ad_t_all ad_t_tape ad_t_isImage ad_t_size ad_t_givenRow ad_t_givenColumn ad_t_newRow ad_t_view a18.1 t_value a18.2 p1 a20 h21) ⟨hx, hb, hml, hown, hts⟩ q1401 q1403 q82 q108 q1404 okyX11_number ⟨Nat.le_of_ble_eq_true rfl, Nat.le_of_ble_eq_true rfl⟩ hP hD hG hS hA [0, 1] [] rfl (wr := []) rfl (by decide) 0 rfl rfl hl.1 rfl (Nat.le_of_ble_eq_true rfl) dX11_line_7 ⟨Nat.zero_le _, Nat.zero_le _⟩ (fun r w H locs hR hP hD hS => ?_)
  obtain ⟨rfl, rfl⟩ := hR
  have hP : va_P G.1 vwCl [(ad_t, .inr (11, [.ref ad_t_all, .ref ad_t_tape, .ref ad_t_isImage, .int (a20.1 3), .int (a20.1 4), .int (a20.1 5), .int (a20.1 6), .ref ad_t_size, .ref ad_t_givenRow, .ref ad_t_givenColumn, .ref ad_t_newRow, .int (a20.1 11), .int (a20.1 12), .int (a20.1 13), .int (a20.1 14), .int (a20.1 15), .int (a20.1 16), .int (a20.1 17), .int (a20.1 18), .int (a20.1 19), .ref ad_t_view, .int (a20.1 21), .int (a20.1 22), .int (a20.1 23), .int (a20.1 24), .int (a20.1 25), .long t_value, .int (a20.1 27), .int (a20.1 28)])), (ad_t_view, .inl (G.2.1 0, 600, .inl a20.2))] H := hP
  have hD : va_D A [(ad_t, .inr (11, [.ref ad_t_all, .ref ad_t_tape, .ref ad_t_isImage, .int (a20.1 3), .int (a20.1 4), .int (a20.1 5), .int (a20.1 6), .ref ad_t_size, .ref ad_t_givenRow, .ref ad_t_givenColumn, .ref ad_t_newRow, .int (a20.1 11), .int (a20.1 12), .int (a20.1 13), .int (a20.1 14), .int (a20.1 15), .int (a20.1 16), .int (a20.1 17), .int (a20.1 18), .int (a20.1 19), .ref ad_t_view, .int (a20.1 21), .int (a20.1 22), .int (a20.1 23), .int (a20.1 24), .int (a20.1 25), .long t_value, .int (a20.1 27), .int (a20.1 28)])), (ad_t_view, .inl (G.2.1 0, 600, .inl a20.2))] := hD
  refine W.eq (g2 := F0 m 10 ls []) rfl ?_
  refine lv_iload hx hb dX11_line_10 (lv_at hl 3 rfl) ?_
  refine lv_iconst (v := -1) hx hb dX11_line_12 (by decide) ?_
  have J22_k24 : ∀ (g22 : Nat → Int32) (g23 : Nat → Int32) (H : Heap) (locs : List Loc) (ls : Array Slot), lv_has ls 6 [(0, .ref ad_t), (5, .int p3)] → va_P G.1 vwCl [(ad_t, .inr (11, [.ref ad_t_all, .ref ad_t_tape, .ref ad_t_isImage, .int (g22 3), .int (g22 4), .int (g22 5), .int (g22 6), .ref ad_t_size, .ref ad_t_givenRow, .ref ad_t_givenColumn, .ref ad_t_newRow, .int (g22 11), .int (g22 12), .int (g22 13), .int (g22 14), .int (g22 15), .int (g22 16), .int (g22 17), .int (g22 18), .int (g22 19), .ref ad_t_view, .int (g22 21), .int (g22 22), .int (g22 23), .int (g22 24), .int (g22 25), .long t_value, .int (g22 27), .int (g22 28)])), (ad_t_view, .inl (G.2.1 0, 600, .inl g23))] H → va_D A [(ad_t, .inr (11, [.ref ad_t_all, .ref ad_t_tape, .ref ad_t_isImage, .int (g22 3), .int (g22 4), .int (g22 5), .int (g22 6), .ref ad_t_size, .ref ad_t_givenRow, .ref ad_t_givenColumn, .ref ad_t_newRow, .int (g22 11), .int (g22 12), .int (g22 13), .int (g22 14), .int (g22 15), .int (g22 16), .int (g22 17), .int (g22 18), .int (g22 19), .ref ad_t_view, .int (g22 21), .int (g22 22), .int (g22 23), .int (g22 24), .int (g22 25), .long t_value, .int (g22 27), .int (g22 28)])), (ad_t_view, .inl (G.2.1 0, 600, .inl g23))] → va_S A s.heap H locs → fX11_line_j22 p3 g22 g23 = some o → wG p l e 2 45 s m [.ref ad_t, .long p0, .int p1, .int p2, .int p3] below meth cd H locs (eQ G A (fun r w => r = none ∧ w = [(ad_t, .inr (11, [.ref ad_t_all, .ref ad_t_tape, .ref ad_t_isImage, .int (o.1 3), .int (o.1 4), .int (o.1 5), .int (o.1 6), .ref ad_t_size, .ref ad_t_givenRow, .ref ad_t_givenColumn, .ref ad_t_newRow, .int (o.1 11), .int (o.1 12), .int (o.1 13), .int (o.1 14), .int (o.1 15), .int (o.1 16), .int (o.1 17), .int (o.1 18), .int (o.1 19), .ref ad_t_view, .int (o.1 21), .int (o.1 22), .int (o.1 23), .int (o.1 24), .int (o.1 25), .long t_value, .int (o.1 27), .int (o.1 28)])), (ad_t_view, .inl (G.2.1 0, 600, .inl o.2))])) A (F0 m 22 ls []) := by
    intro g22 g23 H locs ls hl hP hD hS hf
    unfold fX11_line_j22 at hf
    refine lv_iload hx hb dX11_line_22 (lv_at hl 1 rfl) ?_
    refine lv_iconst (v := -1) hx hb dX11_line_24 (by decide) ?_
    refine lv_icmp_eq (tgt := 34) hx hb dX11_line_25 (by decide) (fun c25 => ?_) (fun c25 => ?_)
    · have hf := if_t hf c25
      refine lv_aload_n hx hb dX11_line_34 rfl (lv_at hl 0 rfl) ?_
      refine lv_bipush (v := 59) hx hb dX11_line_35 (by decide) ?_
      obtain ⟨a26, h27, hf⟩ := bn_some hf
      refine kEV (tX11_adds l G ad_t ad_t_all ad_t_tape ad_t_isImage ad_t_size ad_t_givenRow ad_t_givenColumn ad_t_newRow ad_t_view g22 t_value g23 (59 : Int32) a26 h27) ⟨hx, hb, hml, hown, hts⟩ q1397 q1399 q81 q108 q1400 okyX11_adds ⟨Nat.le_of_ble_eq_true rfl, Nat.le_of_ble_eq_true rfl⟩ hP hD hG hS hA [0, 1] [] rfl (wr := []) rfl (by decide) 0 rfl rfl hl.1 rfl (Nat.le_of_ble_eq_true rfl) dX11_line_37 ⟨Nat.zero_le _, Nat.zero_le _⟩ (fun r w H locs hR hP hD hS => ?_)
      obtain ⟨rfl, rfl⟩ := hR
      have hP : va_P G.1 vwCl [(ad_t, .inr (11, [.ref ad_t_all, .ref ad_t_tape, .ref ad_t_isImage, .int (a26.1 3), .int (a26.1 4), .int (a26.1 5), .int (a26.1 6), .ref ad_t_size, .ref ad_t_givenRow, .ref ad_t_givenColumn, .ref ad_t_newRow, .int (a26.1 11), .int (a26.1 12), .int (a26.1 13), .int (a26.1 14), .int (a26.1 15), .int (a26.1 16), .int (a26.1 17), .int (a26.1 18), .int (a26.1 19), .ref ad_t_view, .int (a26.1 21), .int (a26.1 22), .int (a26.1 23), .int (a26.1 24), .int (a26.1 25), .long t_value, .int (a26.1 27), .int (a26.1 28)])), (ad_t_view, .inl (G.2.1 0, 600, .inl a26.2))] H := hP
      have hD : va_D A [(ad_t, .inr (11, [.ref ad_t_all, .ref ad_t_tape, .ref ad_t_isImage, .int (a26.1 3), .int (a26.1 4), .int (a26.1 5), .int (a26.1 6), .ref ad_t_size, .ref ad_t_givenRow, .ref ad_t_givenColumn, .ref ad_t_newRow, .int (a26.1 11), .int (a26.1 12), .int (a26.1 13), .int (a26.1 14), .int (a26.1 15), .int (a26.1 16), .int (a26.1 17), .int (a26.1 18), .int (a26.1 19), .ref ad_t_view, .int (a26.1 21), .int (a26.1 22), .int (a26.1 23), .int (a26.1 24), .int (a26.1 25), .long t_value, .int (a26.1 27), .int (a26.1 28)])), (ad_t_view, .inl (G.2.1 0, 600, .inl a26.2))] := hD
      refine W.eq (g2 := F0 m 40 ls []) rfl ?_
      have hf := Option.some.inj hf
      subst hf
      exact eRetV hx hb hr hlocks hP hD hS ⟨rfl, rfl⟩ dX11_line_40
    · have hf := if_f hf c25
      refine lv_aload_n hx hb dX11_line_28 rfl (lv_at hl 0 rfl) ?_
      refine lv_iload hx hb dX11_line_29 (lv_at hl 1 rfl) ?_
      obtain ⟨a28, h29, hf⟩ := bn_some hf
      refine kEV (tX11_number l G ad_t ad_t_all ad_t_tape ad_t_isImage ad_t_size ad_t_givenRow ad_t_givenColumn ad_t_newRow ad_t_view g22 t_value g23 p3 a28 h29) ⟨hx, hb, hml, hown, hts⟩ q1401 q1403 q82 q108 q1404 okyX11_number ⟨Nat.le_of_ble_eq_true rfl, Nat.le_of_ble_eq_true rfl⟩ hP hD hG hS hA [0, 1] [] rfl (wr := []) rfl (by decide) 0 rfl rfl hl.1 rfl (Nat.le_of_ble_eq_true rfl) dX11_line_31 ⟨Nat.zero_le _, Nat.zero_le _⟩ (fun r w H locs hR hP hD hS => ?_)
      obtain ⟨rfl, rfl⟩ := hR
      have hP : va_P G.1 vwCl [(ad_t, .inr (11, [.ref ad_t_all, .ref ad_t_tape, .ref ad_t_isImage, .int (a28.1 3), .int (a28.1 4), .int (a28.1 5), .int (a28.1 6), .ref ad_t_size, .ref ad_t_givenRow, .ref ad_t_givenColumn, .ref ad_t_newRow, .int (a28.1 11), .int (a28.1 12), .int (a28.1 13), .int (a28.1 14), .int (a28.1 15), .int (a28.1 16), .int (a28.1 17), .int (a28.1 18), .int (a28.1 19), .ref ad_t_view, .int (a28.1 21), .int (a28.1 22), .int (a28.1 23), .int (a28.1 24), .int (a28.1 25), .long t_value, .int (a28.1 27), .int (a28.1 28)])), (ad_t_view, .inl (G.2.1 0, 600, .inl a28.2))] H := hP
      have hD : va_D A [(ad_t, .inr (11, [.ref ad_t_all, .ref ad_t_tape, .ref ad_t_isImage, .int (a28.1 3), .int (a28.1 4), .int (a28.1 5), .int (a28.1 6), .ref ad_t_size, .ref ad_t_givenRow, .ref ad_t_givenColumn, .ref ad_t_newRow, .int (a28.1 11), .int (a28.1 12), .int (a28.1 13), .int (a28.1 14), .int (a28.1 15), .int (a28.1 16), .int (a28.1 17), .int (a28.1 18), .int (a28.1 19), .ref ad_t_view, .int (a28.1 21), .int (a28.1 22), .int (a28.1 23), .int (a28.1 24), .int (a28.1 25), .long t_value, .int (a28.1 27), .int (a28.1 28)])), (ad_t_view, .inl (G.2.1 0, 600, .inl a28.2))] := hD
      refine W.eq (g2 := F0 m 34 ls []) rfl ?_
      refine lv_aload_n hx hb dX11_line_34 rfl (lv_at hl 0 rfl) ?_
      refine lv_bipush (v := 59) hx hb dX11_line_35 (by decide) ?_
      obtain ⟨a30, h31, hf⟩ := bn_some hf
      refine kEV (tX11_adds l G ad_t ad_t_all ad_t_tape ad_t_isImage ad_t_size ad_t_givenRow ad_t_givenColumn ad_t_newRow ad_t_view a28.1 t_value a28.2 (59 : Int32) a30 h31) ⟨hx, hb, hml, hown, hts⟩ q1397 q1399 q81 q108 q1400 okyX11_adds ⟨Nat.le_of_ble_eq_true rfl, Nat.le_of_ble_eq_true rfl⟩ hP hD hG hS hA [0, 1] [] rfl (wr := []) rfl (by decide) 0 rfl rfl hl.1 rfl (Nat.le_of_ble_eq_true rfl) dX11_line_37 ⟨Nat.zero_le _, Nat.zero_le _⟩ (fun r w H locs hR hP hD hS => ?_)
      obtain ⟨rfl, rfl⟩ := hR
      have hP : va_P G.1 vwCl [(ad_t, .inr (11, [.ref ad_t_all, .ref ad_t_tape, .ref ad_t_isImage, .int (a30.1 3), .int (a30.1 4), .int (a30.1 5), .int (a30.1 6), .ref ad_t_size, .ref ad_t_givenRow, .ref ad_t_givenColumn, .ref ad_t_newRow, .int (a30.1 11), .int (a30.1 12), .int (a30.1 13), .int (a30.1 14), .int (a30.1 15), .int (a30.1 16), .int (a30.1 17), .int (a30.1 18), .int (a30.1 19), .ref ad_t_view, .int (a30.1 21), .int (a30.1 22), .int (a30.1 23), .int (a30.1 24), .int (a30.1 25), .long t_value, .int (a30.1 27), .int (a30.1 28)])), (ad_t_view, .inl (G.2.1 0, 600, .inl a30.2))] H := hP
      have hD : va_D A [(ad_t, .inr (11, [.ref ad_t_all, .ref ad_t_tape, .ref ad_t_isImage, .int (a30.1 3), .int (a30.1 4), .int (a30.1 5), .int (a30.1 6), .ref ad_t_size, .ref ad_t_givenRow, .ref ad_t_givenColumn, .ref ad_t_newRow, .int (a30.1 11), .int (a30.1 12), .int (a30.1 13), .int (a30.1 14), .int (a30.1 15), .int (a30.1 16), .int (a30.1 17), .int (a30.1 18), .int (a30.1 19), .ref ad_t_view, .int (a30.1 21), .int (a30.1 22), .int (a30.1 23), .int (a30.1 24), .int (a30.1 25), .long t_value, .int (a30.1 27), .int (a30.1 28)])), (ad_t_view, .inl (G.2.1 0, 600, .inl a30.2))] := hD
      refine W.eq (g2 := F0 m 40 ls []) rfl ?_
      have hf := Option.some.inj hf
      subst hf
      exact eRetV hx hb hr hlocks hP hD hS ⟨rfl, rfl⟩ dX11_line_40
  refine lv_icmp_eq (tgt := 22) hx hb dX11_line_13 (by decide) (fun c32 => ?_) (fun c32 => ?_)
  · have hf := if_t hf c32
    exact J22_k24 a20.1 a20.2 H locs ls (lv_sub hl [0, 4] rfl) hP hD hS hf
  · have hf := if_f hf c32
    refine lv_aload_n hx hb dX11_line_16 rfl (lv_at hl 0 rfl) ?_
    refine lv_iload hx hb dX11_line_17 (lv_at hl 3 rfl) ?_
    obtain ⟨a33, h34, hf⟩ := bn_some hf
    refine kEV (tX11_number l G ad_t ad_t_all ad_t_tape ad_t_isImage ad_t_size ad_t_givenRow ad_t_givenColumn ad_t_newRow ad_t_view a20.1 t_value a20.2 p2 a33 h34) ⟨hx, hb, hml, hown, hts⟩ q1401 q1403 q82 q108 q1404 okyX11_number ⟨Nat.le_of_ble_eq_true rfl, Nat.le_of_ble_eq_true rfl⟩ hP hD hG hS hA [0, 1] [] rfl (wr := []) rfl (by decide) 0 rfl rfl hl.1 rfl (Nat.le_of_ble_eq_true rfl) dX11_line_19 ⟨Nat.zero_le _, Nat.zero_le _⟩ (fun r w H locs hR hP hD hS => ?_)
    obtain ⟨rfl, rfl⟩ := hR
    have hP : va_P G.1 vwCl [(ad_t, .inr (11, [.ref ad_t_all, .ref ad_t_tape, .ref ad_t_isImage, .int (a33.1 3), .int (a33.1 4), .int (a33.1 5), .int (a33.1 6), .ref ad_t_size, .ref ad_t_givenRow, .ref ad_t_givenColumn, .ref ad_t_newRow, .int (a33.1 11), .int (a33.1 12), .int (a33.1 13), .int (a33.1 14), .int (a33.1 15), .int (a33.1 16), .int (a33.1 17), .int (a33.1 18), .int (a33.1 19), .ref ad_t_view, .int (a33.1 21), .int (a33.1 22), .int (a33.1 23), .int (a33.1 24), .int (a33.1 25), .long t_value, .int (a33.1 27), .int (a33.1 28)])), (ad_t_view, .inl (G.2.1 0, 600, .inl a33.2))] H := hP
    have hD : va_D A [(ad_t, .inr (11, [.ref ad_t_all, .ref ad_t_tape, .ref ad_t_isImage, .int (a33.1 3), .int (a33.1 4), .int (a33.1 5), .int (a33.1 6), .ref ad_t_size, .ref ad_t_givenRow, .ref ad_t_givenColumn, .ref ad_t_newRow, .int (a33.1 11), .int (a33.1 12), .int (a33.1 13), .int (a33.1 14), .int (a33.1 15), .int (a33.1 16), .int (a33.1 17), .int (a33.1 18), .int (a33.1 19), .ref ad_t_view, .int (a33.1 21), .int (a33.1 22), .int (a33.1 23), .int (a33.1 24), .int (a33.1 25), .long t_value, .int (a33.1 27), .int (a33.1 28)])), (ad_t_view, .inl (G.2.1 0, 600, .inl a33.2))] := hD
    refine W.eq (g2 := F0 m 22 ls []) rfl ?_
    exact J22_k24 a33.1 a33.2 H locs ls (lv_sub hl [0, 4] rfl) hP hD hS hf

def fX11_feed_l18 (x1 : Int32) (x2 : Int32) (x3 : Int32) (x4 : Int32) (x5 : Int32) (tI : Nat → Int32) : Nat → Int32 → (Nat → Int32) → Option ((Nat → Int32))
  | 0, _, _ => none
  | n + 1, x6, t_tape =>
    (if (20 : Int32) ≤ x6 then some t_tape else gd (gi ((tI 3) + x6) 300) (fX11_feed_l18 x1 x2 x3 x4 x5 tI n (x6 + (1 : Int32)) (upd t_tape ((tI 3) + x6).toNatClampNeg (((if (4 : Int32) ≤ x6 then (if (8 : Int32) ≤ x6 then (if (12 : Int32) ≤ x6 then (if (16 : Int32) ≤ x6 then x5 else x4) else x3) else x2) else x1) >>> (((24 : Int32) - ((8 : Int32) * (x6 &&& (3 : Int32)))) &&& 31)) &&& (255 : Int32)))))
def fX11_feed (tI : Nat → Int32) (t_tape : Nat → Int32) (p0 : Int32) (p1 : Int32) (p2 : Int32) (p3 : Int32) (p4 : Int32) : Option (Int32 × (Nat → Int32) × (Nat → Int32)) :=
  (if ((tI 3) + (20 : Int32)) ≤ (300 : Int32) then bn (fX11_feed_l18 p0 p1 p2 p3 p4 tI FU (0 : Int32) t_tape) fun y9 => some (((tI 3) + (20 : Int32)), (upd tI 3 ((tI 3) + (20 : Int32))), y9) else some ((-1 : Int32), tI, t_tape))
set_option maxRecDepth 100000 in
set_option maxHeartbeats 4000000 in
theorem tX11_feed (l : Launch) (G : gG) (ad_t ad_t_all ad_t_tape ad_t_isImage ad_t_size ad_t_givenRow ad_t_givenColumn ad_t_newRow ad_t_view : Nat) (tI : Nat → Int32) (t_value : Int64) (t_tape : Nat → Int32) (p0 : Int32) (p1 : Int32) (p2 : Int32) (p3 : Int32) (p4 : Int32) (o : Int32 × (Nat → Int32) × (Nat → Int32)) (hf : fX11_feed tI t_tape p0 p1 p2 p3 p4 = some o) : mE G l yX11_feed cX11_feed 8 (some .int) 0 0 0 0 [.ref ad_t, .int p0, .int p1, .int p2, .int p3, .int p4] [(ad_t, .inr (11, [.ref ad_t_all, .ref ad_t_tape, .ref ad_t_isImage, .int (tI 3), .int (tI 4), .int (tI 5), .int (tI 6), .ref ad_t_size, .ref ad_t_givenRow, .ref ad_t_givenColumn, .ref ad_t_newRow, .int (tI 11), .int (tI 12), .int (tI 13), .int (tI 14), .int (tI 15), .int (tI 16), .int (tI 17), .int (tI 18), .int (tI 19), .ref ad_t_view, .int (tI 21), .int (tI 22), .int (tI 23), .int (tI 24), .int (tI 25), .long t_value, .int (tI 27), .int (tI 28)])), (ad_t_tape, .inl (G.2.1 0, 300, .inl t_tape))] (fun r w => r = (some (.int o.1)) ∧ w = [(ad_t, .inr (11, [.ref ad_t_all, .ref ad_t_tape, .ref ad_t_isImage, .int (o.2.1 3), .int (o.2.1 4), .int (o.2.1 5), .int (o.2.1 6), .ref ad_t_size, .ref ad_t_givenRow, .ref ad_t_givenColumn, .ref ad_t_newRow, .int (o.2.1 11), .int (o.2.1 12), .int (o.2.1 13), .int (o.2.1 14), .int (o.2.1 15), .int (o.2.1 16), .int (o.2.1 17), .int (o.2.1 18), .int (o.2.1 19), .ref ad_t_view, .int (o.2.1 21), .int (o.2.1 22), .int (o.2.1 23), .int (o.2.1 24), .int (o.2.1 25), .long t_value, .int (o.2.1 27), .int (o.2.1 28)])), (ad_t_tape, .inl (G.2.1 0, 300, .inl o.2.2))]) := by
  refine mE_of (by decide) (Nat.le_of_ble_eq_true rfl) ?_
  intro p e s m below meth cd ls A hx hb hml hown hts hr hlocks hnm hl hA hP hD hS hG
  have hK := hG.1
  have hown : s.vm.findClass RX11 = some m.cls := hown
  have hl : lv_has ls 8 [(0, .ref ad_t), (1, .int p0), (2, .int p1), (3, .int p2), (4, .int p3), (5, .int p4)] := hl
  have hS := hS
  unfold fX11_feed at hf
  obtain ⟨H, locs, eH, eL⟩ : ∃ (H : Heap) (locs : List Loc), H = s.heap ∧ locs = [] := ⟨_, _, rfl, rfl⟩
  have hP : va_P G.1 vwCl [(ad_t, .inr (11, [.ref ad_t_all, .ref ad_t_tape, .ref ad_t_isImage, .int (tI 3), .int (tI 4), .int (tI 5), .int (tI 6), .ref ad_t_size, .ref ad_t_givenRow, .ref ad_t_givenColumn, .ref ad_t_newRow, .int (tI 11), .int (tI 12), .int (tI 13), .int (tI 14), .int (tI 15), .int (tI 16), .int (tI 17), .int (tI 18), .int (tI 19), .ref ad_t_view, .int (tI 21), .int (tI 22), .int (tI 23), .int (tI 24), .int (tI 25), .long t_value, .int (tI 27), .int (tI 28)])), (ad_t_tape, .inl (G.2.1 0, 300, .inl t_tape))] H := eH ▸ hP
  have hS : va_S A s.heap H locs := by rw [eH, eL]; exact hS
  suffices hgo : wG p l e 0 0 s m [.ref ad_t, .int p0, .int p1, .int p2, .int p3, .int p4] below meth cd H locs (eQ G A (fun r w => r = (some (.int o.1)) ∧ w = [(ad_t, .inr (11, [.ref ad_t_all, .ref ad_t_tape, .ref ad_t_isImage, .int (o.2.1 3), .int (o.2.1 4), .int (o.2.1 5), .int (o.2.1 6), .ref ad_t_size, .ref ad_t_givenRow, .ref ad_t_givenColumn, .ref ad_t_newRow, .int (o.2.1 11), .int (o.2.1 12), .int (o.2.1 13), .int (o.2.1 14), .int (o.2.1 15), .int (o.2.1 16), .int (o.2.1 17), .int (o.2.1 18), .int (o.2.1 19), .ref ad_t_view, .int (o.2.1 21), .int (o.2.1 22), .int (o.2.1 23), .int (o.2.1 24), .int (o.2.1 25), .long t_value, .int (o.2.1 27), .int (o.2.1 28)])), (ad_t_tape, .inl (G.2.1 0, 300, .inl o.2.2))])) A (F0 m 0 ls []) by rw [eH, eL] at hgo; exact hgo
  clear eH eL
  refine lv_aload_n hx hb dX11_feed_0 rfl (lv_at hl 0 rfl) ?_
  refine va_get (D := G.1) (cl := vwCl) (ci := 11) (v := .int (tI 3)) (C := RX11) (T := TX11) (N := 29) hx hb hts inG11 hown hK hP 0 rfl rfl 3 (Nat.le_of_ble_eq_true rfl) (hts _ q1044) (fun _ h9 => h9) rfl dX11_feed_1 ?_
  refine lv_bipush (v := 20) hx hb dX11_feed_4 (by decide) ?_
  refine lv_iadd hx hb dX11_feed_6 ?_
  refine lv_sipush (v := 300) hx hb dX11_feed_7 (by decide) ?_
  refine lv_icmp_le (tgt := 15) hx hb dX11_feed_10 (by decide) (fun c10 => ?_) (fun c10 => ?_)
  · have hf := if_t hf c10
    refine lv_iconst (v := 0) hx hb dX11_feed_15 (by decide) ?_
    refine lv_istore (lv' := [(6, .int (0 : Int32)), (0, .ref ad_t), (1, .int p0), (2, .int p1), (3, .int p2), (4, .int p3), (5, .int p4)]) hx hb dX11_feed_16 hl (by decide) rfl (fun ls hl => ?_)
    obtain ⟨y11, hLy11, hky11⟩ := bn_some hf
    have Ey11 : ∀  (H : Heap) (locs : List Loc) (ls : Array Slot), lv_has ls 8 [(0, .ref ad_t)] → va_P G.1 vwCl [(ad_t, .inr (11, [.ref ad_t_all, .ref ad_t_tape, .ref ad_t_isImage, .int (tI 3), .int (tI 4), .int (tI 5), .int (tI 6), .ref ad_t_size, .ref ad_t_givenRow, .ref ad_t_givenColumn, .ref ad_t_newRow, .int (tI 11), .int (tI 12), .int (tI 13), .int (tI 14), .int (tI 15), .int (tI 16), .int (tI 17), .int (tI 18), .int (tI 19), .ref ad_t_view, .int (tI 21), .int (tI 22), .int (tI 23), .int (tI 24), .int (tI 25), .long t_value, .int (tI 27), .int (tI 28)])), (ad_t_tape, .inl (G.2.1 0, 300, .inl y11))] H → va_D A [(ad_t, .inr (11, [.ref ad_t_all, .ref ad_t_tape, .ref ad_t_isImage, .int (tI 3), .int (tI 4), .int (tI 5), .int (tI 6), .ref ad_t_size, .ref ad_t_givenRow, .ref ad_t_givenColumn, .ref ad_t_newRow, .int (tI 11), .int (tI 12), .int (tI 13), .int (tI 14), .int (tI 15), .int (tI 16), .int (tI 17), .int (tI 18), .int (tI 19), .ref ad_t_view, .int (tI 21), .int (tI 22), .int (tI 23), .int (tI 24), .int (tI 25), .long t_value, .int (tI 27), .int (tI 28)])), (ad_t_tape, .inl (G.2.1 0, 300, .inl y11))] → va_S A s.heap H locs → wG p l e 0 0 s m [.ref ad_t, .int p0, .int p1, .int p2, .int p3, .int p4] below meth cd H locs (eQ G A (fun r w => r = (some (.int o.1)) ∧ w = [(ad_t, .inr (11, [.ref ad_t_all, .ref ad_t_tape, .ref ad_t_isImage, .int (o.2.1 3), .int (o.2.1 4), .int (o.2.1 5), .int (o.2.1 6), .ref ad_t_size, .ref ad_t_givenRow, .ref ad_t_givenColumn, .ref ad_t_newRow, .int (o.2.1 11), .int (o.2.1 12), .int (o.2.1 13), .int (o.2.1 14), .int (o.2.1 15), .int (o.2.1 16), .int (o.2.1 17), .int (o.2.1 18), .int (o.2.1 19), .ref ad_t_view, .int (o.2.1 21), .int (o.2.1 22), .int (o.2.1 23), .int (o.2.1 24), .int (o.2.1 25), .long t_value, .int (o.2.1 27), .int (o.2.1 28)])), (ad_t_tape, .inl (G.2.1 0, 300, .inl o.2.2))])) A (F0 m 108 ls []) := by
      intro  H locs ls hl hP hD hS
      have hf := hky11
      refine lv_aload_n hx hb dX11_feed_108 rfl (lv_at hl 0 rfl) ?_
      refine lv_dup hx hb dX11_feed_109 rfl ?_
      refine va_get (D := G.1) (cl := vwCl) (ci := 11) (v := .int (tI 3)) (C := RX11) (T := TX11) (N := 29) hx hb hts inG11 hown hK hP 0 rfl rfl 3 (Nat.le_of_ble_eq_true rfl) (hts _ q1044) (fun _ h9 => h9) rfl dX11_feed_110 ?_
      refine lv_bipush (v := 20) hx hb dX11_feed_113 (by decide) ?_
      refine lv_iadd hx hb dX11_feed_115 ?_
      refine va_put (D := G.1) (cl := vwCl) (ci := 11) (v := .int ((tI 3) + (20 : Int32))) (ty := .int) (C := RX11) (T := TX11) (N := 29) hx hb hts inG11 tyX11 tyX11_ok nmX11 hown hK hP hD hS 0 rfl rfl 3 (Nat.le_of_ble_eq_true rfl) (hts _ q1044) (fun _ h9 => h9) rfl (tyX11_ok 3 (Nat.le_of_ble_eq_true rfl)) rfl rfl (Nat.le_of_ble_eq_true rfl) dX11_feed_116 (fun H locs hP hD hS => ?_)
      have hP : va_P G.1 vwCl [(ad_t, .inr (11, [.ref ad_t_all, .ref ad_t_tape, .ref ad_t_isImage, .int ((tI 3) + (20 : Int32)), .int (tI 4), .int (tI 5), .int (tI 6), .ref ad_t_size, .ref ad_t_givenRow, .ref ad_t_givenColumn, .ref ad_t_newRow, .int (tI 11), .int (tI 12), .int (tI 13), .int (tI 14), .int (tI 15), .int (tI 16), .int (tI 17), .int (tI 18), .int (tI 19), .ref ad_t_view, .int (tI 21), .int (tI 22), .int (tI 23), .int (tI 24), .int (tI 25), .long t_value, .int (tI 27), .int (tI 28)])), (ad_t_tape, .inl (G.2.1 0, 300, .inl y11))] H := hP
      have hD : va_D A [(ad_t, .inr (11, [.ref ad_t_all, .ref ad_t_tape, .ref ad_t_isImage, .int ((tI 3) + (20 : Int32)), .int (tI 4), .int (tI 5), .int (tI 6), .ref ad_t_size, .ref ad_t_givenRow, .ref ad_t_givenColumn, .ref ad_t_newRow, .int (tI 11), .int (tI 12), .int (tI 13), .int (tI 14), .int (tI 15), .int (tI 16), .int (tI 17), .int (tI 18), .int (tI 19), .ref ad_t_view, .int (tI 21), .int (tI 22), .int (tI 23), .int (tI 24), .int (tI 25), .long t_value, .int (tI 27), .int (tI 28)])), (ad_t_tape, .inl (G.2.1 0, 300, .inl y11))] := hD
      refine lv_aload_n hx hb dX11_feed_119 rfl (lv_at hl 0 rfl) ?_
      refine va_get (D := G.1) (cl := vwCl) (ci := 11) (v := .int ((tI 3) + (20 : Int32))) (C := RX11) (T := TX11) (N := 29) hx hb hts inG11 hown hK hP 0 rfl rfl 3 (Nat.le_of_ble_eq_true rfl) (hts _ q1044) (fun _ h9 => h9) rfl dX11_feed_120 ?_
      have hf := Option.some.inj hf
      subst hf
      exact eRet hx hb hr hlocks hP hD hS ⟨rfl, rfl⟩ dX11_feed_123
    have Ly11 : ∀ (n : Nat), ∀ (x12 : Int32) (g13 : Nat → Int32) (H : Heap) (locs : List Loc) (ls : Array Slot), lv_has ls 8 [(6, .int x12), (0, .ref ad_t), (1, .int p0), (2, .int p1), (3, .int p2), (4, .int p3), (5, .int p4)] → va_P G.1 vwCl [(ad_t, .inr (11, [.ref ad_t_all, .ref ad_t_tape, .ref ad_t_isImage, .int (tI 3), .int (tI 4), .int (tI 5), .int (tI 6), .ref ad_t_size, .ref ad_t_givenRow, .ref ad_t_givenColumn, .ref ad_t_newRow, .int (tI 11), .int (tI 12), .int (tI 13), .int (tI 14), .int (tI 15), .int (tI 16), .int (tI 17), .int (tI 18), .int (tI 19), .ref ad_t_view, .int (tI 21), .int (tI 22), .int (tI 23), .int (tI 24), .int (tI 25), .long t_value, .int (tI 27), .int (tI 28)])), (ad_t_tape, .inl (G.2.1 0, 300, .inl g13))] H → va_D A [(ad_t, .inr (11, [.ref ad_t_all, .ref ad_t_tape, .ref ad_t_isImage, .int (tI 3), .int (tI 4), .int (tI 5), .int (tI 6), .ref ad_t_size, .ref ad_t_givenRow, .ref ad_t_givenColumn, .ref ad_t_newRow, .int (tI 11), .int (tI 12), .int (tI 13), .int (tI 14), .int (tI 15), .int (tI 16), .int (tI 17), .int (tI 18), .int (tI 19), .ref ad_t_view, .int (tI 21), .int (tI 22), .int (tI 23), .int (tI 24), .int (tI 25), .long t_value, .int (tI 27), .int (tI 28)])), (ad_t_tape, .inl (G.2.1 0, 300, .inl g13))] → va_S A s.heap H locs → fX11_feed_l18 p0 p1 p2 p3 p4 tI n x12 g13 = some y11 → wG p l e 0 0 s m [.ref ad_t, .int p0, .int p1, .int p2, .int p3, .int p4] below meth cd H locs (eQ G A (fun r w => r = (some (.int o.1)) ∧ w = [(ad_t, .inr (11, [.ref ad_t_all, .ref ad_t_tape, .ref ad_t_isImage, .int (o.2.1 3), .int (o.2.1 4), .int (o.2.1 5), .int (o.2.1 6), .ref ad_t_size, .ref ad_t_givenRow, .ref ad_t_givenColumn, .ref ad_t_newRow, .int (o.2.1 11), .int (o.2.1 12), .int (o.2.1 13), .int (o.2.1 14), .int (o.2.1 15), .int (o.2.1 16), .int (o.2.1 17), .int (o.2.1 18), .int (o.2.1 19), .ref ad_t_view, .int (o.2.1 21), .int (o.2.1 22), .int (o.2.1 23), .int (o.2.1 24), .int (o.2.1 25), .long t_value, .int (o.2.1 27), .int (o.2.1 28)])), (ad_t_tape, .inl (G.2.1 0, 300, .inl o.2.2))])) A (F0 m 18 ls []) := by
      intro n
      induction n with
      | zero =>
        intro x12 g13 H locs ls hl hP hD hS hf
        rw [fX11_feed_l18] at hf
        cases hf
      | succ n ih =>
        intro x12 g13 H locs ls hl hP hD hS hf
        rw [fX11_feed_l18] at hf
        refine lv_iload hx hb dX11_feed_18 (lv_at hl 0 rfl) ?_
        refine lv_bipush (v := 20) hx hb dX11_feed_20 (by decide) ?_
        refine lv_icmp_ge (tgt := 108) hx hb dX11_feed_22 (by decide) (fun c14 => ?_) (fun c14 => ?_)
        · have hf := if_t hf c14
          have hf := Option.some.inj hf
          subst hf
          exact Ey11  H locs ls (lv_sub hl [1] rfl) hP hD hS 
        · have hf := if_f hf c14
          refine lv_iload hx hb dX11_feed_25 (lv_at hl 0 rfl) ?_
          refine lv_iconst (v := 4) hx hb dX11_feed_27 (by decide) ?_
          have J16 : wG p l e 0 0 s m [.ref ad_t, .int p0, .int p1, .int p2, .int p3, .int p4] below meth cd H locs (eQ G A (fun r w => r = (some (.int o.1)) ∧ w = [(ad_t, .inr (11, [.ref ad_t_all, .ref ad_t_tape, .ref ad_t_isImage, .int (o.2.1 3), .int (o.2.1 4), .int (o.2.1 5), .int (o.2.1 6), .ref ad_t_size, .ref ad_t_givenRow, .ref ad_t_givenColumn, .ref ad_t_newRow, .int (o.2.1 11), .int (o.2.1 12), .int (o.2.1 13), .int (o.2.1 14), .int (o.2.1 15), .int (o.2.1 16), .int (o.2.1 17), .int (o.2.1 18), .int (o.2.1 19), .ref ad_t_view, .int (o.2.1 21), .int (o.2.1 22), .int (o.2.1 23), .int (o.2.1 24), .int (o.2.1 25), .long t_value, .int (o.2.1 27), .int (o.2.1 28)])), (ad_t_tape, .inl (G.2.1 0, 300, .inl o.2.2))])) A (F0 m 71 ls [.int (if (4 : Int32) ≤ x12 then (if (8 : Int32) ≤ x12 then (if (12 : Int32) ≤ x12 then (if (16 : Int32) ≤ x12 then p4 else p3) else p2) else p1) else p0)]) := by
            refine lv_istore (lv' := [(7, .int (if (4 : Int32) ≤ x12 then (if (8 : Int32) ≤ x12 then (if (12 : Int32) ≤ x12 then (if (16 : Int32) ≤ x12 then p4 else p3) else p2) else p1) else p0)), (6, .int x12), (0, .ref ad_t), (1, .int p0), (2, .int p1), (3, .int p2), (4, .int p3), (5, .int p4)]) hx hb dX11_feed_71 hl (by decide) rfl (fun ls hl => ?_)
            refine lv_aload_n hx hb dX11_feed_73 rfl (lv_at hl 2 rfl) ?_
            refine va_get (D := G.1) (cl := vwCl) (ci := 11) (v := .ref ad_t_tape) (C := RX11) (T := TX11) (N := 29) hx hb hts inG11 hown hK hP 0 rfl rfl 1 (Nat.le_of_ble_eq_true rfl) (hts _ q1042) (fun _ h9 => h9) rfl dX11_feed_74 ?_
            refine lv_aload_n hx hb dX11_feed_77 rfl (lv_at hl 2 rfl) ?_
            refine va_get (D := G.1) (cl := vwCl) (ci := 11) (v := .int (tI 3)) (C := RX11) (T := TX11) (N := 29) hx hb hts inG11 hown hK hP 0 rfl rfl 3 (Nat.le_of_ble_eq_true rfl) (hts _ q1044) (fun _ h9 => h9) rfl dX11_feed_78 ?_
            refine lv_iload hx hb dX11_feed_81 (lv_at hl 1 rfl) ?_
            refine lv_iadd hx hb dX11_feed_83 ?_
            refine lv_iload hx hb dX11_feed_84 (lv_at hl 0 rfl) ?_
            refine lv_bipush (v := 24) hx hb dX11_feed_86 (by decide) ?_
            refine lv_bipush (v := 8) hx hb dX11_feed_88 (by decide) ?_
            refine lv_iload hx hb dX11_feed_90 (lv_at hl 1 rfl) ?_
            refine lv_iconst (v := 3) hx hb dX11_feed_92 (by decide) ?_
            refine lv_iand hx hb dX11_feed_93 ?_
            refine lv_imul hx hb dX11_feed_94 ?_
            refine lv_isub hx hb dX11_feed_95 ?_
            refine lv_ishr hx hb dX11_feed_96 ?_
            refine lv_sipush (v := 255) hx hb dX11_feed_97 (by decide) ?_
            refine lv_iand hx hb dX11_feed_100 ?_
            obtain ⟨h15, hf⟩ := gd_some hf
            refine va_iast (D := G.1) (cl := vwCl) hx hb hK hP hD hS 1 0 rfl rfl (gi_in h15) dX11_feed_101 (fun H locs hP hD hS => ?_)
            have hP : va_P G.1 vwCl [(ad_t, .inr (11, [.ref ad_t_all, .ref ad_t_tape, .ref ad_t_isImage, .int (tI 3), .int (tI 4), .int (tI 5), .int (tI 6), .ref ad_t_size, .ref ad_t_givenRow, .ref ad_t_givenColumn, .ref ad_t_newRow, .int (tI 11), .int (tI 12), .int (tI 13), .int (tI 14), .int (tI 15), .int (tI 16), .int (tI 17), .int (tI 18), .int (tI 19), .ref ad_t_view, .int (tI 21), .int (tI 22), .int (tI 23), .int (tI 24), .int (tI 25), .long t_value, .int (tI 27), .int (tI 28)])), (ad_t_tape, .inl (G.2.1 0, 300, .inl (upd g13 ((tI 3) + x12).toNatClampNeg (((if (4 : Int32) ≤ x12 then (if (8 : Int32) ≤ x12 then (if (12 : Int32) ≤ x12 then (if (16 : Int32) ≤ x12 then p4 else p3) else p2) else p1) else p0) >>> (((24 : Int32) - ((8 : Int32) * (x12 &&& (3 : Int32)))) &&& 31)) &&& (255 : Int32)))))] H := hP
            have hD : va_D A [(ad_t, .inr (11, [.ref ad_t_all, .ref ad_t_tape, .ref ad_t_isImage, .int (tI 3), .int (tI 4), .int (tI 5), .int (tI 6), .ref ad_t_size, .ref ad_t_givenRow, .ref ad_t_givenColumn, .ref ad_t_newRow, .int (tI 11), .int (tI 12), .int (tI 13), .int (tI 14), .int (tI 15), .int (tI 16), .int (tI 17), .int (tI 18), .int (tI 19), .ref ad_t_view, .int (tI 21), .int (tI 22), .int (tI 23), .int (tI 24), .int (tI 25), .long t_value, .int (tI 27), .int (tI 28)])), (ad_t_tape, .inl (G.2.1 0, 300, .inl (upd g13 ((tI 3) + x12).toNatClampNeg (((if (4 : Int32) ≤ x12 then (if (8 : Int32) ≤ x12 then (if (12 : Int32) ≤ x12 then (if (16 : Int32) ≤ x12 then p4 else p3) else p2) else p1) else p0) >>> (((24 : Int32) - ((8 : Int32) * (x12 &&& (3 : Int32)))) &&& 31)) &&& (255 : Int32)))))] := hD
            refine lv_iinc (v := (x12 + (1 : Int32))) (lv' := [(6, .int (x12 + (1 : Int32))), (7, .int (if (4 : Int32) ≤ x12 then (if (8 : Int32) ≤ x12 then (if (12 : Int32) ≤ x12 then (if (16 : Int32) ≤ x12 then p4 else p3) else p2) else p1) else p0)), (0, .ref ad_t), (1, .int p0), (2, .int p1), (3, .int p2), (4, .int p3), (5, .int p4)]) hx hb dX11_feed_102 hl (k := 1) rfl (ii_1 _) (by decide) rfl (fun ls hl => ?_)
            refine lv_goto (tgt := 18) hx hb dX11_feed_105 (by decide) ?_
            exact ih (x12 + (1 : Int32)) (upd g13 ((tI 3) + x12).toNatClampNeg (((if (4 : Int32) ≤ x12 then (if (8 : Int32) ≤ x12 then (if (12 : Int32) ≤ x12 then (if (16 : Int32) ≤ x12 then p4 else p3) else p2) else p1) else p0) >>> (((24 : Int32) - ((8 : Int32) * (x12 &&& (3 : Int32)))) &&& 31)) &&& (255 : Int32))) H locs ls (lv_sub hl [0, 2, 3, 4, 5, 6, 7] rfl) hP hD hS hf
          refine lv_icmp_ge (tgt := 35) hx hb dX11_feed_28 (by decide) (fun c17 => ?_) (fun c17 => ?_)
          · refine lv_iload hx hb dX11_feed_35 (lv_at hl 0 rfl) ?_
            refine lv_bipush (v := 8) hx hb dX11_feed_37 (by decide) ?_
            refine lv_icmp_ge (tgt := 46) hx hb dX11_feed_39 (by decide) (fun c18 => ?_) (fun c18 => ?_)
            · refine lv_iload hx hb dX11_feed_46 (lv_at hl 0 rfl) ?_
              refine lv_bipush (v := 12) hx hb dX11_feed_48 (by decide) ?_
              refine lv_icmp_ge (tgt := 57) hx hb dX11_feed_50 (by decide) (fun c19 => ?_) (fun c19 => ?_)
              · refine lv_iload hx hb dX11_feed_57 (lv_at hl 0 rfl) ?_
                refine lv_bipush (v := 16) hx hb dX11_feed_59 (by decide) ?_
                refine lv_icmp_ge (tgt := 69) hx hb dX11_feed_61 (by decide) (fun c20 => ?_) (fun c20 => ?_)
                · refine lv_iload hx hb dX11_feed_69 (lv_at hl 6 rfl) ?_
                  exact (mgT c20 (mgT c19 (mgT c18 (mgT c17 J16))))
                · refine lv_iload hx hb dX11_feed_64 (lv_at hl 5 rfl) ?_
                  refine lv_goto (tgt := 71) hx hb dX11_feed_66 (by decide) ?_
                  exact (mgF c20 (mgT c19 (mgT c18 (mgT c17 J16))))
              · refine lv_iload_n hx hb dX11_feed_53 rfl (lv_at hl 4 rfl) ?_
                refine lv_goto (tgt := 71) hx hb dX11_feed_54 (by decide) ?_
                exact (mgF c19 (mgT c18 (mgT c17 J16)))
            · refine lv_iload_n hx hb dX11_feed_42 rfl (lv_at hl 3 rfl) ?_
              refine lv_goto (tgt := 71) hx hb dX11_feed_43 (by decide) ?_
              exact (mgF c18 (mgT c17 J16))
          · refine lv_iload_n hx hb dX11_feed_31 rfl (lv_at hl 2 rfl) ?_
            refine lv_goto (tgt := 71) hx hb dX11_feed_32 (by decide) ?_
            exact (mgF c17 J16)
    exact Ly11 FU (0 : Int32) t_tape H locs ls (lv_sub hl [0, 1, 2, 3, 4, 5, 6] rfl) hP hD hS hLy11
  · have hf := if_f hf c10
    refine lv_iconst (v := -1) hx hb dX11_feed_13 (by decide) ?_
    have hf := Option.some.inj hf
    subst hf
    exact eRet hx hb hr hlocks hP hD hS ⟨rfl, rfl⟩ dX11_feed_14

def fX11_end (tI : Nat → Int32) (p0 : Int32) : Option (Int32 × (Nat → Int32)) :=
  (if (bi (fX11_isIn p0 (0 : Int32) (tI 3))) = 0 then some ((-1 : Int32), tI) else some (p0, (upd tI 3 p0)))
set_option maxRecDepth 100000 in
set_option maxHeartbeats 4000000 in
theorem tX11_end (l : Launch) (G : gG) (ad_t ad_t_all ad_t_tape ad_t_isImage ad_t_size ad_t_givenRow ad_t_givenColumn ad_t_newRow ad_t_view : Nat) (tI : Nat → Int32) (t_value : Int64) (p0 : Int32) (o : Int32 × (Nat → Int32)) (hf : fX11_end tI p0 = some o) : mE G l yX11_end cX11_end 2 (some .int) 1 22 0 0 [.ref ad_t, .int p0] [(ad_t, .inr (11, [.ref ad_t_all, .ref ad_t_tape, .ref ad_t_isImage, .int (tI 3), .int (tI 4), .int (tI 5), .int (tI 6), .ref ad_t_size, .ref ad_t_givenRow, .ref ad_t_givenColumn, .ref ad_t_newRow, .int (tI 11), .int (tI 12), .int (tI 13), .int (tI 14), .int (tI 15), .int (tI 16), .int (tI 17), .int (tI 18), .int (tI 19), .ref ad_t_view, .int (tI 21), .int (tI 22), .int (tI 23), .int (tI 24), .int (tI 25), .long t_value, .int (tI 27), .int (tI 28)]))] (fun r w => r = (some (.int o.1)) ∧ w = [(ad_t, .inr (11, [.ref ad_t_all, .ref ad_t_tape, .ref ad_t_isImage, .int (o.2 3), .int (o.2 4), .int (o.2 5), .int (o.2 6), .ref ad_t_size, .ref ad_t_givenRow, .ref ad_t_givenColumn, .ref ad_t_newRow, .int (o.2 11), .int (o.2 12), .int (o.2 13), .int (o.2 14), .int (o.2 15), .int (o.2 16), .int (o.2 17), .int (o.2 18), .int (o.2 19), .ref ad_t_view, .int (o.2 21), .int (o.2 22), .int (o.2 23), .int (o.2 24), .int (o.2 25), .long t_value, .int (o.2 27), .int (o.2 28)]))]) := by
  refine mE_of (by decide) (Nat.le_of_ble_eq_true rfl) ?_
  intro p e s m below meth cd ls A hx hb hml hown hts hr hlocks hnm hl hA hP hD hS hG
  have hK := hG.1
  have hown : s.vm.findClass RX11 = some m.cls := hown
  have hl : lv_has ls 2 [(0, .ref ad_t), (1, .int p0)] := hl
  have hS := hS
  unfold fX11_end at hf
  obtain ⟨H, locs, eH, eL⟩ : ∃ (H : Heap) (locs : List Loc), H = s.heap ∧ locs = [] := ⟨_, _, rfl, rfl⟩
  have hP : va_P G.1 vwCl [(ad_t, .inr (11, [.ref ad_t_all, .ref ad_t_tape, .ref ad_t_isImage, .int (tI 3), .int (tI 4), .int (tI 5), .int (tI 6), .ref ad_t_size, .ref ad_t_givenRow, .ref ad_t_givenColumn, .ref ad_t_newRow, .int (tI 11), .int (tI 12), .int (tI 13), .int (tI 14), .int (tI 15), .int (tI 16), .int (tI 17), .int (tI 18), .int (tI 19), .ref ad_t_view, .int (tI 21), .int (tI 22), .int (tI 23), .int (tI 24), .int (tI 25), .long t_value, .int (tI 27), .int (tI 28)]))] H := eH ▸ hP
  have hS : va_S A s.heap H locs := by rw [eH, eL]; exact hS
  suffices hgo : wG p l e 1 22 s m [.ref ad_t, .int p0] below meth cd H locs (eQ G A (fun r w => r = (some (.int o.1)) ∧ w = [(ad_t, .inr (11, [.ref ad_t_all, .ref ad_t_tape, .ref ad_t_isImage, .int (o.2 3), .int (o.2 4), .int (o.2 5), .int (o.2 6), .ref ad_t_size, .ref ad_t_givenRow, .ref ad_t_givenColumn, .ref ad_t_newRow, .int (o.2 11), .int (o.2 12), .int (o.2 13), .int (o.2 14), .int (o.2 15), .int (o.2 16), .int (o.2 17), .int (o.2 18), .int (o.2 19), .ref ad_t_view, .int (o.2 21), .int (o.2 22), .int (o.2 23), .int (o.2 24), .int (o.2 25), .long t_value, .int (o.2 27), .int (o.2 28)]))])) A (F0 m 0 ls []) by rw [eH, eL] at hgo; exact hgo
  clear eH eL
  refine lv_iload_n hx hb dX11_end_0 rfl (lv_at hl 1 rfl) ?_
  refine lv_iconst (v := 0) hx hb dX11_end_1 (by decide) ?_
  refine lv_aload_n hx hb dX11_end_2 rfl (lv_at hl 0 rfl) ?_
  refine va_get (D := G.1) (cl := vwCl) (ci := 11) (v := .int (tI 3)) (C := RX11) (T := TX11) (N := 29) hx hb hts inG11 hown hK hP 0 rfl rfl 3 (Nat.le_of_ble_eq_true rfl) (hts _ q1044) (fun _ h9 => h9) rfl dX11_end_3 ?_
  refine kPS (tX11_isIn l G p0 (0 : Int32) (tI 3) _ rfl) ⟨hx, hb, hml, hown, hts⟩ q1137 q1138 q108 q1139 okyX11_isIn ⟨Nat.le_of_ble_eq_true rfl, Nat.le_of_ble_eq_true rfl⟩ hP hG hS [] rfl hl.1 rfl (Nat.le_of_ble_eq_true rfl) dX11_end_6 ⟨Nat.zero_le _, Nat.zero_le _⟩ (fun locs hS => ?_)
  refine W.eq (g2 := F0 m 9 ls [.int (bi (fX11_isIn p0 (0 : Int32) (tI 3)))]) rfl ?_
  refine lv_if_ne (tgt := 14) hx hb dX11_end_9 (by decide) (fun c2 => ?_) (fun c2 => ?_)
  · have hf := if_f hf c2
    refine lv_aload_n hx hb dX11_end_14 rfl (lv_at hl 0 rfl) ?_
    refine lv_iload_n hx hb dX11_end_15 rfl (lv_at hl 1 rfl) ?_
    refine va_put (D := G.1) (cl := vwCl) (ci := 11) (v := .int p0) (ty := .int) (C := RX11) (T := TX11) (N := 29) hx hb hts inG11 tyX11 tyX11_ok nmX11 hown hK hP hD hS 0 rfl rfl 3 (Nat.le_of_ble_eq_true rfl) (hts _ q1044) (fun _ h9 => h9) rfl (tyX11_ok 3 (Nat.le_of_ble_eq_true rfl)) rfl rfl (Nat.le_of_ble_eq_true rfl) dX11_end_16 (fun H locs hP hD hS => ?_)
    have hP : va_P G.1 vwCl [(ad_t, .inr (11, [.ref ad_t_all, .ref ad_t_tape, .ref ad_t_isImage, .int p0, .int (tI 4), .int (tI 5), .int (tI 6), .ref ad_t_size, .ref ad_t_givenRow, .ref ad_t_givenColumn, .ref ad_t_newRow, .int (tI 11), .int (tI 12), .int (tI 13), .int (tI 14), .int (tI 15), .int (tI 16), .int (tI 17), .int (tI 18), .int (tI 19), .ref ad_t_view, .int (tI 21), .int (tI 22), .int (tI 23), .int (tI 24), .int (tI 25), .long t_value, .int (tI 27), .int (tI 28)]))] H := hP
    have hD : va_D A [(ad_t, .inr (11, [.ref ad_t_all, .ref ad_t_tape, .ref ad_t_isImage, .int p0, .int (tI 4), .int (tI 5), .int (tI 6), .ref ad_t_size, .ref ad_t_givenRow, .ref ad_t_givenColumn, .ref ad_t_newRow, .int (tI 11), .int (tI 12), .int (tI 13), .int (tI 14), .int (tI 15), .int (tI 16), .int (tI 17), .int (tI 18), .int (tI 19), .ref ad_t_view, .int (tI 21), .int (tI 22), .int (tI 23), .int (tI 24), .int (tI 25), .long t_value, .int (tI 27), .int (tI 28)]))] := hD
    refine lv_iload_n hx hb dX11_end_19 rfl (lv_at hl 1 rfl) ?_
    have hf := Option.some.inj hf
    subst hf
    exact eRet hx hb hr hlocks hP hD hS ⟨rfl, rfl⟩ dX11_end_20
  · have hf := if_t hf c2
    refine lv_iconst (v := -1) hx hb dX11_end_12 (by decide) ?_
    have hf := Option.some.inj hf
    subst hf
    exact eRet hx hb hr hlocks hP hD hS ⟨rfl, rfl⟩ dX11_end_13
