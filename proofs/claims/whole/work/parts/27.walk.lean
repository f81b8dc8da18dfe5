def fX11_again_l41 (x2 : Int32) (t_all : Nat → Int32) : Nat → Int32 → (Nat → Int32) → Option ((Nat → Int32))
  | 0, _, _ => none
  | n + 1, x3, t_tape =>
    (if (300 : Int32) ≤ x3 then some t_tape else gd (gi ((x2 + (4211 : Int32)) + x3) 43047) (gd (gi x3 300) (fX11_again_l41 x2 t_all n (x3 + (1 : Int32)) (upd t_tape x3.toNatClampNeg (t_all ((x2 + (4211 : Int32)) + x3).toNatClampNeg)))))
def fX11_again (tI : Nat → Int32) (t_all : Nat → Int32) (t_tape : Nat → Int32) (t_isImage : Nat → Int32) (p0 : Int32) : Option (Bool × (Nat → Int32) × (Nat → Int32) × (Nat → Int32)) :=
  (if (bi (fX11_isIn p0 (0 : Int32) (2 : Int32))) = 0 then some (false, tI, t_all, t_tape) else gd (gi p0 3) ((if (t_isImage p0.toNatClampNeg) = 0 then some (false, tI, t_all, t_tape) else bn (fX11_copies t_all ((29505 : Int32) + ((4514 : Int32) * p0)) (0 : Int32) (4211 : Int32)) fun a4 => bn (fX11_again_l41 ((29505 : Int32) + ((4514 : Int32) * p0)) a4 FU (0 : Int32) t_tape) fun y9 => gd (gi ((((29505 : Int32) + ((4514 : Int32) * p0)) + (4211 : Int32)) + (300 : Int32)) 43047) (gd (gi (((((29505 : Int32) + ((4514 : Int32) * p0)) + (4211 : Int32)) + (300 : Int32)) + (1 : Int32)) 43047) (gd (gi (((((29505 : Int32) + ((4514 : Int32) * p0)) + (4211 : Int32)) + (300 : Int32)) + (2 : Int32)) 43047) (some (true, (upd (upd (upd (upd tI 3 (a4 ((((29505 : Int32) + ((4514 : Int32) * p0)) + (4211 : Int32)) + (300 : Int32)).toNatClampNeg)) 4 (a4 (((((29505 : Int32) + ((4514 : Int32) * p0)) + (4211 : Int32)) + (300 : Int32)) + (1 : Int32)).toNatClampNeg)) 5 (a4 (((((29505 : Int32) + ((4514 : Int32) * p0)) + (4211 : Int32)) + (300 : Int32)) + (2 : Int32)).toNatClampNeg)) 6 (0 : Int32)), a4, y9)))))))
set_option maxRecDepth 100000 in
set_option maxHeartbeats 4000000 in
theorem tX11_again (l : Launch) (G : gG) (ad_t ad_t_all ad_t_tape ad_t_isImage ad_t_size ad_t_givenRow ad_t_givenColumn ad_t_newRow ad_t_view : Nat) (tI : Nat → Int32) (t_value : Int64) (t_all : Nat → Int32) (t_tape : Nat → Int32) (t_isImage : Nat → Int32) (p0 : Int32) (o : Bool × (Nat → Int32) × (Nat → Int32) × (Nat → Int32)) (hf : fX11_again tI t_all t_tape t_isImage p0 = some o) : mE G l yX11_again cX11_again 4 (some .boolean) 1 24 0 0 [.ref ad_t, .int p0] [(ad_t, .inr (11, [.ref ad_t_all, .ref ad_t_tape, .ref ad_t_isImage, .int (tI 3), .int (tI 4), .int (tI 5), .int (tI 6), .ref ad_t_size, .ref ad_t_givenRow, .ref ad_t_givenColumn, .ref ad_t_newRow, .int (tI 11), .int (tI 12), .int (tI 13), .int (tI 14), .int (tI 15), .int (tI 16), .int (tI 17), .int (tI 18), .int (tI 19), .ref ad_t_view, .int (tI 21), .int (tI 22), .int (tI 23), .int (tI 24), .int (tI 25), .long t_value, .int (tI 27), .int (tI 28)])), (ad_t_all, .inl (G.2.1 0, 43047, .inl t_all)), (ad_t_tape, .inl (G.2.1 0, 300, .inl t_tape)), (ad_t_isImage, .inl (G.2.1 2, 3, .inl t_isImage))] (fun r w => r = (some (.int (bi o.1))) ∧ w = [(ad_t, .inr (11, [.ref ad_t_all, .ref ad_t_tape, .ref ad_t_isImage, .int (o.2.1 3), .int (o.2.1 4), .int (o.2.1 5), .int (o.2.1 6), .ref ad_t_size, .ref ad_t_givenRow, .ref ad_t_givenColumn, .ref ad_t_newRow, .int (o.2.1 11), .int (o.2.1 12), .int (o.2.1 13), .int (o.2.1 14), .int (o.2.1 15), .int (o.2.1 16), .int (o.2.1 17), .int (o.2.1 18), .int (o.2.1 19), .ref ad_t_view, .int (o.2.1 21), .int (o.2.1 22), .int (o.2.1 23), .int (o.2.1 24), .int (o.2.1 25), .long t_value, .int (o.2.1 27), .int (o.2.1 28)])), (ad_t_all, .inl (G.2.1 0, 43047, .inl o.2.2.1)), (ad_t_tape, .inl (G.2.1 0, 300, .inl o.2.2.2)), (ad_t_isImage, .inl (G.2.1 2, 3, .inl t_isImage))]) := by
  refine mE_of (by decide) (Nat.le_of_ble_eq_true rfl) ?_
  intro p e s m below meth cd ls A hx hb hml hown hts hr hlocks hnm hl hA hP hD hS hG
  have hK := hG.1
  have hown : s.vm.findClass RX11 = some m.cls := hown
  have hl : lv_has ls 4 [(0, .ref ad_t), (1, .int p0)] := hl
  have hS := hS
  unfold fX11_again at hf
  obtain ⟨H, locs, eH, eL⟩ : ∃ (H : Heap) (locs : List Loc), H = s.heap ∧ locs = [] := ⟨_, _, rfl, rfl⟩
  have hP : va_P G.1 vwCl [(ad_t, .inr (11, [.ref ad_t_all, .ref ad_t_tape, .ref ad_t_isImage, .int (tI 3), .int (tI 4), .int (tI 5), .int (tI 6), .ref ad_t_size, .ref ad_t_givenRow, .ref ad_t_givenColumn, .ref ad_t_newRow, .int (tI 11), .int (tI 12), .int (tI 13), .int (tI 14), .int (tI 15), .int (tI 16), .int (tI 17), .int (tI 18), .int (tI 19), .ref ad_t_view, .int (tI 21), .int (tI 22), .int (tI 23), .int (tI 24), .int (tI 25), .long t_value, .int (tI 27), .int (tI 28)])), (ad_t_all, .inl (G.2.1 0, 43047, .inl t_all)), (ad_t_tape, .inl (G.2.1 0, 300, .inl t_tape)), (ad_t_isImage, .inl (G.2.1 2, 3, .inl t_isImage))] H := eH ▸ hP
  have hS : va_S A s.heap H locs := by rw [eH, eL]; exact hS
  suffices hgo : wG p l e 1 24 s m [.ref ad_t, .int p0] below meth cd H locs (eQ G A (fun r w => r = (some (.int (bi o.1))) ∧ w = [(ad_t, .inr (11, [.ref ad_t_all, .ref ad_t_tape, .ref ad_t_isImage, .int (o.2.1 3), .int (o.2.1 4), .int (o.2.1 5), .int (o.2.1 6), .ref ad_t_size, .ref ad_t_givenRow, .ref ad_t_givenColumn, .ref ad_t_newRow, .int (o.2.1 11), .int (o.2.1 12), .int (o.2.1 13), .int (o.2.1 14), .int (o.2.1 15), .int (o.2.1 16), .int (o.2.1 17), .int (o.2.1 18), .int (o.2.1 19), .ref ad_t_view, .int (o.2.1 21), .int (o.2.1 22), .int (o.2.1 23), .int (o.2.1 24), .int (o.2.1 25), .long t_value, .int (o.2.1 27), .int (o.2.1 28)])), (ad_t_all, .inl (G.2.1 0, 43047, .inl o.2.2.1)), (ad_t_tape, .inl (G.2.1 0, 300, .inl o.2.2.2)), (ad_t_isImage, .inl (G.2.1 2, 3, .inl t_isImage))])) A (F0 m 0 ls []) by rw [eH, eL] at hgo; exact hgo
  clear eH eL
  refine lv_iload_n hx hb dX11_again_0 rfl (lv_at hl 1 rfl) ?_
  refine lv_iconst (v := 0) hx hb dX11_again_1 (by decide) ?_
  refine lv_iconst (v := 2) hx hb dX11_again_2 (by decide) ?_
  refine kPS (tX11_isIn l G p0 (0 : Int32) (2 : Int32) _ rfl) ⟨hx, hb, hml, hown, hts⟩ q1137 q1138 q108 q1139 okyX11_isIn ⟨Nat.le_of_ble_eq_true rfl, Nat.le_of_ble_eq_true rfl⟩ hP hG hS [] rfl hl.1 rfl (Nat.le_of_ble_eq_true rfl) dX11_again_3 ⟨Nat.zero_le _, Nat.zero_le _⟩ (fun locs hS => ?_)
  refine W.eq (g2 := F0 m 6 ls [.int (bi (fX11_isIn p0 (0 : Int32) (2 : Int32)))]) rfl ?_
  refine lv_if_eq (tgt := 18) hx hb dX11_again_6 (by decide) (fun c13 => ?_) (fun c13 => ?_)
  · have hf := if_t hf c13
    refine lv_iconst (v := 0) hx hb dX11_again_18 (by decide) ?_
    have hf := Option.some.inj hf
    subst hf
    exact eRetZ (v := false) hx hb hr hlocks hP hD hS ⟨rfl, rfl⟩ dX11_again_19
  · have hf := if_f hf c13
    refine lv_aload_n hx hb dX11_again_9 rfl (lv_at hl 0 rfl) ?_
    refine va_get (D := G.1) (cl := vwCl) (ci := 11) (v := .ref ad_t_isImage) (C := RX11) (T := TX11) (N := 29) hx hb hts inG11 hown hK hP 0 rfl rfl 2 (Nat.le_of_ble_eq_true rfl) (hts _ q1043) (fun _ h9 => h9) rfl dX11_again_10 ?_
    refine lv_iload_n hx hb dX11_again_13 rfl (lv_at hl 1 rfl) ?_
    obtain ⟨h14, hf⟩ := gd_some hf
    refine va_zald (D := G.1) (cl := vwCl) hx hb hK hP 3 2 rfl rfl (gi_in h14) dX11_again_14 ?_
    refine lv_if_ne (tgt := 20) hx hb dX11_again_15 (by decide) (fun c15 => ?_) (fun c15 => ?_)
    · have hf := if_f hf c15
      refine lv_sipush (v := 29505) hx hb dX11_again_20 (by decide) ?_
      refine lv_sipush (v := 4514) hx hb dX11_again_23 (by decide) ?_
      refine lv_iload_n hx hb dX11_again_26 rfl (lv_at hl 1 rfl) ?_
      refine lv_imul hx hb dX11_again_27 ?_
      refine lv_iadd hx hb dX11_again_28 ?_
      refine lv_istore_n (lv' := [(2, .int ((29505 : Int32) + ((4514 : Int32) * p0))), (0, .ref ad_t), (1, .int p0)]) hx hb dX11_again_29 rfl hl (by decide) rfl (fun ls hl => ?_)
      refine lv_aload_n hx hb dX11_again_30 rfl (lv_at hl 1 rfl) ?_
      refine lv_iload_n hx hb dX11_again_31 rfl (lv_at hl 0 rfl) ?_
      refine lv_iconst (v := 0) hx hb dX11_again_32 (by decide) ?_
      refine lv_sipush (v := 4211) hx hb dX11_again_33 (by decide) ?_
      obtain ⟨a16, h17, hf⟩ := bn_some hf
      refine kEV (tX11_copies l G ad_t ad_t_all ad_t_tape ad_t_isImage ad_t_size ad_t_givenRow ad_t_givenColumn ad_t_newRow ad_t_view tI t_value t_all ((29505 : Int32) + ((4514 : Int32) * p0)) (0 : Int32) (4211 : Int32) a16 h17) ⟨hx, hb, hml, hown, hts⟩ q1147 q1149 q40 q108 q1150 okyX11_copies ⟨Nat.le_of_ble_eq_true rfl, Nat.le_of_ble_eq_true rfl⟩ hP hD hG hS hA [0, 1] [2, 3] rfl (wr := [(ad_t_tape, .inl (G.2.1 0, 300, .inl t_tape)), (ad_t_isImage, .inl (G.2.1 2, 3, .inl t_isImage))]) rfl (by decide) 0 rfl rfl hl.1 rfl (Nat.le_of_ble_eq_true rfl) dX11_again_36 ⟨Nat.zero_le _, Nat.zero_le _⟩ (fun r w H locs hR hP hD hS => ?_)
      obtain ⟨rfl, rfl⟩ := hR
      have hP : va_P G.1 vwCl [(ad_t_tape, .inl (G.2.1 0, 300, .inl t_tape)), (ad_t_isImage, .inl (G.2.1 2, 3, .inl t_isImage)), (ad_t, .inr (11, [.ref ad_t_all, .ref ad_t_tape, .ref ad_t_isImage, .int (tI 3), .int (tI 4), .int (tI 5), .int (tI 6), .ref ad_t_size, .ref ad_t_givenRow, .ref ad_t_givenColumn, .ref ad_t_newRow, .int (tI 11), .int (tI 12), .int (tI 13), .int (tI 14), .int (tI 15), .int (tI 16), .int (tI 17), .int (tI 18), .int (tI 19), .ref ad_t_view, .int (tI 21), .int (tI 22), .int (tI 23), .int (tI 24), .int (tI 25), .long t_value, .int (tI 27), .int (tI 28)])), (ad_t_all, .inl (G.2.1 0, 43047, .inl a16))] H := hP
      have hD : va_D A [(ad_t_tape, .inl (G.2.1 0, 300, .inl t_tape)), (ad_t_isImage, .inl (G.2.1 2, 3, .inl t_isImage)), (ad_t, .inr (11, [.ref ad_t_all, .ref ad_t_tape, .ref ad_t_isImage, .int (tI 3), .int (tI 4), .int (tI 5), .int (tI 6), .ref ad_t_size, .ref ad_t_givenRow, .ref ad_t_givenColumn, .ref ad_t_newRow, .int (tI 11), .int (tI 12), .int (tI 13), .int (tI 14), .int (tI 15), .int (tI 16), .int (tI 17), .int (tI 18), .int (tI 19), .ref ad_t_view, .int (tI 21), .int (tI 22), .int (tI 23), .int (tI 24), .int (tI 25), .long t_value, .int (tI 27), .int (tI 28)])), (ad_t_all, .inl (G.2.1 0, 43047, .inl a16))] := hD
      refine W.eq (g2 := F0 m 39 ls []) rfl ?_
      refine lv_iconst (v := 0) hx hb dX11_again_39 (by decide) ?_
      refine lv_istore_n (lv' := [(3, .int (0 : Int32)), (2, .int ((29505 : Int32) + ((4514 : Int32) * p0))), (0, .ref ad_t), (1, .int p0)]) hx hb dX11_again_40 rfl hl (by decide) rfl (fun ls hl => ?_)
      obtain ⟨y18, hLy18, hky18⟩ := bn_some hf
      have Ey18 : ∀  (H : Heap) (locs : List Loc) (ls : Array Slot), lv_has ls 4 [(2, .int ((29505 : Int32) + ((4514 : Int32) * p0))), (0, .ref ad_t)] → va_P G.1 vwCl [(ad_t_tape, .inl (G.2.1 0, 300, .inl y18)), (ad_t_isImage, .inl (G.2.1 2, 3, .inl t_isImage)), (ad_t, .inr (11, [.ref ad_t_all, .ref ad_t_tape, .ref ad_t_isImage, .int (tI 3), .int (tI 4), .int (tI 5), .int (tI 6), .ref ad_t_size, .ref ad_t_givenRow, .ref ad_t_givenColumn, .ref ad_t_newRow, .int (tI 11), .int (tI 12), .int (tI 13), .int (tI 14), .int (tI 15), .int (tI 16), .int (tI 17), .int (tI 18), .int (tI 19), .ref ad_t_view, .int (tI 21), .int (tI 22), .int (tI 23), .int (tI 24), .int (tI 25), .long t_value, .int (tI 27), .int (tI 28)])), (ad_t_all, .inl (G.2.1 0, 43047, .inl a16))] H → va_D A [(ad_t_tape, .inl (G.2.1 0, 300, .inl y18)), (ad_t_isImage, .inl (G.2.1 2, 3, .inl t_isImage)), (ad_t, .inr (11, [.ref ad_t_all, .ref ad_t_tape, .ref ad_t_isImage, .int (tI 3), .int (tI 4), .int (tI 5), .int (tI 6), .ref ad_t_size, .ref ad_t_givenRow, .ref ad_t_givenColumn, .ref ad_t_newRow, .int (tI 11), .int (tI 12), .int (tI 13), .int (tI 14), .int (tI 15), .int (tI 16), .int (tI 17), .int (tI 18), .int (tI 19), .ref ad_t_view, .int (tI 21), .int (tI 22), .int (tI 23), .int (tI 24), .int (tI 25), .long t_value, .int (tI 27), .int (tI 28)])), (ad_t_all, .inl (G.2.1 0, 43047, .inl a16))] → va_S A s.heap H locs → wG p l e 1 24 s m [.ref ad_t, .int p0] below meth cd H locs (eQ G A (fun r w => r = (some (.int (bi o.1))) ∧ w = [(ad_t, .inr (11, [.ref ad_t_all, .ref ad_t_tape, .ref ad_t_isImage, .int (o.2.1 3), .int (o.2.1 4), .int (o.2.1 5), .int (o.2.1 6), .ref ad_t_size, .ref ad_t_givenRow, .ref ad_t_givenColumn, .ref ad_t_newRow, .int (o.2.1 11), .int (o.2.1 12), .int (o.2.1 13), .int (o.2.1 14), .int (o.2.1 15), .int (o.2.1 16), .int (o.2.1 17), .int (o.2.1 18), .int (o.2.1 19), .ref ad_t_view, .int (o.2.1 21), .int (o.2.1 22), .int (o.2.1 23), .int (o.2.1 24), .int (o.2.1 25), .long t_value, .int (o.2.1 27), .int (o.2.1 28)])), (ad_t_all, .inl (G.2.1 0, 43047, .inl o.2.2.1)), (ad_t_tape, .inl (G.2.1 0, 300, .inl o.2.2.2)), (ad_t_isImage, .inl (G.2.1 2, 3, .inl t_isImage))])) A (F0 m 72 ls []) := by
        intro  H locs ls hl hP hD hS
        have hf := hky18
        refine lv_aload_n hx hb dX11_again_72 rfl (lv_at hl 1 rfl) ?_
        refine lv_aload_n hx hb dX11_again_73 rfl (lv_at hl 1 rfl) ?_
        refine va_get (D := G.1) (cl := vwCl) (ci := 11) (v := .ref ad_t_all) (C := RX11) (T := TX11) (N := 29) hx hb hts inG11 hown hK hP 2 rfl rfl 0 (Nat.le_of_ble_eq_true rfl) (hts _ q1041) (fun _ h9 => h9) rfl dX11_again_74 ?_
        refine lv_iload_n hx hb dX11_again_77 rfl (lv_at hl 0 rfl) ?_
        refine lv_sipush (v := 4211) hx hb dX11_again_78 (by decide) ?_
        refine lv_iadd hx hb dX11_again_81 ?_
        refine lv_sipush (v := 300) hx hb dX11_again_82 (by decide) ?_
        refine lv_iadd hx hb dX11_again_85 ?_
        obtain ⟨h19, hf⟩ := gd_some hf
        refine va_iald (D := G.1) (cl := vwCl) hx hb hK hP 3 0 rfl rfl (gi_in h19) dX11_again_86 ?_
        refine va_put (D := G.1) (cl := vwCl) (ci := 11) (v := .int (a16 ((((29505 : Int32) + ((4514 : Int32) * p0)) + (4211 : Int32)) + (300 : Int32)).toNatClampNeg)) (ty := .int) (C := RX11) (T := TX11) (N := 29) hx hb hts inG11 tyX11 tyX11_ok nmX11 hown hK hP hD hS 2 rfl rfl 3 (Nat.le_of_ble_eq_true rfl) (hts _ q1044) (fun _ h9 => h9) rfl (tyX11_ok 3 (Nat.le_of_ble_eq_true rfl)) rfl rfl (Nat.le_of_ble_eq_true rfl) dX11_again_87 (fun H locs hP hD hS => ?_)
        have hP : va_P G.1 vwCl [(ad_t_tape, .inl (G.2.1 0, 300, .inl y18)), (ad_t_isImage, .inl (G.2.1 2, 3, .inl t_isImage)), (ad_t, .inr (11, [.ref ad_t_all, .ref ad_t_tape, .ref ad_t_isImage, .int (a16 ((((29505 : Int32) + ((4514 : Int32) * p0)) + (4211 : Int32)) + (300 : Int32)).toNatClampNeg), .int (tI 4), .int (tI 5), .int (tI 6), .ref ad_t_size, .ref ad_t_givenRow, .ref ad_t_givenColumn, .ref ad_t_newRow, .int (tI 11), .int (tI 12), .int (tI 13), .int (tI 14), .int (tI 15), .int (tI 16), .int (tI 17), .int (tI 18), .int (tI 19), .ref ad_t_view, .int (tI 21), .int (tI 22), .int (tI 23), .int (tI 24), .int (tI 25), .long t_value, .int (tI 27), .int (tI 28)])), (ad_t_all, .inl (G.2.1 0, 43047, .inl a16))] H := hP
        have hD : va_D A [(ad_t_tape, .inl (G.2.1 0, 300, .inl y18)), (ad_t_isImage, .inl (G.2.1 2, 3, .inl t_isImage)), (ad_t, .inr (11, [.ref ad_t_all, .ref ad_t_tape, .ref ad_t_isImage, .int (a16 ((((29505 : Int32) + ((4514 : Int32) * p0)) + (4211 : Int32)) + (300 : Int32)).toNatClampNeg), .int (tI 4), .int (tI 5), .int (tI 6), .ref ad_t_size, .ref ad_t_givenRow, .ref ad_t_givenColumn, .ref ad_t_newRow, .int (tI 11), .int (tI 12), .int (tI 13), .int (tI 14), .int (tI 15), .int (tI 16), .int (tI 17), .int (tI 18), .int (tI 19), .ref ad_t_view, .int (tI 21), .int (tI 22), .int (tI 23), .int (tI 24), .int (tI 25), .long t_value, .int (tI 27), .int (tI 28)])), (ad_t_all, .inl (G.2.1 0, 43047, .inl a16))] := hD
        refine lv_aload_n hx hb dX11_again_90 rfl (lv_at hl 1 rfl) ?_
        refine lv_aload_n hx hb dX11_again_91 rfl (lv_at hl 1 rfl) ?_
        refine va_get (D := G.1) (cl := vwCl) (ci := 11) (v := .ref ad_t_all) (C := RX11) (T := TX11) (N := 29) hx hb hts inG11 hown hK hP 2 rfl rfl 0 (Nat.le_of_ble_eq_true rfl) (hts _ q1041) (fun _ h9 => h9) rfl dX11_again_92 ?_
        refine lv_iload_n hx hb dX11_again_95 rfl (lv_at hl 0 rfl) ?_
        refine lv_sipush (v := 4211) hx hb dX11_again_96 (by decide) ?_
        refine lv_iadd hx hb dX11_again_99 ?_
        refine lv_sipush (v := 300) hx hb dX11_again_100 (by decide) ?_
        refine lv_iadd hx hb dX11_again_103 ?_
        refine lv_iconst (v := 1) hx hb dX11_again_104 (by decide) ?_
        refine lv_iadd hx hb dX11_again_105 ?_
        obtain ⟨h20, hf⟩ := gd_some hf
        refine va_iald (D := G.1) (cl := vwCl) hx hb hK hP 3 0 rfl rfl (gi_in h20) dX11_again_106 ?_
        refine va_put (D := G.1) (cl := vwCl) (ci := 11) (v := .int (a16 (((((29505 : Int32) + ((4514 : Int32) * p0)) + (4211 : Int32)) + (300 : Int32)) + (1 : Int32)).toNatClampNeg)) (ty := .int) (C := RX11) (T := TX11) (N := 29) hx hb hts inG11 tyX11 tyX11_ok nmX11 hown hK hP hD hS 2 rfl rfl 4 (Nat.le_of_ble_eq_true rfl) (hts _ q1045) (fun _ h9 => h9) rfl (tyX11_ok 4 (Nat.le_of_ble_eq_true rfl)) rfl rfl (Nat.le_of_ble_eq_true rfl) dX11_again_107 (fun H locs hP hD hS => ?_)
        have hP : va_P G.1 vwCl [(ad_t_tape, .inl (G.2.1 0, 300, .inl y18)), (ad_t_isImage, .inl (G.2.1 2, 3, .inl t_isImage)), (ad_t, .inr (11, [.ref ad_t_all, .ref ad_t_tape, .ref ad_t_isImage, .int (a16 ((((29505 : Int32) + ((4514 : Int32) * p0)) + (4211 : Int32)) + (300 : Int32)).toNatClampNeg), .int (a16 (((((29505 : Int32) + ((4514 : Int32) * p0)) + (4211 : Int32)) + (300 : Int32)) + (1 : Int32)).toNatClampNeg), .int (tI 5), .int (tI 6), .ref ad_t_size, .ref ad_t_givenRow, .ref ad_t_givenColumn, .ref ad_t_newRow, .int (tI 11), .int (tI 12), .int (tI 13), .int (tI 14), .int (tI 15), .int (tI 16), .int (tI 17), .int (tI 18), .int (tI 19), .ref ad_t_view, .int (tI 21), .int (tI 22), .int (tI 23), .int (tI 24), .int (tI 25), .long t_value, .int (tI 27), .int (tI 28)])), (ad_t_all, .inl (G.2.1 0, 43047, .inl a16))] H := hP
        have hD : va_D A [(ad_t_tape, .inl (G.2.1 0, 300, .inl y18)), (ad_t_isImage, .inl (G.2.1 2, 3, .inl t_isImage)), (ad_t, .inr (11, [.ref ad_t_all, .ref ad_t_tape, .ref ad_t_isImage, .int (a16 ((((29505 : Int32) + ((4514 : Int32) * p0)) + (4211 : Int32)) + (300 : Int32)).toNatClampNeg), .int (a16 (((((29505 : Int32) + ((4514 : Int32) * p0)) + (4211 : Int32)) + (300 : Int32)) + (1 : Int32)).toNatClampNeg), .int (tI 5), .int (tI 6), .ref ad_t_size, .ref ad_t_givenRow, .ref ad_t_givenColumn, .ref ad_t_newRow, .int (tI 11), .int (tI 12), .int (tI 13), .int (tI 14), .int (tI 15), .int (tI 16), .int (tI 17), .int (tI 18), .int (tI 19), .ref ad_t_view, .int (tI 21), .int (tI 22), .int (tI 23), .int (tI 24), .int (tI 25), .long t_value, .int (tI 27), .int (tI 28)])), (ad_t_all, .inl (G.2.1 0, 43047, .inl a16))] := hD
        refine lv_aload_n hx hb dX11_again_110 rfl (lv_at hl 1 rfl) ?_
        refine lv_aload_n hx hb dX11_again_111 rfl (lv_at hl 1 rfl) ?_
        refine va_get (D := G.1) (cl := vwCl) (ci := 11) (v := .ref ad_t_all) (C := RX11) (T := TX11) (N := 29) hx hb hts inG11 hown hK hP 2 rfl rfl 0 (Nat.le_of_ble_eq_true rfl) (hts _ q1041) (fun _ h9 => h9) rfl dX11_again_112 ?_
        refine lv_iload_n hx hb dX11_again_115 rfl (lv_at hl 0 rfl) ?_
        refine lv_sipush (v := 4211) hx hb dX11_again_116 (by decide) ?_
        refine lv_iadd hx hb dX11_again_119 ?_
        refine lv_sipush (v := 300) hx hb dX11_again_120 (by decide) ?_
        refine lv_iadd hx hb dX11_again_123 ?_
        refine lv_iconst (v := 2) hx hb dX11_again_124 (by decide) ?_
        refine lv_iadd hx hb dX11_again_125 ?_
        obtain ⟨h21, hf⟩ := gd_some hf
        refine va_iald (D := G.1) (cl := vwCl) hx hb hK hP 3 0 rfl rfl (gi_in h21) dX11_again_126 ?_
        refine va_put (D := G.1) (cl := vwCl) (ci := 11) (v := .int (a16 (((((29505 : Int32) + ((4514 : Int32) * p0)) + (4211 : Int32)) + (300 : Int32)) + (2 : Int32)).toNatClampNeg)) (ty := .int) (C := RX11) (T := TX11) (N := 29) hx hb hts inG11 tyX11 tyX11_ok nmX11 hown hK hP hD hS 2 rfl rfl 5 (Nat.le_of_ble_eq_true rfl) (hts _ q1046) (fun _ h9 => h9) rfl (tyX11_ok 5 (Nat.le_of_ble_eq_true rfl)) rfl rfl (Nat.le_of_ble_eq_true rfl) dX11_again_127 (fun H locs hP hD hS => ?_)
        have hP : va_P G.1 vwCl [(ad_t_tape, .inl (G.2.1 0, 300, .inl y18)), (ad_t_isImage, .inl (G.2.1 2, 3, .inl t_isImage)), (ad_t, .inr (11, [.ref ad_t_all, .ref ad_t_tape, .ref ad_t_isImage, .int (a16 ((((29505 : Int32) + ((4514 : Int32) * p0)) + (4211 : Int32)) + (300 : Int32)).toNatClampNeg), .int (a16 (((((29505 : Int32) + ((4514 : Int32) * p0)) + (4211 : Int32)) + (300 : Int32)) + (1 : Int32)).toNatClampNeg), .int (a16 (((((29505 : Int32) + ((4514 : Int32) * p0)) + (4211 : Int32)) + (300 : Int32)) + (2 : Int32)).toNatClampNeg), .int (tI 6), .ref ad_t_size, .ref ad_t_givenRow, .ref ad_t_givenColumn, .ref ad_t_newRow, .int (tI 11), .int (tI 12), .int (tI 13), .int (tI 14), .int (tI 15), .int (tI 16), .int (tI 17), .int (tI 18), .int (tI 19), .ref ad_t_view, .int (tI 21), .int (tI 22), .int (tI 23), .int (tI 24), .int (tI 25), .long t_value, .int (tI 27), .int (tI 28)])), (ad_t_all, .inl (G.2.1 0, 43047, .inl a16))] H := hP
        have hD : va_D A [(ad_t_tape, .inl (G.2.1 0, 300, .inl y18)), (ad_t_isImage, .inl (G.2.1 2, 3, .inl t_isImage)), (ad_t, .inr (11, [.ref ad_t_all, .ref ad_t_tape, .ref ad_t_isImage, .int (a16 ((((29505 : Int32) + ((4514 : Int32) * p0)) + (4211 : Int32)) + (300 : Int32)).toNatClampNeg), .int (a16 (((((29505 : Int32) + ((4514 : Int32) * p0)) + (4211 : Int32)) + (300 : Int32)) + (1 : Int32)).toNatClampNeg), .int (a16 (((((29505 : Int32) + ((4514 : Int32) * p0)) + (4211 : Int32)) + (300 : Int32)) + (2 : Int32)).toNatClampNeg), .int (tI 6), .ref ad_t_size, .ref ad_t_givenRow, .ref ad_t_givenColumn, .ref ad_t_newRow, .int (tI 11), .int (tI 12), .int (tI 13), .int (tI 14), .int (tI 15), .int (tI 16), .int (tI 17), .int (tI 18), .int (tI 19), .ref ad_t_view, .int (tI 21), .int (tI 22), .int (tI 23), .int (tI 24), .int (tI 25), .long t_value, .int (tI 27), .int (tI 28)])), (ad_t_all, .inl (G.2.1 0, 43047, .inl a16))] := hD
        refine lv_aload_n hx hb dX11_again_130 rfl (lv_at hl 1 rfl) ?_
        refine lv_iconst (v := 0) hx hb dX11_again_131 (by decide) ?_
        refine va_put (D := G.1) (cl := vwCl) (ci := 11) (v := .int (0 : Int32)) (ty := .int) (C := RX11) (T := TX11) (N := 29) hx hb hts inG11 tyX11 tyX11_ok nmX11 hown hK hP hD hS 2 rfl rfl 6 (Nat.le_of_ble_eq_true rfl) (hts _ q1047) (fun _ h9 => h9) rfl (tyX11_ok 6 (Nat.le_of_ble_eq_true rfl)) rfl rfl (Nat.le_of_ble_eq_true rfl) dX11_again_132 (fun H locs hP hD hS => ?_)
        have hP : va_P G.1 vwCl [(ad_t_tape, .inl (G.2.1 0, 300, .inl y18)), (ad_t_isImage, .inl (G.2.1 2, 3, .inl t_isImage)), (ad_t, .inr (11, [.ref ad_t_all, .ref ad_t_tape, .ref ad_t_isImage, .int (a16 ((((29505 : Int32) + ((4514 : Int32) * p0)) + (4211 : Int32)) + (300 : Int32)).toNatClampNeg), .int (a16 (((((29505 : Int32) + ((4514 : Int32) * p0)) + (4211 : Int32)) + (300 : Int32)) + (1 : Int32)).toNatClampNeg), .int (a16 (((((29505 : Int32) + ((4514 : Int32) * p0)) + (4211 : Int32)) + (300 : Int32)) + (2 : Int32)).toNatClampNeg), .int (0 : Int32), .ref ad_t_size, .ref ad_t_givenRow, .ref ad_t_givenColumn, .ref ad_t_newRow, .int (tI 11), .int (tI 12), .int (tI 13), .int (tI 14), .int (tI 15), .int (tI 16), .int (tI 17), .int (tI 18), .int (tI 19), .ref ad_t_view, .int (tI 21), .int (tI 22), .int (tI 23), .int (tI 24), .int (tI 25), .long t_value, .int (tI 27), .int (tI 28)])), (ad_t_all, .inl (G.2.1 0, 43047, .inl a16))] H := hP
        have hD : va_D A [(ad_t_tape, .inl (G.2.1 0, 300, .inl y18)), (ad_t_isImage, .inl (G.2.1 2, 3, .inl t_isImage)), (ad_t, .inr (11, [.ref ad_t_all, .ref ad_t_tape, .ref ad_t_isImage, .int (a16 ((((29505 : Int32) + ((4514 : Int32) * p0)) + (4211 : Int32)) + (300 : Int32)).toNatClampNeg), .int (a16 (((((29505 : Int32) + ((4514 : Int32) * p0)) + (4211 : Int32)) + (300 : Int32)) + (1 : Int32)).toNatClampNeg), .int (a16 (((((29505 : Int32) + ((4514 : Int32) * p0)) + (4211 : Int32)) + (300 : Int32)) + (2 : Int32)).toNatClampNeg), .int (0 : Int32), .ref ad_t_size, .ref ad_t_givenRow, .ref ad_t_givenColumn, .ref ad_t_newRow, .int (tI 11), .int (tI 12), .int (tI 13), .int (tI 14), .int (tI 15), .int (tI 16), .int (tI 17), .int (tI 18), .int (tI 19), .ref ad_t_view, .int (tI 21), .int (tI 22), .int (tI 23), .int (tI 24), .int (tI 25), .long t_value, .int (tI 27), .int (tI 28)])), (ad_t_all, .inl (G.2.1 0, 43047, .inl a16))] := hD
        refine lv_iconst (v := 1) hx hb dX11_again_135 (by decide) ?_
        have hf := Option.some.inj hf
        subst hf
        have hP := hP.sub (ws' := [(ad_t, .inr (11, [.ref ad_t_all, .ref ad_t_tape, .ref ad_t_isImage, .int (a16 ((((29505 : Int32) + ((4514 : Int32) * p0)) + (4211 : Int32)) + (300 : Int32)).toNatClampNeg), .int (a16 (((((29505 : Int32) + ((4514 : Int32) * p0)) + (4211 : Int32)) + (300 : Int32)) + (1 : Int32)).toNatClampNeg), .int (a16 (((((29505 : Int32) + ((4514 : Int32) * p0)) + (4211 : Int32)) + (300 : Int32)) + (2 : Int32)).toNatClampNeg), .int (0 : Int32), .ref ad_t_size, .ref ad_t_givenRow, .ref ad_t_givenColumn, .ref ad_t_newRow, .int (tI 11), .int (tI 12), .int (tI 13), .int (tI 14), .int (tI 15), .int (tI 16), .int (tI 17), .int (tI 18), .int (tI 19), .ref ad_t_view, .int (tI 21), .int (tI 22), .int (tI 23), .int (tI 24), .int (tI 25), .long t_value, .int (tI 27), .int (tI 28)])), (ad_t_all, .inl (G.2.1 0, 43047, .inl a16)), (ad_t_tape, .inl (G.2.1 0, 300, .inl y18)), (ad_t_isImage, .inl (G.2.1 2, 3, .inl t_isImage))]) [2, 3, 0, 1] rfl
        have hD := hD.sub (ws' := [(ad_t, .inr (11, [.ref ad_t_all, .ref ad_t_tape, .ref ad_t_isImage, .int (a16 ((((29505 : Int32) + ((4514 : Int32) * p0)) + (4211 : Int32)) + (300 : Int32)).toNatClampNeg), .int (a16 (((((29505 : Int32) + ((4514 : Int32) * p0)) + (4211 : Int32)) + (300 : Int32)) + (1 : Int32)).toNatClampNeg), .int (a16 (((((29505 : Int32) + ((4514 : Int32) * p0)) + (4211 : Int32)) + (300 : Int32)) + (2 : Int32)).toNatClampNeg), .int (0 : Int32), .ref ad_t_size, .ref ad_t_givenRow, .ref ad_t_givenColumn, .ref ad_t_newRow, .int (tI 11), .int (tI 12), .int (tI 13), .int (tI 14), .int (tI 15), .int (tI 16), .int (tI 17), .int (tI 18), .int (tI 19), .ref ad_t_view, .int (tI 21), .int (tI 22), .int (tI 23), .int (tI 24), .int (tI 25), .long t_value, .int (tI 27), .int (tI 28)])), (ad_t_all, .inl (G.2.1 0, 43047, .inl a16)), (ad_t_tape, .inl (G.2.1 0, 300, .inl y18)), (ad_t_isImage, .inl (G.2.1 2, 3, .inl t_isImage))]) [2, 3, 0, 1] (by decide) rfl
        exact eRetZ (v := true) hx hb hr hlocks hP hD hS ⟨rfl, rfl⟩ dX11_again_136
      have Ly18 : ∀ (n : Nat), ∀ (x22 : Int32) (g23 : Nat → Int32) (H : Heap) (locs : List Loc) (ls : Array Slot), lv_has ls 4 [(3, .int x22), (2, .int ((29505 : Int32) + ((4514 : Int32) * p0))), (0, .ref ad_t)] → va_P G.1 vwCl [(ad_t_tape, .inl (G.2.1 0, 300, .inl g23)), (ad_t_isImage, .inl (G.2.1 2, 3, .inl t_isImage)), (ad_t, .inr (11, [.ref ad_t_all, .ref ad_t_tape, .ref ad_t_isImage, .int (tI 3), .int (tI 4), .int (tI 5), .int (tI 6), .ref ad_t_size, .ref ad_t_givenRow, .ref ad_t_givenColumn, .ref ad_t_newRow, .int (tI 11), .int (tI 12), .int (tI 13), .int (tI 14), .int (tI 15), .int (tI 16), .int (tI 17), .int (tI 18), .int (tI 19), .ref ad_t_view, .int (tI 21), .int (tI 22), .int (tI 23), .int (tI 24), .int (tI 25), .long t_value, .int (tI 27), .int (tI 28)])), (ad_t_all, .inl (G.2.1 0, 43047, .inl a16))] H → va_D A [(ad_t_tape, .inl (G.2.1 0, 300, .inl g23)), (ad_t_isImage, .inl (G.2.1 2, 3, .inl t_isImage)), (ad_t, .inr (11, [.ref ad_t_all, .ref ad_t_tape, .ref ad_t_isImage, .int (tI 3), .int (tI 4), .int (tI 5), .int (tI 6), .ref ad_t_size, .ref ad_t_givenRow, .ref ad_t_givenColumn, .ref ad_t_newRow, .int (tI 11), .int (tI 12), .int (tI 13), .int (tI 14), .int (tI 15), .int (tI 16), .int (tI 17), .int (tI 18), .int (tI 19), .ref ad_t_view, .int (tI 21), .int (tI 22), .int (tI 23), .int (tI 24), .int (tI 25), .long t_value, .int (tI 27), .int (tI 28)])), (ad_t_all, .inl (G.2.1 0, 43047, .inl a16))] → va_S A s.heap H locs → fX11_again_l41 ((29505 : Int32) + ((4514 : Int32) * p0)) a16 n x22 g23 = some y18 → wG p l e 1 24 s m [.ref ad_t, .int p0] below meth cd H locs (eQ G A (fun r w => r = (some (.int (bi o.1))) ∧ w = [(ad_t, .inr (11, [.ref ad_t_all, .ref ad_t_tape, .ref ad_t_isImage, .int (o.2.1 3), .int (o.2.1 4), .int (o.2.1 5), .int (o.2.1 6), .ref ad_t_size, .ref ad_t_givenRow, .ref ad_t_givenColumn, .ref ad_t_newRow, .int (o.2.1 11), .int (o.2.1 12), .int (o.2.1 13), .int (o.2.1 14), .int (o.2.1 15), .int (o.2.1 16), .int (o.2.1 17), .int (o.2.1 18), .int (o.2.1 19), .ref ad_t_view, .int (o.2.1 21), .int (o.2.1 22), .int (o.2.1 23), .int (o.2.1 24), .int (o.2.1 25), .long t_value, .int (o.2.1 27), .int (o.2.1 28)])), (ad_t_all, .inl (G.2.1 0, 43047, .inl o.2.2.1)), (ad_t_tape, .inl (G.2.1 0, 300, .inl o.2.2.2)), (ad_t_isImage, .inl (G.2.1 2, 3, .inl t_isImage))])) A (F0 m 41 ls []) := by
        intro n
        induction n with
        | zero =>
          intro x22 g23 H locs ls hl hP hD hS hf
          rw [fX11_again_l41] at hf
          cases hf
        | succ n ih =>
          intro x22 g23 H locs ls hl hP hD hS hf
          rw [fX11_again_l41] at hf
          refine lv_iload_n hx hb dX11_again_41 rfl (lv_at hl 0 rfl) ?_
          refine lv_sipush (v := 300) hx hb dX11_again_42 (by decide) ?_
          refine lv_icmp_ge (tgt := 72) hx hb dX11_again_45 (by decide) (fun c24 => ?_) (fun c24 => ?_)
          · have hf := if_t hf c24
            have hf := Option.some.inj hf
            subst hf
            exact Ey18  H locs ls (lv_sub hl [1, 2] rfl) hP hD hS 
          · have hf := if_f hf c24
            refine lv_aload_n hx hb dX11_again_48 rfl (lv_at hl 2 rfl) ?_
            refine va_get (D := G.1) (cl := vwCl) (ci := 11) (v := .ref ad_t_tape) (C := RX11) (T := TX11) (N := 29) hx hb hts inG11 hown hK hP 2 rfl rfl 1 (Nat.le_of_ble_eq_true rfl) (hts _ q1042) (fun _ h9 => h9) rfl dX11_again_49 ?_
            refine lv_iload_n hx hb dX11_again_52 rfl (lv_at hl 0 rfl) ?_
            refine lv_aload_n hx hb dX11_again_53 rfl (lv_at hl 2 rfl) ?_
            refine va_get (D := G.1) (cl := vwCl) (ci := 11) (v := .ref ad_t_all) (C := RX11) (T := TX11) (N := 29) hx hb hts inG11 hown hK hP 2 rfl rfl 0 (Nat.le_of_ble_eq_true rfl) (hts _ q1041) (fun _ h9 => h9) rfl dX11_again_54 ?_
            refine lv_iload_n hx hb dX11_again_57 rfl (lv_at hl 1 rfl) ?_
            refine lv_sipush (v := 4211) hx hb dX11_again_58 (by decide) ?_
            refine lv_iadd hx hb dX11_again_61 ?_
            refine lv_iload_n hx hb dX11_again_62 rfl (lv_at hl 0 rfl) ?_
            refine lv_iadd hx hb dX11_again_63 ?_
            obtain ⟨h25, hf⟩ := gd_some hf
            refine va_iald (D := G.1) (cl := vwCl) hx hb hK hP 3 0 rfl rfl (gi_in h25) dX11_again_64 ?_
            obtain ⟨h26, hf⟩ := gd_some hf
            refine va_iast (D := G.1) (cl := vwCl) hx hb hK hP hD hS 0 0 rfl rfl (gi_in h26) dX11_again_65 (fun H locs hP hD hS => ?_)
            have hP : va_P G.1 vwCl [(ad_t_tape, .inl (G.2.1 0, 300, .inl (upd g23 x22.toNatClampNeg (a16 ((((29505 : Int32) + ((4514 : Int32) * p0)) + (4211 : Int32)) + x22).toNatClampNeg)))), (ad_t_isImage, .inl (G.2.1 2, 3, .inl t_isImage)), (ad_t, .inr (11, [.ref ad_t_all, .ref ad_t_tape, .ref ad_t_isImage, .int (tI 3), .int (tI 4), .int (tI 5), .int (tI 6), .ref ad_t_size, .ref ad_t_givenRow, .ref ad_t_givenColumn, .ref ad_t_newRow, .int (tI 11), .int (tI 12), .int (tI 13), .int (tI 14), .int (tI 15), .int (tI 16), .int (tI 17), .int (tI 18), .int (tI 19), .ref ad_t_view, .int (tI 21), .int (tI 22), .int (tI 23), .int (tI 24), .int (tI 25), .long t_value, .int (tI 27), .int (tI 28)])), (ad_t_all, .inl (G.2.1 0, 43047, .inl a16))] H := hP
            have hD : va_D A [(ad_t_tape, .inl (G.2.1 0, 300, .inl (upd g23 x22.toNatClampNeg (a16 ((((29505 : Int32) + ((4514 : Int32) * p0)) + (4211 : Int32)) + x22).toNatClampNeg)))), (ad_t_isImage, .inl (G.2.1 2, 3, .inl t_isImage)), (ad_t, .inr (11, [.ref ad_t_all, .ref ad_t_tape, .ref ad_t_isImage, .int (tI 3), .int (tI 4), .int (tI 5), .int (tI 6), .ref ad_t_size, .ref ad_t_givenRow, .ref ad_t_givenColumn, .ref ad_t_newRow, .int (tI 11), .int (tI 12), .int (tI 13), .int (tI 14), .int (tI 15), .int (tI 16), .int (tI 17), .int (tI 18), .int (tI 19), .ref ad_t_view, .int (tI 21), .int (tI 22), .int (tI 23), .int (tI 24), .int (tI 25), .long t_value, .int (tI 27), .int (tI 28)])), (ad_t_all, .inl (G.2.1 0, 43047, .inl a16))] := hD
            refine lv_iinc (v := (x22 + (1 : Int32))) (lv' := [(3, .int (x22 + (1 : Int32))), (2, .int ((29505 : Int32) + ((4514 : Int32) * p0))), (0, .ref ad_t)]) hx hb dX11_again_66 hl (k := 0) rfl (ii_1 _) (by decide) rfl (fun ls hl => ?_)
            refine lv_goto (tgt := 41) hx hb dX11_again_69 (by decide) ?_
            exact ih (x22 + (1 : Int32)) (upd g23 x22.toNatClampNeg (a16 ((((29505 : Int32) + ((4514 : Int32) * p0)) + (4211 : Int32)) + x22).toNatClampNeg)) H locs ls (lv_sub hl [0, 1, 2] rfl) hP hD hS hf
      exact Ly18 FU (0 : Int32) t_tape H locs ls (lv_sub hl [0, 1, 2] rfl) hP hD hS hLy18
    · have hf := if_t hf c15
      refine lv_iconst (v := 0) hx hb dX11_again_18 (by decide) ?_
      have hf := Option.some.inj hf
      subst hf
      exact eRetZ (v := false) hx hb hr hlocks hP hD hS ⟨rfl, rfl⟩ dX11_again_19

def fX0_wordIn (t_words : Nat → Int32) (p0 : Int32) : Option (Int32) :=
  (if p0 < 0 then some (0 : Int32) else (if (1056 : Int32) ≤ p0 then some (0 : Int32) else gd (gi p0 1056) (some (t_words p0.toNatClampNeg))))
set_option maxRecDepth 100000 in
set_option maxHeartbeats 4000000 in
theorem tX0_wordIn (l : Launch) (G : gG) (ad_t ad_t_spec ad_t_words ad_t_spares : Nat) (t_words : Nat → Int32) (p0 : Int32) (o : Int32) (hf : fX0_wordIn t_words p0 = some o) : mP G l yX0_wordIn cX0_wordIn 2 (some .int) 0 0 [.ref ad_t, .int p0] [(ad_t, .inr (0, [.ref ad_t_spec, .ref ad_t_words, .ref ad_t_spares])), (ad_t_words, .inl (G.2.1 0, 1056, .inl t_words))] (some (.int o)) := by
  refine mP_of (by decide) (Nat.le_of_ble_eq_true rfl) ?_
  intro p e s m below meth cd ls hx hb hml hown hts hr hlocks hl hP hG
  have hK := hG.1
  have hown : s.vm.findClass RX0 = some m.cls := hown
  have hl : lv_has ls 2 [(0, .ref ad_t), (1, .int p0)] := hl
  have hS : va_S no s.heap s.heap [] := va_S.rf
  generalize ([] : List Loc) = locs at hS ⊢
  unfold fX0_wordIn at hf
  show wG p l e 0 0 s m [.ref ad_t, .int p0] below meth cd s.heap locs (pQ (some (.int o))) no (F0 m 0 ls [])
  refine lv_iload_n hx hb dX0_wordIn_0 rfl (lv_at hl 1 rfl) ?_
  refine lv_if_lt (tgt := 20) hx hb dX0_wordIn_1 (by decide) (fun c7 => ?_) (fun c7 => ?_)
  · have hf := if_t hf c7
    refine lv_iconst (v := 0) hx hb dX0_wordIn_20 (by decide) ?_
    have hf := Option.some.inj hf
    subst hf
    exact pRet hx hb hr hlocks hS dX0_wordIn_21
  · have hf := if_f hf c7
    refine lv_iload_n hx hb dX0_wordIn_4 rfl (lv_at hl 1 rfl) ?_
    refine lv_sipush (v := 1056) hx hb dX0_wordIn_5 (by decide) ?_
    refine lv_icmp_ge (tgt := 20) hx hb dX0_wordIn_8 (by decide) (fun c8 => ?_) (fun c8 => ?_)
    · have hf := if_t hf c8
      refine lv_iconst (v := 0) hx hb dX0_wordIn_20 (by decide) ?_
      have hf := Option.some.inj hf
      subst hf
      exact pRet hx hb hr hlocks hS dX0_wordIn_21
    · have hf := if_f hf c8
      refine lv_aload_n hx hb dX0_wordIn_11 rfl (lv_at hl 0 rfl) ?_
      refine va_get (D := G.1) (cl := vwCl) (ci := 0) (v := .ref ad_t_words) (C := RX0) (T := TX0) (N := 3) hx hb hts inG0 hown hK hP 0 rfl rfl 1 (Nat.le_of_ble_eq_true rfl) (hts _ q190) (fun _ h9 => h9) rfl dX0_wordIn_12 ?_
      refine lv_iload_n hx hb dX0_wordIn_15 rfl (lv_at hl 1 rfl) ?_
      obtain ⟨h9, hf⟩ := gd_some hf
      refine va_iald (D := G.1) (cl := vwCl) hx hb hK hP 1 0 rfl rfl (gi_in h9) dX0_wordIn_16 ?_
      refine lv_goto (tgt := 21) hx hb dX0_wordIn_17 (by decide) ?_
      have hf := Option.some.inj hf
      subst hf
      exact pRet hx hb hr hlocks hS dX0_wordIn_21

def fX0_putWordIn (t_words : Nat → Int32) (p0 : Int32) (p1 : Int32) : Option ((Nat → Int32)) :=
  (if p0 < 0 then some t_words else (if (1056 : Int32) ≤ p0 then some t_words else gd (gi p0 1056) (some (upd t_words p0.toNatClampNeg p1))))
set_option maxRecDepth 100000 in
set_option maxHeartbeats 4000000 in
theorem tX0_putWordIn (l : Launch) (G : gG) (ad_t ad_t_spec ad_t_words ad_t_spares : Nat) (t_words : Nat → Int32) (p0 : Int32) (p1 : Int32) (o : (Nat → Int32)) (hf : fX0_putWordIn t_words p0 p1 = some o) : mE G l yX0_putWordIn cX0_putWordIn 3 none 0 0 0 0 [.ref ad_t, .int p0, .int p1] [(ad_t, .inr (0, [.ref ad_t_spec, .ref ad_t_words, .ref ad_t_spares])), (ad_t_words, .inl (G.2.1 0, 1056, .inl t_words))] (fun r w => r = none ∧ w = [(ad_t, .inr (0, [.ref ad_t_spec, .ref ad_t_words, .ref ad_t_spares])), (ad_t_words, .inl (G.2.1 0, 1056, .inl o))]) := by
  refine mE_of (by decide) (Nat.le_of_ble_eq_true rfl) ?_
  intro p e s m below meth cd ls A hx hb hml hown hts hr hlocks hnm hl hA hP hD hS hG
  have hK := hG.1
  have hown : s.vm.findClass RX0 = some m.cls := hown
  have hl : lv_has ls 3 [(0, .ref ad_t), (1, .int p0), (2, .int p1)] := hl
  have hS := hS
  unfold fX0_putWordIn at hf
  obtain ⟨H, locs, eH, eL⟩ : ∃ (H : Heap) (locs : List Loc), H = s.heap ∧ locs = [] := ⟨_, _, rfl, rfl⟩
  have hP : va_P G.1 vwCl [(ad_t, .inr (0, [.ref ad_t_spec, .ref ad_t_words, .ref ad_t_spares])), (ad_t_words, .inl (G.2.1 0, 1056, .inl t_words))] H := eH ▸ hP
  have hS : va_S A s.heap H locs := by rw [eH, eL]; exact hS
  suffices hgo : wG p l e 0 0 s m [.ref ad_t, .int p0, .int p1] below meth cd H locs (eQ G A (fun r w => r = none ∧ w = [(ad_t, .inr (0, [.ref ad_t_spec, .ref ad_t_words, .ref ad_t_spares])), (ad_t_words, .inl (G.2.1 0, 1056, .inl o))])) A (F0 m 0 ls []) by rw [eH, eL] at hgo; exact hgo
  clear eH eL
  refine lv_iload_n hx hb dX0_putWordIn_0 rfl (lv_at hl 1 rfl) ?_
  refine lv_if_lt (tgt := 18) hx hb dX0_putWordIn_1 (by decide) (fun c4 => ?_) (fun c4 => ?_)
  · have hf := if_t hf c4
    have hf := Option.some.inj hf
    subst hf
    exact eRetV hx hb hr hlocks hP hD hS ⟨rfl, rfl⟩ dX0_putWordIn_18
  · have hf := if_f hf c4
    refine lv_iload_n hx hb dX0_putWordIn_4 rfl (lv_at hl 1 rfl) ?_
    refine lv_sipush (v := 1056) hx hb dX0_putWordIn_5 (by decide) ?_
    refine lv_icmp_ge (tgt := 18) hx hb dX0_putWordIn_8 (by decide) (fun c5 => ?_) (fun c5 => ?_)
    · have hf := if_t hf c5
      have hf := Option.some.inj hf
      subst hf
      exact eRetV hx hb hr hlocks hP hD hS ⟨rfl, rfl⟩ dX0_putWordIn_18
    · have hf := if_f hf c5
      refine lv_aload_n hx hb dX0_putWordIn_11 rfl (lv_at hl 0 rfl) ?_
      refine va_get (D := G.1) (cl := vwCl) (ci := 0) (v := .ref ad_t_words) (C := RX0) (T := TX0) (N := 3) hx hb hts inG0 hown hK hP 0 rfl rfl 1 (Nat.le_of_ble_eq_true rfl) (hts _ q190) (fun _ h9 => h9) rfl dX0_putWordIn_12 ?_
      refine lv_iload_n hx hb dX0_putWordIn_15 rfl (lv_at hl 1 rfl) ?_
      refine lv_iload_n hx hb dX0_putWordIn_16 rfl (lv_at hl 2 rfl) ?_
      obtain ⟨h6, hf⟩ := gd_some hf
      refine va_iast (D := G.1) (cl := vwCl) hx hb hK hP hD hS 1 0 rfl rfl (gi_in h6) dX0_putWordIn_17 (fun H locs hP hD hS => ?_)
      have hP : va_P G.1 vwCl [(ad_t, .inr (0, [.ref ad_t_spec, .ref ad_t_words, .ref ad_t_spares])), (ad_t_words, .inl (G.2.1 0, 1056, .inl (upd t_words p0.toNatClampNeg p1)))] H := hP
      have hD : va_D A [(ad_t, .inr (0, [.ref ad_t_spec, .ref ad_t_words, .ref ad_t_spares])), (ad_t_words, .inl (G.2.1 0, 1056, .inl (upd t_words p0.toNatClampNeg p1)))] := hD
      have hf := Option.some.inj hf
      subst hf
      exact eRetV hx hb hr hlocks hP hD hS ⟨rfl, rfl⟩ dX0_putWordIn_18

def fX0_spareBit (t_spares : Nat → Int32) (p0 : Int32) (p1 : Int32) : Option (Int32) :=
  (if ((p0 * (2 : Int32)) + p1) < 0 then some (0 : Int32) else (if (33 : Int32) ≤ (((p0 * (2 : Int32)) + p1) >>> ((5 : Int32) &&& 31)) then some (0 : Int32) else gd (gi (((p0 * (2 : Int32)) + p1) >>> ((5 : Int32) &&& 31)) 33) (some ((ush (t_spares (((p0 * (2 : Int32)) + p1) >>> ((5 : Int32) &&& 31)).toNatClampNeg) (((p0 * (2 : Int32)) + p1) &&& (31 : Int32))) &&& (1 : Int32)))))
set_option maxRecDepth 100000 in
set_option maxHeartbeats 4000000 in
theorem tX0_spareBit (l : Launch) (G : gG) (ad_t ad_t_spec ad_t_words ad_t_spares : Nat) (t_spares : Nat → Int32) (p0 : Int32) (p1 : Int32) (o : Int32) (hf : fX0_spareBit t_spares p0 p1 = some o) : mP G l yX0_spareBit cX0_spareBit 4 (some .int) 0 0 [.ref ad_t, .int p0, .int p1] [(ad_t, .inr (0, [.ref ad_t_spec, .ref ad_t_words, .ref ad_t_spares])), (ad_t_spares, .inl (G.2.1 0, 33, .inl t_spares))] (some (.int o)) := by
  refine mP_of (by decide) (Nat.le_of_ble_eq_true rfl) ?_
  intro p e s m below meth cd ls hx hb hml hown hts hr hlocks hl hP hG
  have hK := hG.1
  have hown : s.vm.findClass RX0 = some m.cls := hown
  have hl : lv_has ls 4 [(0, .ref ad_t), (1, .int p0), (2, .int p1)] := hl
  have hS : va_S no s.heap s.heap [] := va_S.rf
  generalize ([] : List Loc) = locs at hS ⊢
  unfold fX0_spareBit at hf
  show wG p l e 0 0 s m [.ref ad_t, .int p0, .int p1] below meth cd s.heap locs (pQ (some (.int o))) no (F0 m 0 ls [])
  refine lv_iload_n hx hb dX0_spareBit_0 rfl (lv_at hl 1 rfl) ?_
  refine lv_iconst (v := 2) hx hb dX0_spareBit_1 (by decide) ?_
  refine lv_imul hx hb dX0_spareBit_2 ?_
  refine lv_iload_n hx hb dX0_spareBit_3 rfl (lv_at hl 2 rfl) ?_
  refine lv_iadd hx hb dX0_spareBit_4 ?_
  refine lv_istore_n (lv' := [(3, .int ((p0 * (2 : Int32)) + p1)), (0, .ref ad_t), (1, .int p0), (2, .int p1)]) hx hb dX0_spareBit_5 rfl hl (by decide) rfl (fun ls hl => ?_)
  refine lv_iload_n hx hb dX0_spareBit_6 rfl (lv_at hl 0 rfl) ?_
  refine lv_if_lt (tgt := 36) hx hb dX0_spareBit_7 (by decide) (fun c7 => ?_) (fun c7 => ?_)
  · have hf := if_t hf c7
    refine lv_iconst (v := 0) hx hb dX0_spareBit_36 (by decide) ?_
    have hf := Option.some.inj hf
    subst hf
    exact pRet hx hb hr hlocks hS dX0_spareBit_37
  · have hf := if_f hf c7
    refine lv_iload_n hx hb dX0_spareBit_10 rfl (lv_at hl 0 rfl) ?_
    refine lv_iconst (v := 5) hx hb dX0_spareBit_11 (by decide) ?_
    refine lv_ishr hx hb dX0_spareBit_12 ?_
    refine lv_bipush (v := 33) hx hb dX0_spareBit_13 (by decide) ?_
    refine lv_icmp_ge (tgt := 36) hx hb dX0_spareBit_15 (by decide) (fun c8 => ?_) (fun c8 => ?_)
    · have hf := if_t hf c8
      refine lv_iconst (v := 0) hx hb dX0_spareBit_36 (by decide) ?_
      have hf := Option.some.inj hf
      subst hf
      exact pRet hx hb hr hlocks hS dX0_spareBit_37
    · have hf := if_f hf c8
      refine lv_aload_n hx hb dX0_spareBit_18 rfl (lv_at hl 1 rfl) ?_
      refine va_get (D := G.1) (cl := vwCl) (ci := 0) (v := .ref ad_t_spares) (C := RX0) (T := TX0) (N := 3) hx hb hts inG0 hown hK hP 0 rfl rfl 2 (Nat.le_of_ble_eq_true rfl) (hts _ q191) (fun _ h9 => h9) rfl dX0_spareBit_19 ?_
      refine lv_iload_n hx hb dX0_spareBit_22 rfl (lv_at hl 0 rfl) ?_
      refine lv_iconst (v := 5) hx hb dX0_spareBit_23 (by decide) ?_
      refine lv_ishr hx hb dX0_spareBit_24 ?_
      obtain ⟨h9, hf⟩ := gd_some hf
      refine va_iald (D := G.1) (cl := vwCl) hx hb hK hP 1 0 rfl rfl (gi_in h9) dX0_spareBit_25 ?_
      refine lv_iload_n hx hb dX0_spareBit_26 rfl (lv_at hl 0 rfl) ?_
      refine lv_bipush (v := 31) hx hb dX0_spareBit_27 (by decide) ?_
      refine lv_iand hx hb dX0_spareBit_29 ?_
      refine lv_iushr (v := ush (t_spares (((p0 * (2 : Int32)) + p1) >>> ((5 : Int32) &&& 31)).toNatClampNeg) (((p0 * (2 : Int32)) + p1) &&& (31 : Int32))) hx hb dX0_spareBit_30 rfl ?_
      refine lv_iconst (v := 1) hx hb dX0_spareBit_31 (by decide) ?_
      refine lv_iand hx hb dX0_spareBit_32 ?_
      refine lv_goto (tgt := 37) hx hb dX0_spareBit_33 (by decide) ?_
      have hf := Option.some.inj hf
      subst hf
      exact pRet hx hb hr hlocks hS dX0_spareBit_37

def fX0_withBit (p0 : Int32) (p1 : Int32) (p2 : Int32) : Int32 :=
  ((p0 &&& (((1 : Int32) <<< (p1 &&& 31)) ^^^ (-1 : Int32))) ||| (p2 <<< (p1 &&& 31)))
set_option maxRecDepth 100000 in
set_option maxHeartbeats 4000000 in
theorem tX0_withBit (l : Launch) (G : gG) (p0 : Int32) (p1 : Int32) (p2 : Int32) (o : Int32) (hf : fX0_withBit p0 p1 p2 = o) : mP G l yX0_withBit cX0_withBit 3 (some .int) 0 0 [.int p0, .int p1, .int p2] [] (some (.int o)) := by
  refine mP_of (by decide) (Nat.le_of_ble_eq_true rfl) ?_
  intro p e s m below meth cd ls hx hb hml hown hts hr hlocks hl hP hG
  have hK := hG.1
  have hown : s.vm.findClass RX0 = some m.cls := hown
  have hl : lv_has ls 3 [(0, .int p0), (1, .int p1), (2, .int p2)] := hl
  have hS : va_S no s.heap s.heap [] := va_S.rf
  generalize ([] : List Loc) = locs at hS ⊢
  unfold fX0_withBit at hf
  show wG p l e 0 0 s m [.int p0, .int p1, .int p2] below meth cd s.heap locs (pQ (some (.int o))) no (F0 m 0 ls [])
  refine lv_iload_n hx hb dX0_withBit_0 rfl (lv_at hl 0 rfl) ?_
  refine lv_iconst (v := 1) hx hb dX0_withBit_1 (by decide) ?_
  refine lv_iload_n hx hb dX0_withBit_2 rfl (lv_at hl 1 rfl) ?_
  refine lv_ishl hx hb dX0_withBit_3 ?_
  refine lv_iconst (v := -1) hx hb dX0_withBit_4 (by decide) ?_
  refine lv_ixor hx hb dX0_withBit_5 ?_
  refine lv_iand hx hb dX0_withBit_6 ?_
  refine lv_iload_n hx hb dX0_withBit_7 rfl (lv_at hl 2 rfl) ?_
  refine lv_iload_n hx hb dX0_withBit_8 rfl (lv_at hl 1 rfl) ?_
  refine lv_ishl hx hb dX0_withBit_9 ?_
  refine lv_ior hx hb dX0_withBit_10 ?_
  subst hf
  exact pRet hx hb hr hlocks hS dX0_withBit_11

def fX1_forget (tI : Nat → Int32) : Option ((Nat → Int32)) :=
  some (upd tI 2 (0 : Int32))
set_option maxRecDepth 100000 in
set_option maxHeartbeats 4000000 in
theorem tX1_forget (l : Launch) (G : gG) (ad_t ad_t_ring : Nat) (tI : Nat → Int32) (o : (Nat → Int32)) (hf : fX1_forget tI = some o) : mE G l yX1_forget cX1_forget 1 none 0 0 0 0 [.ref ad_t] [(ad_t, .inr (1, [.ref ad_t_ring, .int (tI 1), .int (tI 2)]))] (fun r w => r = none ∧ w = [(ad_t, .inr (1, [.ref ad_t_ring, .int (o 1), .int (o 2)]))]) := by
  refine mE_of (by decide) (Nat.le_of_ble_eq_true rfl) ?_
  intro p e s m below meth cd ls A hx hb hml hown hts hr hlocks hnm hl hA hP hD hS hG
  have hK := hG.1
  have hown : s.vm.findClass RX1 = some m.cls := hown
  have hl : lv_has ls 1 [(0, .ref ad_t)] := hl
  have hS := hS
  unfold fX1_forget at hf
  obtain ⟨H, locs, eH, eL⟩ : ∃ (H : Heap) (locs : List Loc), H = s.heap ∧ locs = [] := ⟨_, _, rfl, rfl⟩
  have hP : va_P G.1 vwCl [(ad_t, .inr (1, [.ref ad_t_ring, .int (tI 1), .int (tI 2)]))] H := eH ▸ hP
  have hS : va_S A s.heap H locs := by rw [eH, eL]; exact hS
  suffices hgo : wG p l e 0 0 s m [.ref ad_t] below meth cd H locs (eQ G A (fun r w => r = none ∧ w = [(ad_t, .inr (1, [.ref ad_t_ring, .int (o 1), .int (o 2)]))])) A (F0 m 0 ls []) by rw [eH, eL] at hgo; exact hgo
  clear eH eL
  refine lv_aload_n hx hb dX1_forget_0 rfl (lv_at hl 0 rfl) ?_
  refine lv_iconst (v := 0) hx hb dX1_forget_1 (by decide) ?_
  refine va_put (D := G.1) (cl := vwCl) (ci := 1) (v := .int (0 : Int32)) (ty := .int) (C := RX1) (T := TX1) (N := 3) hx hb hts inG1 tyX1 tyX1_ok nmX1 hown hK hP hD hS 0 rfl rfl 2 (Nat.le_of_ble_eq_true rfl) (hts _ q257) (fun _ h9 => h9) rfl (tyX1_ok 2 (Nat.le_of_ble_eq_true rfl)) rfl rfl (Nat.le_of_ble_eq_true rfl) dX1_forget_2 (fun H locs hP hD hS => ?_)
  have hP : va_P G.1 vwCl [(ad_t, .inr (1, [.ref ad_t_ring, .int (tI 1), .int (0 : Int32)]))] H := hP
  have hD : va_D A [(ad_t, .inr (1, [.ref ad_t_ring, .int (tI 1), .int (0 : Int32)]))] := hD
  have hf := Option.some.inj hf
  subst hf
  exact eRetV hx hb hr hlocks hP hD hS ⟨rfl, rfl⟩ dX1_forget_5

def fX2_note (tI : Nat → Int32) (p0 : Int32) (p1 : Int32) : Option ((Nat → Int32)) :=
  (if (tI 1) = 0 then some (upd (upd tI 1 p0) 2 p1) else some tI)
set_option maxRecDepth 100000 in
set_option maxHeartbeats 4000000 in
theorem tX2_note (l : Launch) (G : gG) (ad_t ad_t_told ad_t_source : Nat) (tI : Nat → Int32) (p0 : Int32) (p1 : Int32) (o : (Nat → Int32)) (hf : fX2_note tI p0 p1 = some o) : mE G l yX2_note cX2_note 3 none 0 0 0 0 [.ref ad_t, .int p0, .int p1] [(ad_t, .inr (2, [.ref ad_t_told, .int (tI 1), .int (tI 2), .ref ad_t_source, .int (tI 4), .int (tI 5), .int (tI 6), .int (tI 7)]))] (fun r w => r = none ∧ w = [(ad_t, .inr (2, [.ref ad_t_told, .int (o 1), .int (o 2), .ref ad_t_source, .int (o 4), .int (o 5), .int (o 6), .int (o 7)]))]) := by
  refine mE_of (by decide) (Nat.le_of_ble_eq_true rfl) ?_
  intro p e s m below meth cd ls A hx hb hml hown hts hr hlocks hnm hl hA hP hD hS hG
  have hK := hG.1
  have hown : s.vm.findClass RX2 = some m.cls := hown
  have hl : lv_has ls 3 [(0, .ref ad_t), (1, .int p0), (2, .int p1)] := hl
  have hS := hS
  unfold fX2_note at hf
  obtain ⟨H, locs, eH, eL⟩ : ∃ (H : Heap) (locs : List Loc), H = s.heap ∧ locs = [] := ⟨_, _, rfl, rfl⟩
  have hP : va_P G.1 vwCl [(ad_t, .inr (2, [.ref ad_t_told, .int (tI 1), .int (tI 2), .ref ad_t_source, .int (tI 4), .int (tI 5), .int (tI 6), .int (tI 7)]))] H := eH ▸ hP
  have hS : va_S A s.heap H locs := by rw [eH, eL]; exact hS
  suffices hgo : wG p l e 0 0 s m [.ref ad_t, .int p0, .int p1] below meth cd H locs (eQ G A (fun r w => r = none ∧ w = [(ad_t, .inr (2, [.ref ad_t_told, .int (o 1), .int (o 2), .ref ad_t_source, .int (o 4), .int (o 5), .int (o 6), .int (o 7)]))])) A (F0 m 0 ls []) by rw [eH, eL] at hgo; exact hgo
  clear eH eL
  refine lv_aload_n hx hb dX2_note_0 rfl (lv_at hl 0 rfl) ?_
  refine va_get (D := G.1) (cl := vwCl) (ci := 2) (v := .int (tI 1)) (C := RX2) (T := TX2) (N := 8) hx hb hts inG2 hown hK hP 0 rfl rfl 1 (Nat.le_of_ble_eq_true rfl) (hts _ q422) (fun _ h9 => h9) rfl dX2_note_1 ?_
  refine lv_if_ne (tgt := 17) hx hb dX2_note_4 (by decide) (fun c2 => ?_) (fun c2 => ?_)
  · have hf := if_f hf c2
    have hf := Option.some.inj hf
    subst hf
    exact eRetV hx hb hr hlocks hP hD hS ⟨rfl, rfl⟩ dX2_note_17
  · have hf := if_t hf c2
    refine lv_aload_n hx hb dX2_note_7 rfl (lv_at hl 0 rfl) ?_
    refine lv_iload_n hx hb dX2_note_8 rfl (lv_at hl 1 rfl) ?_
    refine va_put (D := G.1) (cl := vwCl) (ci := 2) (v := .int p0) (ty := .int) (C := RX2) (T := TX2) (N := 8) hx hb hts inG2 tyX2 tyX2_ok nmX2 hown hK hP hD hS 0 rfl rfl 1 (Nat.le_of_ble_eq_true rfl) (hts _ q422) (fun _ h9 => h9) rfl (tyX2_ok 1 (Nat.le_of_ble_eq_true rfl)) rfl rfl (Nat.le_of_ble_eq_true rfl) dX2_note_9 (fun H locs hP hD hS => ?_)
    have hP : va_P G.1 vwCl [(ad_t, .inr (2, [.ref ad_t_told, .int p0, .int (tI 2), .ref ad_t_source, .int (tI 4), .int (tI 5), .int (tI 6), .int (tI 7)]))] H := hP
    have hD : va_D A [(ad_t, .inr (2, [.ref ad_t_told, .int p0, .int (tI 2), .ref ad_t_source, .int (tI 4), .int (tI 5), .int (tI 6), .int (tI 7)]))] := hD
    refine lv_aload_n hx hb dX2_note_12 rfl (lv_at hl 0 rfl) ?_
    refine lv_iload_n hx hb dX2_note_13 rfl (lv_at hl 2 rfl) ?_
    refine va_put (D := G.1) (cl := vwCl) (ci := 2) (v := .int p1) (ty := .int) (C := RX2) (T := TX2) (N := 8) hx hb hts inG2 tyX2 tyX2_ok nmX2 hown hK hP hD hS 0 rfl rfl 2 (Nat.le_of_ble_eq_true rfl) (hts _ q424) (fun _ h9 => h9) rfl (tyX2_ok 2 (Nat.le_of_ble_eq_true rfl)) rfl rfl (Nat.le_of_ble_eq_true rfl) dX2_note_14 (fun H locs hP hD hS => ?_)
    have hP : va_P G.1 vwCl [(ad_t, .inr (2, [.ref ad_t_told, .int p0, .int p1, .ref ad_t_source, .int (tI 4), .int (tI 5), .int (tI 6), .int (tI 7)]))] H := hP
    have hD : va_D A [(ad_t, .inr (2, [.ref ad_t_told, .int p0, .int p1, .ref ad_t_source, .int (tI 4), .int (tI 5), .int (tI 6), .int (tI 7)]))] := hD
    have hf := Option.some.inj hf
    subst hf
    exact eRetV hx hb hr hlocks hP hD hS ⟨rfl, rfl⟩ dX2_note_17

def fX2_isTold_l34 (x1 : Nat) (tI : Nat → Int32) (t_source_bytes : Nat → Int32) : Nat → Int32 → Option ((Unit) ⊕ (Bool))
  | 0, _ => none
  | n + 1, x2 =>
    gd (decide (x1 < 15)) (bn (fJ0_length_8abf5 x1) fun a6 => (if a6 ≤ x2 then some (.inl ()) else gd (decide (x1 < 15)) (bn (fJ0_charAt_5068e x1 x2) fun a10 => gd (gi ((tI 5) + x2) 300) ((if a10 = (t_source_bytes ((tI 5) + x2).toNatClampNeg) then fX2_isTold_l34 x1 tI t_source_bytes n (x2 + (1 : Int32)) else some (.inr false))))))
def fX2_isTold (tI : Nat → Int32) (t_sourceI : Nat → Int32) (t_source_bytes : Nat → Int32) (p0 : Nat) : Option (Bool) :=
  gd (decide (p0 < 15)) (bn (fJ0_length_8abf5 p0) fun a1 => (if a1 = ((tI 6) - (tI 5)) then (if (tI 6) ≤ (t_sourceI 1) then (bn (fX2_isTold_l34 p0 tI t_source_bytes FU (0 : Int32)) fun y15 => match y15 with | .inl y15z => some true | .inr y15o => some y15o) else some false) else some false))
set_option maxRecDepth 100000 in
set_option maxHeartbeats 4000000 in
theorem tX2_isTold (l : Launch) (G : gG) (ad_t ad_t_told ad_t_source ad_t_source_bytes : Nat) (tI : Nat → Int32) (t_sourceI : Nat → Int32) (t_source_bytes : Nat → Int32) (p0 : Nat) (o : Bool) (hf : fX2_isTold tI t_sourceI t_source_bytes p0 = some o) : mP G l yX2_isTold cX2_isTold 3 (some .boolean) 4 101 [.ref ad_t, .ref (G.2.2.2.1 p0)] [(ad_t, .inr (2, [.ref ad_t_told, .int (tI 1), .int (tI 2), .ref ad_t_source, .int (tI 4), .int (tI 5), .int (tI 6), .int (tI 7)])), (ad_t_source, .inr (7, [.ref ad_t_source_bytes, .int (t_sourceI 1)])), (ad_t_source_bytes, .inl (G.2.1 1, 300, .inl t_source_bytes))] (some (.int (bi o))) := by
  refine mP_of (by decide) (Nat.le_of_ble_eq_true rfl) ?_
  intro p e s m below meth cd ls hx hb hml hown hts hr hlocks hl hP hG
  have hK := hG.1
  have hown : s.vm.findClass RX2 = some m.cls := hown
  have hl : lv_has ls 3 [(0, .ref ad_t), (1, .ref (G.2.2.2.1 p0))] := hl
  have hS : va_S no s.heap s.heap [] := va_S.rf
  generalize ([] : List Loc) = locs at hS ⊢
  unfold fX2_isTold at hf
  show wG p l e 4 101 s m [.ref ad_t, .ref (G.2.2.2.1 p0)] below meth cd s.heap locs (pQ (some (.int (bi o)))) no (F0 m 0 ls [])
  refine lv_aload_n hx hb dX2_isTold_0 rfl (lv_at hl 1 rfl) ?_
  obtain ⟨h18, hf⟩ := gd_some hf
  obtain ⟨a16, h17, hf⟩ := bn_some hf
  refine kPVs (tJ0_length_8abf5 l G p0 a16 h17) ⟨hx, hb, hml, hown, hts⟩ q660 q661 q662 q109 q663 okyJ0_length_8abf5 ⟨Nat.le_of_ble_eq_true rfl, Nat.le_of_ble_eq_true rfl⟩ hP hG hS [] rfl (vk_recv hG.2.2.2.1 (of_decide_eq_true h18) hS) hl.1 rfl (Nat.le_of_ble_eq_true rfl) dX2_isTold_1 ⟨Nat.zero_le _, Nat.zero_le _⟩ (fun locs hS => ?_)
  refine W.eq (g2 := F0 m 4 ls [.int a16]) rfl ?_
  refine lv_aload_n hx hb dX2_isTold_4 rfl (lv_at hl 0 rfl) ?_
  refine va_get (D := G.1) (cl := vwCl) (ci := 2) (v := .int (tI 6)) (C := RX2) (T := TX2) (N := 8) hx hb hts inG2 hown hK hP 0 rfl rfl 6 (Nat.le_of_ble_eq_true rfl) (hts _ q429) (fun _ h9 => h9) rfl dX2_isTold_5 ?_
  refine lv_aload_n hx hb dX2_isTold_8 rfl (lv_at hl 0 rfl) ?_
  refine va_get (D := G.1) (cl := vwCl) (ci := 2) (v := .int (tI 5)) (C := RX2) (T := TX2) (N := 8) hx hb hts inG2 hown hK hP 0 rfl rfl 5 (Nat.le_of_ble_eq_true rfl) (hts _ q428) (fun _ h9 => h9) rfl dX2_isTold_9 ?_
  refine lv_isub hx hb dX2_isTold_12 ?_
  refine lv_icmp_ne (tgt := 30) hx hb dX2_isTold_13 (by decide) (fun c19 => ?_) (fun c19 => ?_)
  · have hf := if_f hf c19
    refine lv_iconst (v := 0) hx hb dX2_isTold_30 (by decide) ?_
    have hf := Option.some.inj hf
    subst hf
    exact pRetZ (v := false) hx hb hr hlocks hS dX2_isTold_31
  · have hf := if_t hf c19
    refine lv_aload_n hx hb dX2_isTold_16 rfl (lv_at hl 0 rfl) ?_
    refine va_get (D := G.1) (cl := vwCl) (ci := 2) (v := .int (tI 6)) (C := RX2) (T := TX2) (N := 8) hx hb hts inG2 hown hK hP 0 rfl rfl 6 (Nat.le_of_ble_eq_true rfl) (hts _ q429) (fun _ h9 => h9) rfl dX2_isTold_17 ?_
    refine lv_aload_n hx hb dX2_isTold_20 rfl (lv_at hl 0 rfl) ?_
    refine va_get (D := G.1) (cl := vwCl) (ci := 2) (v := .ref ad_t_source) (C := RX2) (T := TX2) (N := 8) hx hb hts inG2 hown hK hP 0 rfl rfl 3 (Nat.le_of_ble_eq_true rfl) (hts _ q426) (fun _ h9 => h9) rfl dX2_isTold_21 ?_
    refine va_get (D := G.1) (cl := vwCl) (ci := 7) (v := .int (t_sourceI 1)) (C := RX7) (T := TX7) (N := 2) hx hb hts inG7 hown hK hP 1 rfl rfl 1 (Nat.le_of_ble_eq_true rfl) (hts _ q210) (fun _ h9 => h9) rfl dX2_isTold_24 ?_
    refine lv_icmp_le (tgt := 32) hx hb dX2_isTold_27 (by decide) (fun c20 => ?_) (fun c20 => ?_)
    · have hf := if_t hf c20
      refine lv_iconst (v := 0) hx hb dX2_isTold_32 (by decide) ?_
      refine lv_istore_n (lv' := [(2, .int (0 : Int32)), (0, .ref ad_t), (1, .ref (G.2.2.2.1 p0))]) hx hb dX2_isTold_33 rfl hl (by decide) rfl (fun ls hl => ?_)
      obtain ⟨y21, hLy21, hky21⟩ := bn_some hf
      have Ey21 : ∀ y21z, y21 = .inl y21z → ∀  (locs : List Loc) (ls : Array Slot), lv_has ls 3 [] → va_S no s.heap s.heap locs → wG p l e 4 101 s m [.ref ad_t, .ref (G.2.2.2.1 p0)] below meth cd s.heap locs (pQ (some (.int (bi o)))) no (F0 m 72 ls []) := by
        intro y21z ez
        intro  locs ls hl hS
        subst ez
        have hf := hky21
        (try dsimp only at hf)
        refine lv_iconst (v := 1) hx hb dX2_isTold_72 (by decide) ?_
        have hf := Option.some.inj hf
        subst hf
        exact pRetZ (v := true) hx hb hr hlocks hS dX2_isTold_73
      have Ly21 : ∀ (n : Nat), ∀ (x22 : Int32) (locs : List Loc) (ls : Array Slot), lv_has ls 3 [(2, .int x22), (0, .ref ad_t), (1, .ref (G.2.2.2.1 p0))] → va_S no s.heap s.heap locs → fX2_isTold_l34 p0 tI t_source_bytes n x22 = some y21 → wG p l e 4 101 s m [.ref ad_t, .ref (G.2.2.2.1 p0)] below meth cd s.heap locs (pQ (some (.int (bi o)))) no (F0 m 34 ls []) := by
        intro n
        induction n with
        | zero =>
          intro x22 locs ls hl hS hf
          rw [fX2_isTold_l34] at hf
          cases hf
        | succ n ih =>
          intro x22 locs ls hl hS hf
          rw [fX2_isTold_l34] at hf
          refine lv_iload_n hx hb dX2_isTold_34 rfl (lv_at hl 0 rfl) ?_
          refine lv_aload_n hx hb dX2_isTold_35 rfl (lv_at hl 2 rfl) ?_
          obtain ⟨h25, hf⟩ := gd_some hf
          obtain ⟨a23, h24, hf⟩ := bn_some hf
          refine kPVs (tJ0_length_8abf5 l G p0 a23 h24) ⟨hx, hb, hml, hown, hts⟩ q660 q661 q662 q109 q663 okyJ0_length_8abf5 ⟨Nat.le_of_ble_eq_true rfl, Nat.le_of_ble_eq_true rfl⟩ hP hG hS [] rfl (vk_recv hG.2.2.2.1 (of_decide_eq_true h25) hS) hl.1 rfl (Nat.le_of_ble_eq_true rfl) dX2_isTold_36 ⟨Nat.zero_le _, Nat.zero_le _⟩ (fun locs hS => ?_)
          refine W.eq (g2 := F0 m 39 ls [.int a23, .int x22]) rfl ?_
          refine lv_icmp_ge (tgt := 72) hx hb dX2_isTold_39 (by decide) (fun c26 => ?_) (fun c26 => ?_)
          · have hf := if_t hf c26
            have hf := Option.some.inj hf
            subst hf
            exact Ey21 _ rfl locs ls (lv_sub hl [] rfl) hS 
          · have hf := if_f hf c26
            refine lv_aload_n hx hb dX2_isTold_42 rfl (lv_at hl 2 rfl) ?_
            refine lv_iload_n hx hb dX2_isTold_43 rfl (lv_at hl 0 rfl) ?_
            obtain ⟨h29, hf⟩ := gd_some hf
            obtain ⟨a27, h28, hf⟩ := bn_some hf
            refine kPVs (tJ0_charAt_5068e l G p0 x22 a27 h28) ⟨hx, hb, hml, hown, hts⟩ q670 q671 q672 q109 q673 okyJ0_charAt_5068e ⟨Nat.le_of_ble_eq_true rfl, Nat.le_of_ble_eq_true rfl⟩ hP hG hS [] rfl (vk_recv hG.2.2.2.1 (of_decide_eq_true h29) hS) hl.1 rfl (Nat.le_of_ble_eq_true rfl) dX2_isTold_44 ⟨Nat.zero_le _, Nat.zero_le _⟩ (fun locs hS => ?_)
            refine W.eq (g2 := F0 m 47 ls [.int a27]) rfl ?_
            refine lv_aload_n hx hb dX2_isTold_47 rfl (lv_at hl 1 rfl) ?_
            refine va_get (D := G.1) (cl := vwCl) (ci := 2) (v := .ref ad_t_source) (C := RX2) (T := TX2) (N := 8) hx hb hts inG2 hown hK hP 0 rfl rfl 3 (Nat.le_of_ble_eq_true rfl) (hts _ q426) (fun _ h9 => h9) rfl dX2_isTold_48 ?_
            refine va_get (D := G.1) (cl := vwCl) (ci := 7) (v := .ref ad_t_source_bytes) (C := RX7) (T := TX7) (N := 2) hx hb hts inG7 hown hK hP 1 rfl rfl 0 (Nat.le_of_ble_eq_true rfl) (hts _ q206) (fun _ h9 => h9) rfl dX2_isTold_51 ?_
            refine lv_aload_n hx hb dX2_isTold_54 rfl (lv_at hl 1 rfl) ?_
            refine va_get (D := G.1) (cl := vwCl) (ci := 2) (v := .int (tI 5)) (C := RX2) (T := TX2) (N := 8) hx hb hts inG2 hown hK hP 0 rfl rfl 5 (Nat.le_of_ble_eq_true rfl) (hts _ q428) (fun _ h9 => h9) rfl dX2_isTold_55 ?_
            refine lv_iload_n hx hb dX2_isTold_58 rfl (lv_at hl 0 rfl) ?_
            refine lv_iadd hx hb dX2_isTold_59 ?_
            obtain ⟨h30, hf⟩ := gd_some hf
            refine va_bald (D := G.1) (cl := vwCl) hx hb hK hP 2 1 rfl rfl (gi_in h30) dX2_isTold_60 ?_
            refine lv_icmp_eq (tgt := 66) hx hb dX2_isTold_61 (by decide) (fun c31 => ?_) (fun c31 => ?_)
            · have hf := if_t hf c31
              refine lv_iinc (v := (x22 + (1 : Int32))) (lv' := [(2, .int (x22 + (1 : Int32))), (0, .ref ad_t), (1, .ref (G.2.2.2.1 p0))]) hx hb dX2_isTold_66 hl (k := 0) rfl (ii_1 _) (by decide) rfl (fun ls hl => ?_)
              refine lv_goto (tgt := 34) hx hb dX2_isTold_69 (by decide) ?_
              exact ih (x22 + (1 : Int32)) locs ls (lv_sub hl [0, 1, 2] rfl) hS hf
            · have hf := if_f hf c31
              refine lv_iconst (v := 0) hx hb dX2_isTold_64 (by decide) ?_
              have hf := Option.some.inj hf
              subst hf
              have hf := hky21
              (try dsimp only at hf)
              have hf := Option.some.inj hf
              subst hf
              exact pRetZ (v := false) hx hb hr hlocks hS dX2_isTold_65
      exact Ly21 FU (0 : Int32) locs ls (lv_sub hl [0, 1, 2] rfl) hS hLy21
    · have hf := if_f hf c20
      refine lv_iconst (v := 0) hx hb dX2_isTold_30 (by decide) ?_
      have hf := Option.some.inj hf
      subst hf
      exact pRetZ (v := false) hx hb hr hlocks hS dX2_isTold_31
