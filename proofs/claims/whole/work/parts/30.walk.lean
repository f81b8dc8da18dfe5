def fX5_remove_l2 (tI : Nat → Int32) : Nat → Int32 → (Nat → Int32) → (Nat → Int32) → (Nat → Int32) → Option ((Nat → Int32) × (Nat → Int32) × (Nat → Int32))
  | 0, _, _, _, _ => none
  | n + 1, x2, t_badRows, t_badColumns, t_badBits =>
    (if x2 < 0 then some (t_badRows, t_badColumns, t_badBits) else (if (tI 4) ≤ (x2 + (1 : Int32)) then some (t_badRows, t_badColumns, t_badBits) else gd (gi (x2 + (1 : Int32)) 12) (gd (gi x2 12) (gd (gi (x2 + (1 : Int32)) 12) (gd (gi x2 12) (gd (gi (x2 + (1 : Int32)) 12) (gd (gi x2 12) (fX5_remove_l2 tI n (x2 + (1 : Int32)) (upd t_badRows x2.toNatClampNeg (t_badRows (x2 + (1 : Int32)).toNatClampNeg)) (upd t_badColumns x2.toNatClampNeg (t_badColumns (x2 + (1 : Int32)).toNatClampNeg)) (upd t_badBits x2.toNatClampNeg (t_badBits (x2 + (1 : Int32)).toNatClampNeg))))))))))
def fX5_remove (tI : Nat → Int32) (t_badRows : Nat → Int32) (t_badColumns : Nat → Int32) (t_badBits : Nat → Int32) (p0 : Int32) : Option ((Nat → Int32) × (Nat → Int32) × (Nat → Int32) × (Nat → Int32)) :=
  bn (fX5_remove_l2 tI FU p0 t_badRows t_badColumns t_badBits) fun y9 => some ((upd tI 4 (if ((tI 4) - (1 : Int32)) < (0 : Int32) then (0 : Int32) else ((tI 4) - (1 : Int32)))), y9.1, y9.2.1, y9.2.2)
set_option maxRecDepth 100000 in
set_option maxHeartbeats 4000000 in
theorem tX5_remove (l : Launch) (G : gG) (ad_t ad_t_numbers ad_t_badRows ad_t_badColumns ad_t_badBits : Nat) (tI : Nat → Int32) (t_badRows : Nat → Int32) (t_badColumns : Nat → Int32) (t_badBits : Nat → Int32) (p0 : Int32) (o : (Nat → Int32) × (Nat → Int32) × (Nat → Int32) × (Nat → Int32)) (hf : fX5_remove tI t_badRows t_badColumns t_badBits p0 = some o) : mE G l yX5_remove cX5_remove 3 none 1 21 0 0 [.ref ad_t, .int p0] [(ad_t, .inr (5, [.ref ad_t_numbers, .ref ad_t_badRows, .ref ad_t_badColumns, .ref ad_t_badBits, .int (tI 4)])), (ad_t_badRows, .inl (G.2.1 0, 12, .inl t_badRows)), (ad_t_badColumns, .inl (G.2.1 0, 12, .inl t_badColumns)), (ad_t_badBits, .inl (G.2.1 0, 12, .inl t_badBits))] (fun r w => r = none ∧ w = [(ad_t, .inr (5, [.ref ad_t_numbers, .ref ad_t_badRows, .ref ad_t_badColumns, .ref ad_t_badBits, .int (o.1 4)])), (ad_t_badRows, .inl (G.2.1 0, 12, .inl o.2.1)), (ad_t_badColumns, .inl (G.2.1 0, 12, .inl o.2.2.1)), (ad_t_badBits, .inl (G.2.1 0, 12, .inl o.2.2.2))]) := by
  refine mE_of (by decide) (Nat.le_of_ble_eq_true rfl) ?_
  intro p e s m below meth cd ls A hx hb hml hown hts hr hlocks hnm hl hA hP hD hS hG
  have hK := hG.1
  have hown : s.vm.findClass RX5 = some m.cls := hown
  have hl : lv_has ls 3 [(0, .ref ad_t), (1, .int p0)] := hl
  have hS := hS
  unfold fX5_remove at hf
  obtain ⟨H, locs, eH, eL⟩ : ∃ (H : Heap) (locs : List Loc), H = s.heap ∧ locs = [] := ⟨_, _, rfl, rfl⟩
  have hP : va_P G.1 vwCl [(ad_t, .inr (5, [.ref ad_t_numbers, .ref ad_t_badRows, .ref ad_t_badColumns, .ref ad_t_badBits, .int (tI 4)])), (ad_t_badRows, .inl (G.2.1 0, 12, .inl t_badRows)), (ad_t_badColumns, .inl (G.2.1 0, 12, .inl t_badColumns)), (ad_t_badBits, .inl (G.2.1 0, 12, .inl t_badBits))] H := eH ▸ hP
  have hS : va_S A s.heap H locs := by rw [eH, eL]; exact hS
  suffices hgo : wG p l e 1 21 s m [.ref ad_t, .int p0] below meth cd H locs (eQ G A (fun r w => r = none ∧ w = [(ad_t, .inr (5, [.ref ad_t_numbers, .ref ad_t_badRows, .ref ad_t_badColumns, .ref ad_t_badBits, .int (o.1 4)])), (ad_t_badRows, .inl (G.2.1 0, 12, .inl o.2.1)), (ad_t_badColumns, .inl (G.2.1 0, 12, .inl o.2.2.1)), (ad_t_badBits, .inl (G.2.1 0, 12, .inl o.2.2.2))])) A (F0 m 0 ls []) by rw [eH, eL] at hgo; exact hgo
  clear eH eL
  refine lv_iload_n hx hb dX5_remove_0 rfl (lv_at hl 1 rfl) ?_
  refine lv_istore_n (lv' := [(2, .int p0), (0, .ref ad_t), (1, .int p0)]) hx hb dX5_remove_1 rfl hl (by decide) rfl (fun ls hl => ?_)
  obtain ⟨y10, hLy10, hky10⟩ := bn_some hf
  have Ey10 : ∀  (H : Heap) (locs : List Loc) (ls : Array Slot), lv_has ls 3 [(0, .ref ad_t)] → va_P G.1 vwCl [(ad_t, .inr (5, [.ref ad_t_numbers, .ref ad_t_badRows, .ref ad_t_badColumns, .ref ad_t_badBits, .int (tI 4)])), (ad_t_badRows, .inl (G.2.1 0, 12, .inl y10.1)), (ad_t_badColumns, .inl (G.2.1 0, 12, .inl y10.2.1)), (ad_t_badBits, .inl (G.2.1 0, 12, .inl y10.2.2))] H → va_D A [(ad_t, .inr (5, [.ref ad_t_numbers, .ref ad_t_badRows, .ref ad_t_badColumns, .ref ad_t_badBits, .int (tI 4)])), (ad_t_badRows, .inl (G.2.1 0, 12, .inl y10.1)), (ad_t_badColumns, .inl (G.2.1 0, 12, .inl y10.2.1)), (ad_t_badBits, .inl (G.2.1 0, 12, .inl y10.2.2))] → va_S A s.heap H locs → wG p l e 1 21 s m [.ref ad_t, .int p0] below meth cd H locs (eQ G A (fun r w => r = none ∧ w = [(ad_t, .inr (5, [.ref ad_t_numbers, .ref ad_t_badRows, .ref ad_t_badColumns, .ref ad_t_badBits, .int (o.1 4)])), (ad_t_badRows, .inl (G.2.1 0, 12, .inl o.2.1)), (ad_t_badColumns, .inl (G.2.1 0, 12, .inl o.2.2.1)), (ad_t_badBits, .inl (G.2.1 0, 12, .inl o.2.2.2))])) A (F0 m 64 ls []) := by
    intro  H locs ls hl hP hD hS
    have hf := hky10
    refine lv_aload_n hx hb dX5_remove_64 rfl (lv_at hl 0 rfl) ?_
    refine lv_aload_n hx hb dX5_remove_65 rfl (lv_at hl 0 rfl) ?_
    refine va_get (D := G.1) (cl := vwCl) (ci := 5) (v := .int (tI 4)) (C := RX5) (T := TX5) (N := 5) hx hb hts inG5 hown hK hP 0 rfl rfl 4 (Nat.le_of_ble_eq_true rfl) (hts _ q169) (fun _ h9 => h9) rfl dX5_remove_66 ?_
    refine lv_iconst (v := 1) hx hb dX5_remove_69 (by decide) ?_
    refine lv_isub hx hb dX5_remove_70 ?_
    refine lv_iconst (v := 0) hx hb dX5_remove_71 (by decide) ?_
    refine va_mmax hx hb (hml.trans hl.1.symm) hown (hts _ q828) (hts _ q829) (hts _ q107) (hts _ q830) (Nat.le_of_ble_eq_true rfl) (Nat.le_of_ble_eq_true rfl) (Nat.zero_le _) (Nat.zero_le _) dX5_remove_72 ?_
    refine W.eq (g2 := F0 m 75 ls [.int (if ((tI 4) - (1 : Int32)) < (0 : Int32) then (0 : Int32) else ((tI 4) - (1 : Int32))), .ref ad_t]) rfl ?_
    refine va_put (D := G.1) (cl := vwCl) (ci := 5) (v := .int (if ((tI 4) - (1 : Int32)) < (0 : Int32) then (0 : Int32) else ((tI 4) - (1 : Int32)))) (ty := .int) (C := RX5) (T := TX5) (N := 5) hx hb hts inG5 tyX5 tyX5_ok nmX5 hown hK hP hD hS 0 rfl rfl 4 (Nat.le_of_ble_eq_true rfl) (hts _ q169) (fun _ h9 => h9) rfl (tyX5_ok 4 (Nat.le_of_ble_eq_true rfl)) rfl rfl (Nat.le_of_ble_eq_true rfl) dX5_remove_75 (fun H locs hP hD hS => ?_)
    have hP : va_P G.1 vwCl [(ad_t, .inr (5, [.ref ad_t_numbers, .ref ad_t_badRows, .ref ad_t_badColumns, .ref ad_t_badBits, .int (if ((tI 4) - (1 : Int32)) < (0 : Int32) then (0 : Int32) else ((tI 4) - (1 : Int32)))])), (ad_t_badRows, .inl (G.2.1 0, 12, .inl y10.1)), (ad_t_badColumns, .inl (G.2.1 0, 12, .inl y10.2.1)), (ad_t_badBits, .inl (G.2.1 0, 12, .inl y10.2.2))] H := hP
    have hD : va_D A [(ad_t, .inr (5, [.ref ad_t_numbers, .ref ad_t_badRows, .ref ad_t_badColumns, .ref ad_t_badBits, .int (if ((tI 4) - (1 : Int32)) < (0 : Int32) then (0 : Int32) else ((tI 4) - (1 : Int32)))])), (ad_t_badRows, .inl (G.2.1 0, 12, .inl y10.1)), (ad_t_badColumns, .inl (G.2.1 0, 12, .inl y10.2.1)), (ad_t_badBits, .inl (G.2.1 0, 12, .inl y10.2.2))] := hD
    have hf := Option.some.inj hf
    subst hf
    exact eRetV hx hb hr hlocks hP hD hS ⟨rfl, rfl⟩ dX5_remove_78
  have Ly10 : ∀ (n : Nat), ∀ (x11 : Int32) (g12 : Nat → Int32) (g13 : Nat → Int32) (g14 : Nat → Int32) (H : Heap) (locs : List Loc) (ls : Array Slot), lv_has ls 3 [(2, .int x11), (0, .ref ad_t)] → va_P G.1 vwCl [(ad_t, .inr (5, [.ref ad_t_numbers, .ref ad_t_badRows, .ref ad_t_badColumns, .ref ad_t_badBits, .int (tI 4)])), (ad_t_badRows, .inl (G.2.1 0, 12, .inl g12)), (ad_t_badColumns, .inl (G.2.1 0, 12, .inl g13)), (ad_t_badBits, .inl (G.2.1 0, 12, .inl g14))] H → va_D A [(ad_t, .inr (5, [.ref ad_t_numbers, .ref ad_t_badRows, .ref ad_t_badColumns, .ref ad_t_badBits, .int (tI 4)])), (ad_t_badRows, .inl (G.2.1 0, 12, .inl g12)), (ad_t_badColumns, .inl (G.2.1 0, 12, .inl g13)), (ad_t_badBits, .inl (G.2.1 0, 12, .inl g14))] → va_S A s.heap H locs → fX5_remove_l2 tI n x11 g12 g13 g14 = some y10 → wG p l e 1 21 s m [.ref ad_t, .int p0] below meth cd H locs (eQ G A (fun r w => r = none ∧ w = [(ad_t, .inr (5, [.ref ad_t_numbers, .ref ad_t_badRows, .ref ad_t_badColumns, .ref ad_t_badBits, .int (o.1 4)])), (ad_t_badRows, .inl (G.2.1 0, 12, .inl o.2.1)), (ad_t_badColumns, .inl (G.2.1 0, 12, .inl o.2.2.1)), (ad_t_badBits, .inl (G.2.1 0, 12, .inl o.2.2.2))])) A (F0 m 2 ls []) := by
    intro n
    induction n with
    | zero =>
      intro x11 g12 g13 g14 H locs ls hl hP hD hS hf
      rw [fX5_remove_l2] at hf
      cases hf
    | succ n ih =>
      intro x11 g12 g13 g14 H locs ls hl hP hD hS hf
      rw [fX5_remove_l2] at hf
      refine lv_iload_n hx hb dX5_remove_2 rfl (lv_at hl 0 rfl) ?_
      refine lv_if_lt (tgt := 64) hx hb dX5_remove_3 (by decide) (fun c15 => ?_) (fun c15 => ?_)
      · have hf := if_t hf c15
        have hf := Option.some.inj hf
        subst hf
        exact Ey10  H locs ls (lv_sub hl [1] rfl) hP hD hS 
      · have hf := if_f hf c15
        refine lv_iload_n hx hb dX5_remove_6 rfl (lv_at hl 0 rfl) ?_
        refine lv_iconst (v := 1) hx hb dX5_remove_7 (by decide) ?_
        refine lv_iadd hx hb dX5_remove_8 ?_
        refine lv_aload_n hx hb dX5_remove_9 rfl (lv_at hl 1 rfl) ?_
        refine va_get (D := G.1) (cl := vwCl) (ci := 5) (v := .int (tI 4)) (C := RX5) (T := TX5) (N := 5) hx hb hts inG5 hown hK hP 0 rfl rfl 4 (Nat.le_of_ble_eq_true rfl) (hts _ q169) (fun _ h9 => h9) rfl dX5_remove_10 ?_
        refine lv_icmp_ge (tgt := 64) hx hb dX5_remove_13 (by decide) (fun c16 => ?_) (fun c16 => ?_)
        · have hf := if_t hf c16
          have hf := Option.some.inj hf
          subst hf
          exact Ey10  H locs ls (lv_sub hl [1] rfl) hP hD hS 
        · have hf := if_f hf c16
          refine lv_aload_n hx hb dX5_remove_16 rfl (lv_at hl 1 rfl) ?_
          refine va_get (D := G.1) (cl := vwCl) (ci := 5) (v := .ref ad_t_badRows) (C := RX5) (T := TX5) (N := 5) hx hb hts inG5 hown hK hP 0 rfl rfl 1 (Nat.le_of_ble_eq_true rfl) (hts _ q155) (fun _ h9 => h9) rfl dX5_remove_17 ?_
          refine lv_iload_n hx hb dX5_remove_20 rfl (lv_at hl 0 rfl) ?_
          refine lv_aload_n hx hb dX5_remove_21 rfl (lv_at hl 1 rfl) ?_
          refine va_get (D := G.1) (cl := vwCl) (ci := 5) (v := .ref ad_t_badRows) (C := RX5) (T := TX5) (N := 5) hx hb hts inG5 hown hK hP 0 rfl rfl 1 (Nat.le_of_ble_eq_true rfl) (hts _ q155) (fun _ h9 => h9) rfl dX5_remove_22 ?_
          refine lv_iload_n hx hb dX5_remove_25 rfl (lv_at hl 0 rfl) ?_
          refine lv_iconst (v := 1) hx hb dX5_remove_26 (by decide) ?_
          refine lv_iadd hx hb dX5_remove_27 ?_
          obtain ⟨h17, hf⟩ := gd_some hf
          refine va_iald (D := G.1) (cl := vwCl) hx hb hK hP 1 0 rfl rfl (gi_in h17) dX5_remove_28 ?_
          obtain ⟨h18, hf⟩ := gd_some hf
          refine va_iast (D := G.1) (cl := vwCl) hx hb hK hP hD hS 1 0 rfl rfl (gi_in h18) dX5_remove_29 (fun H locs hP hD hS => ?_)
          have hP : va_P G.1 vwCl [(ad_t, .inr (5, [.ref ad_t_numbers, .ref ad_t_badRows, .ref ad_t_badColumns, .ref ad_t_badBits, .int (tI 4)])), (ad_t_badRows, .inl (G.2.1 0, 12, .inl (upd g12 x11.toNatClampNeg (g12 (x11 + (1 : Int32)).toNatClampNeg)))), (ad_t_badColumns, .inl (G.2.1 0, 12, .inl g13)), (ad_t_badBits, .inl (G.2.1 0, 12, .inl g14))] H := hP
          have hD : va_D A [(ad_t, .inr (5, [.ref ad_t_numbers, .ref ad_t_badRows, .ref ad_t_badColumns, .ref ad_t_badBits, .int (tI 4)])), (ad_t_badRows, .inl (G.2.1 0, 12, .inl (upd g12 x11.toNatClampNeg (g12 (x11 + (1 : Int32)).toNatClampNeg)))), (ad_t_badColumns, .inl (G.2.1 0, 12, .inl g13)), (ad_t_badBits, .inl (G.2.1 0, 12, .inl g14))] := hD
          refine lv_aload_n hx hb dX5_remove_30 rfl (lv_at hl 1 rfl) ?_
          refine va_get (D := G.1) (cl := vwCl) (ci := 5) (v := .ref ad_t_badColumns) (C := RX5) (T := TX5) (N := 5) hx hb hts inG5 hown hK hP 0 rfl rfl 2 (Nat.le_of_ble_eq_true rfl) (hts _ q160) (fun _ h9 => h9) rfl dX5_remove_31 ?_
          refine lv_iload_n hx hb dX5_remove_34 rfl (lv_at hl 0 rfl) ?_
          refine lv_aload_n hx hb dX5_remove_35 rfl (lv_at hl 1 rfl) ?_
          refine va_get (D := G.1) (cl := vwCl) (ci := 5) (v := .ref ad_t_badColumns) (C := RX5) (T := TX5) (N := 5) hx hb hts inG5 hown hK hP 0 rfl rfl 2 (Nat.le_of_ble_eq_true rfl) (hts _ q160) (fun _ h9 => h9) rfl dX5_remove_36 ?_
          refine lv_iload_n hx hb dX5_remove_39 rfl (lv_at hl 0 rfl) ?_
          refine lv_iconst (v := 1) hx hb dX5_remove_40 (by decide) ?_
          refine lv_iadd hx hb dX5_remove_41 ?_
          obtain ⟨h19, hf⟩ := gd_some hf
          refine va_iald (D := G.1) (cl := vwCl) hx hb hK hP 2 0 rfl rfl (gi_in h19) dX5_remove_42 ?_
          obtain ⟨h20, hf⟩ := gd_some hf
          refine va_iast (D := G.1) (cl := vwCl) hx hb hK hP hD hS 2 0 rfl rfl (gi_in h20) dX5_remove_43 (fun H locs hP hD hS => ?_)
          have hP : va_P G.1 vwCl [(ad_t, .inr (5, [.ref ad_t_numbers, .ref ad_t_badRows, .ref ad_t_badColumns, .ref ad_t_badBits, .int (tI 4)])), (ad_t_badRows, .inl (G.2.1 0, 12, .inl (upd g12 x11.toNatClampNeg (g12 (x11 + (1 : Int32)).toNatClampNeg)))), (ad_t_badColumns, .inl (G.2.1 0, 12, .inl (upd g13 x11.toNatClampNeg (g13 (x11 + (1 : Int32)).toNatClampNeg)))), (ad_t_badBits, .inl (G.2.1 0, 12, .inl g14))] H := hP
          have hD : va_D A [(ad_t, .inr (5, [.ref ad_t_numbers, .ref ad_t_badRows, .ref ad_t_badColumns, .ref ad_t_badBits, .int (tI 4)])), (ad_t_badRows, .inl (G.2.1 0, 12, .inl (upd g12 x11.toNatClampNeg (g12 (x11 + (1 : Int32)).toNatClampNeg)))), (ad_t_badColumns, .inl (G.2.1 0, 12, .inl (upd g13 x11.toNatClampNeg (g13 (x11 + (1 : Int32)).toNatClampNeg)))), (ad_t_badBits, .inl (G.2.1 0, 12, .inl g14))] := hD
          refine lv_aload_n hx hb dX5_remove_44 rfl (lv_at hl 1 rfl) ?_
          refine va_get (D := G.1) (cl := vwCl) (ci := 5) (v := .ref ad_t_badBits) (C := RX5) (T := TX5) (N := 5) hx hb hts inG5 hown hK hP 0 rfl rfl 3 (Nat.le_of_ble_eq_true rfl) (hts _ q165) (fun _ h9 => h9) rfl dX5_remove_45 ?_
          refine lv_iload_n hx hb dX5_remove_48 rfl (lv_at hl 0 rfl) ?_
          refine lv_aload_n hx hb dX5_remove_49 rfl (lv_at hl 1 rfl) ?_
          refine va_get (D := G.1) (cl := vwCl) (ci := 5) (v := .ref ad_t_badBits) (C := RX5) (T := TX5) (N := 5) hx hb hts inG5 hown hK hP 0 rfl rfl 3 (Nat.le_of_ble_eq_true rfl) (hts _ q165) (fun _ h9 => h9) rfl dX5_remove_50 ?_
          refine lv_iload_n hx hb dX5_remove_53 rfl (lv_at hl 0 rfl) ?_
          refine lv_iconst (v := 1) hx hb dX5_remove_54 (by decide) ?_
          refine lv_iadd hx hb dX5_remove_55 ?_
          obtain ⟨h21, hf⟩ := gd_some hf
          refine va_iald (D := G.1) (cl := vwCl) hx hb hK hP 3 0 rfl rfl (gi_in h21) dX5_remove_56 ?_
          obtain ⟨h22, hf⟩ := gd_some hf
          refine va_iast (D := G.1) (cl := vwCl) hx hb hK hP hD hS 3 0 rfl rfl (gi_in h22) dX5_remove_57 (fun H locs hP hD hS => ?_)
          have hP : va_P G.1 vwCl [(ad_t, .inr (5, [.ref ad_t_numbers, .ref ad_t_badRows, .ref ad_t_badColumns, .ref ad_t_badBits, .int (tI 4)])), (ad_t_badRows, .inl (G.2.1 0, 12, .inl (upd g12 x11.toNatClampNeg (g12 (x11 + (1 : Int32)).toNatClampNeg)))), (ad_t_badColumns, .inl (G.2.1 0, 12, .inl (upd g13 x11.toNatClampNeg (g13 (x11 + (1 : Int32)).toNatClampNeg)))), (ad_t_badBits, .inl (G.2.1 0, 12, .inl (upd g14 x11.toNatClampNeg (g14 (x11 + (1 : Int32)).toNatClampNeg))))] H := hP
          have hD : va_D A [(ad_t, .inr (5, [.ref ad_t_numbers, .ref ad_t_badRows, .ref ad_t_badColumns, .ref ad_t_badBits, .int (tI 4)])), (ad_t_badRows, .inl (G.2.1 0, 12, .inl (upd g12 x11.toNatClampNeg (g12 (x11 + (1 : Int32)).toNatClampNeg)))), (ad_t_badColumns, .inl (G.2.1 0, 12, .inl (upd g13 x11.toNatClampNeg (g13 (x11 + (1 : Int32)).toNatClampNeg)))), (ad_t_badBits, .inl (G.2.1 0, 12, .inl (upd g14 x11.toNatClampNeg (g14 (x11 + (1 : Int32)).toNatClampNeg))))] := hD
          refine lv_iinc (v := (x11 + (1 : Int32))) (lv' := [(2, .int (x11 + (1 : Int32))), (0, .ref ad_t)]) hx hb dX5_remove_58 hl (k := 0) rfl (ii_1 _) (by decide) rfl (fun ls hl => ?_)
          refine lv_goto (tgt := 2) hx hb dX5_remove_61 (by decide) ?_
          exact ih (x11 + (1 : Int32)) (upd g12 x11.toNatClampNeg (g12 (x11 + (1 : Int32)).toNatClampNeg)) (upd g13 x11.toNatClampNeg (g13 (x11 + (1 : Int32)).toNatClampNeg)) (upd g14 x11.toNatClampNeg (g14 (x11 + (1 : Int32)).toNatClampNeg)) H locs ls (lv_sub hl [0, 1] rfl) hP hD hS hf
  exact Ly10 FU p0 t_badRows t_badColumns t_badBits H locs ls (lv_sub hl [0, 1] rfl) hP hD hS hLy10

def fX5_liesIn_l2 (x1 : Int32) (x2 : Int32) (tI : Nat → Int32) (t_badRows : Nat → Int32) (t_badColumns : Nat → Int32) : Nat → Int32 → Option ((Unit) ⊕ (Bool))
  | 0, _ => none
  | n + 1, x3 =>
    (if (tI 4) ≤ x3 then some (.inl ()) else gd (gi x3 12) ((if x1 ≤ (t_badRows x3.toNatClampNeg) then some (.inr false) else gd (gi x3 12) ((if (t_badColumns x3.toNatClampNeg) < x2 then fX5_liesIn_l2 x1 x2 tI t_badRows t_badColumns n (x3 + (1 : Int32)) else some (.inr false))))))
def fX5_liesIn (tI : Nat → Int32) (t_badRows : Nat → Int32) (t_badColumns : Nat → Int32) (p0 : Int32) (p1 : Int32) : Option (Bool) :=
  (bn (fX5_liesIn_l2 p0 p1 tI t_badRows t_badColumns FU (0 : Int32)) fun y6 => match y6 with | .inl y6z => some true | .inr y6o => some y6o)
set_option maxRecDepth 100000 in
set_option maxHeartbeats 4000000 in
theorem tX5_liesIn (l : Launch) (G : gG) (ad_t ad_t_numbers ad_t_badRows ad_t_badColumns ad_t_badBits : Nat) (tI : Nat → Int32) (t_badRows : Nat → Int32) (t_badColumns : Nat → Int32) (p0 : Int32) (p1 : Int32) (o : Bool) (hf : fX5_liesIn tI t_badRows t_badColumns p0 p1 = some o) : mP G l yX5_liesIn cX5_liesIn 4 (some .boolean) 0 0 [.ref ad_t, .int p0, .int p1] [(ad_t, .inr (5, [.ref ad_t_numbers, .ref ad_t_badRows, .ref ad_t_badColumns, .ref ad_t_badBits, .int (tI 4)])), (ad_t_badRows, .inl (G.2.1 0, 12, .inl t_badRows)), (ad_t_badColumns, .inl (G.2.1 0, 12, .inl t_badColumns))] (some (.int (bi o))) := by
  refine mP_of (by decide) (Nat.le_of_ble_eq_true rfl) ?_
  intro p e s m below meth cd ls hx hb hml hown hts hr hlocks hl hP hG
  have hK := hG.1
  have hown : s.vm.findClass RX5 = some m.cls := hown
  have hl : lv_has ls 4 [(0, .ref ad_t), (1, .int p0), (2, .int p1)] := hl
  have hS : va_S no s.heap s.heap [] := va_S.rf
  generalize ([] : List Loc) = locs at hS ⊢
  unfold fX5_liesIn at hf
  show wG p l e 0 0 s m [.ref ad_t, .int p0, .int p1] below meth cd s.heap locs (pQ (some (.int (bi o)))) no (F0 m 0 ls [])
  refine lv_iconst (v := 0) hx hb dX5_liesIn_0 (by decide) ?_
  refine lv_istore_n (lv' := [(3, .int (0 : Int32)), (0, .ref ad_t), (1, .int p0), (2, .int p1)]) hx hb dX5_liesIn_1 rfl hl (by decide) rfl (fun ls hl => ?_)
  obtain ⟨y7, hLy7, hky7⟩ := bn_some hf
  have Ey7 : ∀ y7z, y7 = .inl y7z → ∀  (locs : List Loc) (ls : Array Slot), lv_has ls 4 [] → va_S no s.heap s.heap locs → wG p l e 0 0 s m [.ref ad_t, .int p0, .int p1] below meth cd s.heap locs (pQ (some (.int (bi o)))) no (F0 m 38 ls []) := by
    intro y7z ez
    intro  locs ls hl hS
    subst ez
    have hf := hky7
    (try dsimp only at hf)
    refine lv_iconst (v := 1) hx hb dX5_liesIn_38 (by decide) ?_
    have hf := Option.some.inj hf
    subst hf
    exact pRetZ (v := true) hx hb hr hlocks hS dX5_liesIn_39
  have Ly7 : ∀ (n : Nat), ∀ (x8 : Int32) (locs : List Loc) (ls : Array Slot), lv_has ls 4 [(3, .int x8), (0, .ref ad_t), (1, .int p0), (2, .int p1)] → va_S no s.heap s.heap locs → fX5_liesIn_l2 p0 p1 tI t_badRows t_badColumns n x8 = some y7 → wG p l e 0 0 s m [.ref ad_t, .int p0, .int p1] below meth cd s.heap locs (pQ (some (.int (bi o)))) no (F0 m 2 ls []) := by
    intro n
    induction n with
    | zero =>
      intro x8 locs ls hl hS hf
      rw [fX5_liesIn_l2] at hf
      cases hf
    | succ n ih =>
      intro x8 locs ls hl hS hf
      rw [fX5_liesIn_l2] at hf
      refine lv_iload_n hx hb dX5_liesIn_2 rfl (lv_at hl 0 rfl) ?_
      refine lv_aload_n hx hb dX5_liesIn_3 rfl (lv_at hl 1 rfl) ?_
      refine va_get (D := G.1) (cl := vwCl) (ci := 5) (v := .int (tI 4)) (C := RX5) (T := TX5) (N := 5) hx hb hts inG5 hown hK hP 0 rfl rfl 4 (Nat.le_of_ble_eq_true rfl) (hts _ q169) (fun _ h9 => h9) rfl dX5_liesIn_4 ?_
      refine lv_icmp_ge (tgt := 38) hx hb dX5_liesIn_7 (by decide) (fun c9 => ?_) (fun c9 => ?_)
      · have hf := if_t hf c9
        have hf := Option.some.inj hf
        subst hf
        exact Ey7 _ rfl locs ls (lv_sub hl [] rfl) hS 
      · have hf := if_f hf c9
        refine lv_aload_n hx hb dX5_liesIn_10 rfl (lv_at hl 1 rfl) ?_
        refine va_get (D := G.1) (cl := vwCl) (ci := 5) (v := .ref ad_t_badRows) (C := RX5) (T := TX5) (N := 5) hx hb hts inG5 hown hK hP 0 rfl rfl 1 (Nat.le_of_ble_eq_true rfl) (hts _ q155) (fun _ h9 => h9) rfl dX5_liesIn_11 ?_
        refine lv_iload_n hx hb dX5_liesIn_14 rfl (lv_at hl 0 rfl) ?_
        obtain ⟨h10, hf⟩ := gd_some hf
        refine va_iald (D := G.1) (cl := vwCl) hx hb hK hP 1 0 rfl rfl (gi_in h10) dX5_liesIn_15 ?_
        refine lv_iload_n hx hb dX5_liesIn_16 rfl (lv_at hl 2 rfl) ?_
        refine lv_icmp_ge (tgt := 30) hx hb dX5_liesIn_17 (by decide) (fun c11 => ?_) (fun c11 => ?_)
        · have hf := if_t hf c11
          refine lv_iconst (v := 0) hx hb dX5_liesIn_30 (by decide) ?_
          have hf := Option.some.inj hf
          subst hf
          have hf := hky7
          (try dsimp only at hf)
          have hf := Option.some.inj hf
          subst hf
          exact pRetZ (v := false) hx hb hr hlocks hS dX5_liesIn_31
        · have hf := if_f hf c11
          refine lv_aload_n hx hb dX5_liesIn_20 rfl (lv_at hl 1 rfl) ?_
          refine va_get (D := G.1) (cl := vwCl) (ci := 5) (v := .ref ad_t_badColumns) (C := RX5) (T := TX5) (N := 5) hx hb hts inG5 hown hK hP 0 rfl rfl 2 (Nat.le_of_ble_eq_true rfl) (hts _ q160) (fun _ h9 => h9) rfl dX5_liesIn_21 ?_
          refine lv_iload_n hx hb dX5_liesIn_24 rfl (lv_at hl 0 rfl) ?_
          obtain ⟨h12, hf⟩ := gd_some hf
          refine va_iald (D := G.1) (cl := vwCl) hx hb hK hP 2 0 rfl rfl (gi_in h12) dX5_liesIn_25 ?_
          refine lv_iload_n hx hb dX5_liesIn_26 rfl (lv_at hl 3 rfl) ?_
          refine lv_icmp_lt (tgt := 32) hx hb dX5_liesIn_27 (by decide) (fun c13 => ?_) (fun c13 => ?_)
          · have hf := if_t hf c13
            refine lv_iinc (v := (x8 + (1 : Int32))) (lv' := [(3, .int (x8 + (1 : Int32))), (0, .ref ad_t), (1, .int p0), (2, .int p1)]) hx hb dX5_liesIn_32 hl (k := 0) rfl (ii_1 _) (by decide) rfl (fun ls hl => ?_)
            refine lv_goto (tgt := 2) hx hb dX5_liesIn_35 (by decide) ?_
            exact ih (x8 + (1 : Int32)) locs ls (lv_sub hl [0, 1, 2, 3] rfl) hS hf
          · have hf := if_f hf c13
            refine lv_iconst (v := 0) hx hb dX5_liesIn_30 (by decide) ?_
            have hf := Option.some.inj hf
            subst hf
            have hf := hky7
            (try dsimp only at hf)
            have hf := Option.some.inj hf
            subst hf
            exact pRetZ (v := false) hx hb hr hlocks hS dX5_liesIn_31
  exact Ly7 FU (0 : Int32) locs ls (lv_sub hl [0, 1, 2, 3] rfl) hS hLy7

def fX7_hasRoom (tI : Nat → Int32) (p0 : Int32) : Bool :=
  (if (300 : Int32) < ((tI 1) + p0) then false else true)
set_option maxRecDepth 100000 in
set_option maxHeartbeats 4000000 in
theorem tX7_hasRoom (l : Launch) (G : gG) (ad_t ad_t_bytes : Nat) (tI : Nat → Int32) (p0 : Int32) (o : Bool) (hf : fX7_hasRoom tI p0 = o) : mP G l yX7_hasRoom cX7_hasRoom 2 (some .boolean) 0 0 [.ref ad_t, .int p0] [(ad_t, .inr (7, [.ref ad_t_bytes, .int (tI 1)]))] (some (.int (bi o))) := by
  refine mP_of (by decide) (Nat.le_of_ble_eq_true rfl) ?_
  intro p e s m below meth cd ls hx hb hml hown hts hr hlocks hl hP hG
  have hK := hG.1
  have hown : s.vm.findClass RX7 = some m.cls := hown
  have hl : lv_has ls 2 [(0, .ref ad_t), (1, .int p0)] := hl
  have hS : va_S no s.heap s.heap [] := va_S.rf
  generalize ([] : List Loc) = locs at hS ⊢
  unfold fX7_hasRoom at hf
  show wG p l e 0 0 s m [.ref ad_t, .int p0] below meth cd s.heap locs (pQ (some (.int (bi o)))) no (F0 m 0 ls [])
  refine lv_aload_n hx hb dX7_hasRoom_0 rfl (lv_at hl 0 rfl) ?_
  refine va_get (D := G.1) (cl := vwCl) (ci := 7) (v := .int (tI 1)) (C := RX7) (T := TX7) (N := 2) hx hb hts inG7 hown hK hP 0 rfl rfl 1 (Nat.le_of_ble_eq_true rfl) (hts _ q208) (fun _ h9 => h9) rfl dX7_hasRoom_1 ?_
  refine lv_iload_n hx hb dX7_hasRoom_4 rfl (lv_at hl 1 rfl) ?_
  refine lv_iadd hx hb dX7_hasRoom_5 ?_
  refine lv_sipush (v := 300) hx hb dX7_hasRoom_6 (by decide) ?_
  refine lv_icmp_gt (tgt := 16) hx hb dX7_hasRoom_9 (by decide) (fun c2 => ?_) (fun c2 => ?_)
  · have hf := if_t hf c2
    refine lv_iconst (v := 0) hx hb dX7_hasRoom_16 (by decide) ?_
    subst hf
    exact pRetZ (v := false) hx hb hr hlocks hS dX7_hasRoom_17
  · have hf := if_f hf c2
    refine lv_iconst (v := 1) hx hb dX7_hasRoom_12 (by decide) ?_
    refine lv_goto (tgt := 17) hx hb dX7_hasRoom_13 (by decide) ?_
    subst hf
    exact pRetZ (v := true) hx hb hr hlocks hS dX7_hasRoom_17

def fX7_append_l3 (x1 : Int32) : Nat → Int32 → (Nat → Int32) → (Nat → Int32) → Option ((Nat → Int32) × (Nat → Int32))
  | 0, _, _, _ => none
  | n + 1, x2, tI, t_bytes =>
    (if x2 < 0 then some (tI, t_bytes) else (if (bi (fX7_hasRoom tI (1 : Int32))) = 0 then some (tI, t_bytes) else gd (gi (tI 1) 300) (fX7_append_l3 x1 n (x2 + (-8 : Int32)) (upd tI 1 ((tI 1) + (1 : Int32))) (upd t_bytes (tI 1).toNatClampNeg (vp_nar .byte ((x1 >>> (x2 &&& 31)).toInt8.toInt32))))))
def fX7_append (tI : Nat → Int32) (t_bytes : Nat → Int32) (p0 : Int32) : Option ((Nat → Int32) × (Nat → Int32)) :=
  bn (fX7_append_l3 p0 FU (24 : Int32) tI t_bytes) fun y4 => some (y4.1, y4.2)
set_option maxRecDepth 100000 in
set_option maxHeartbeats 4000000 in
theorem tX7_append (l : Launch) (G : gG) (ad_t ad_t_bytes : Nat) (tI : Nat → Int32) (t_bytes : Nat → Int32) (p0 : Int32) (o : (Nat → Int32) × (Nat → Int32)) (hf : fX7_append tI t_bytes p0 = some o) : mE G l yX7_append cX7_append 3 none 1 21 0 0 [.ref ad_t, .int p0] [(ad_t, .inr (7, [.ref ad_t_bytes, .int (tI 1)])), (ad_t_bytes, .inl (G.2.1 1, 300, .inl t_bytes))] (fun r w => r = none ∧ w = [(ad_t, .inr (7, [.ref ad_t_bytes, .int (o.1 1)])), (ad_t_bytes, .inl (G.2.1 1, 300, .inl o.2))]) := by
  refine mE_of (by decide) (Nat.le_of_ble_eq_true rfl) ?_
  intro p e s m below meth cd ls A hx hb hml hown hts hr hlocks hnm hl hA hP hD hS hG
  have hK := hG.1
  have hown : s.vm.findClass RX7 = some m.cls := hown
  have hl : lv_has ls 3 [(0, .ref ad_t), (1, .int p0)] := hl
  have hS := hS
  unfold fX7_append at hf
  obtain ⟨H, locs, eH, eL⟩ : ∃ (H : Heap) (locs : List Loc), H = s.heap ∧ locs = [] := ⟨_, _, rfl, rfl⟩
  have hP : va_P G.1 vwCl [(ad_t, .inr (7, [.ref ad_t_bytes, .int (tI 1)])), (ad_t_bytes, .inl (G.2.1 1, 300, .inl t_bytes))] H := eH ▸ hP
  have hS : va_S A s.heap H locs := by rw [eH, eL]; exact hS
  suffices hgo : wG p l e 1 21 s m [.ref ad_t, .int p0] below meth cd H locs (eQ G A (fun r w => r = none ∧ w = [(ad_t, .inr (7, [.ref ad_t_bytes, .int (o.1 1)])), (ad_t_bytes, .inl (G.2.1 1, 300, .inl o.2))])) A (F0 m 0 ls []) by rw [eH, eL] at hgo; exact hgo
  clear eH eL
  refine lv_bipush (v := 24) hx hb dX7_append_0 (by decide) ?_
  refine lv_istore_n (lv' := [(2, .int (24 : Int32)), (0, .ref ad_t), (1, .int p0)]) hx hb dX7_append_2 rfl hl (by decide) rfl (fun ls hl => ?_)
  obtain ⟨y5, hLy5, hky5⟩ := bn_some hf
  have Ey5 : ∀  (H : Heap) (locs : List Loc) (ls : Array Slot), lv_has ls 3 [] → va_P G.1 vwCl [(ad_t, .inr (7, [.ref ad_t_bytes, .int (y5.1 1)])), (ad_t_bytes, .inl (G.2.1 1, 300, .inl y5.2))] H → va_D A [(ad_t, .inr (7, [.ref ad_t_bytes, .int (y5.1 1)])), (ad_t_bytes, .inl (G.2.1 1, 300, .inl y5.2))] → va_S A s.heap H locs → wG p l e 1 21 s m [.ref ad_t, .int p0] below meth cd H locs (eQ G A (fun r w => r = none ∧ w = [(ad_t, .inr (7, [.ref ad_t_bytes, .int (o.1 1)])), (ad_t_bytes, .inl (G.2.1 1, 300, .inl o.2))])) A (F0 m 44 ls []) := by
    intro  H locs ls hl hP hD hS
    have hf := hky5
    have hf := Option.some.inj hf
    subst hf
    exact eRetV hx hb hr hlocks hP hD hS ⟨rfl, rfl⟩ dX7_append_44
  have Ly5 : ∀ (n : Nat), ∀ (x6 : Int32) (g7 : Nat → Int32) (g8 : Nat → Int32) (H : Heap) (locs : List Loc) (ls : Array Slot), lv_has ls 3 [(2, .int x6), (0, .ref ad_t), (1, .int p0)] → va_P G.1 vwCl [(ad_t, .inr (7, [.ref ad_t_bytes, .int (g7 1)])), (ad_t_bytes, .inl (G.2.1 1, 300, .inl g8))] H → va_D A [(ad_t, .inr (7, [.ref ad_t_bytes, .int (g7 1)])), (ad_t_bytes, .inl (G.2.1 1, 300, .inl g8))] → va_S A s.heap H locs → fX7_append_l3 p0 n x6 g7 g8 = some y5 → wG p l e 1 21 s m [.ref ad_t, .int p0] below meth cd H locs (eQ G A (fun r w => r = none ∧ w = [(ad_t, .inr (7, [.ref ad_t_bytes, .int (o.1 1)])), (ad_t_bytes, .inl (G.2.1 1, 300, .inl o.2))])) A (F0 m 3 ls []) := by
    intro n
    induction n with
    | zero =>
      intro x6 g7 g8 H locs ls hl hP hD hS hf
      rw [fX7_append_l3] at hf
      cases hf
    | succ n ih =>
      intro x6 g7 g8 H locs ls hl hP hD hS hf
      rw [fX7_append_l3] at hf
      refine lv_iload_n hx hb dX7_append_3 rfl (lv_at hl 0 rfl) ?_
      refine lv_if_lt (tgt := 44) hx hb dX7_append_4 (by decide) (fun c9 => ?_) (fun c9 => ?_)
      · have hf := if_t hf c9
        have hf := Option.some.inj hf
        subst hf
        exact Ey5  H locs ls (lv_sub hl [] rfl) hP hD hS 
      · have hf := if_f hf c9
        refine lv_aload_n hx hb dX7_append_7 rfl (lv_at hl 1 rfl) ?_
        refine lv_iconst (v := 1) hx hb dX7_append_8 (by decide) ?_
        refine kPV (tX7_hasRoom l G ad_t ad_t_bytes g7 (1 : Int32) _ rfl) ⟨hx, hb, hml, hown, hts⟩ q597 q590 q591 q99 q592 okyX7_hasRoom ⟨Nat.le_of_ble_eq_true rfl, Nat.le_of_ble_eq_true rfl⟩ hP hG hS [0] rfl 0 rfl rfl hl.1 rfl (Nat.le_of_ble_eq_true rfl) dX7_append_9 ⟨Nat.zero_le _, Nat.zero_le _⟩ (fun locs hS => ?_)
        refine W.eq (g2 := F0 m 12 ls [.int (bi (fX7_hasRoom g7 (1 : Int32)))]) rfl ?_
        refine lv_if_eq (tgt := 44) hx hb dX7_append_12 (by decide) (fun c10 => ?_) (fun c10 => ?_)
        · have hf := if_t hf c10
          have hf := Option.some.inj hf
          subst hf
          exact Ey5  H locs ls (lv_sub hl [] rfl) hP hD hS 
        · have hf := if_f hf c10
          refine lv_aload_n hx hb dX7_append_15 rfl (lv_at hl 1 rfl) ?_
          refine va_get (D := G.1) (cl := vwCl) (ci := 7) (v := .ref ad_t_bytes) (C := RX7) (T := TX7) (N := 2) hx hb hts inG7 hown hK hP 0 rfl rfl 0 (Nat.le_of_ble_eq_true rfl) (hts _ q205) (fun _ h9 => h9) rfl dX7_append_16 ?_
          refine lv_aload_n hx hb dX7_append_19 rfl (lv_at hl 1 rfl) ?_
          refine va_get (D := G.1) (cl := vwCl) (ci := 7) (v := .int (g7 1)) (C := RX7) (T := TX7) (N := 2) hx hb hts inG7 hown hK hP 0 rfl rfl 1 (Nat.le_of_ble_eq_true rfl) (hts _ q208) (fun _ h9 => h9) rfl dX7_append_20 ?_
          refine lv_iload_n hx hb dX7_append_23 rfl (lv_at hl 2 rfl) ?_
          refine lv_iload_n hx hb dX7_append_24 rfl (lv_at hl 0 rfl) ?_
          refine lv_ishr hx hb dX7_append_25 ?_
          refine lv_i2b (v := ((p0 >>> (x6 &&& 31)).toInt8.toInt32)) hx hb dX7_append_26 rfl ?_
          obtain ⟨h11, hf⟩ := gd_some hf
          refine va_bast (D := G.1) (cl := vwCl) hx hb hK hP hD hS 1 1 rfl rfl (gi_in h11) dX7_append_27 (fun H locs hP hD hS => ?_)
          have hP : va_P G.1 vwCl [(ad_t, .inr (7, [.ref ad_t_bytes, .int (g7 1)])), (ad_t_bytes, .inl (G.2.1 1, 300, .inl (upd g8 (g7 1).toNatClampNeg (vp_nar .byte ((p0 >>> (x6 &&& 31)).toInt8.toInt32)))))] H := hP
          have hD : va_D A [(ad_t, .inr (7, [.ref ad_t_bytes, .int (g7 1)])), (ad_t_bytes, .inl (G.2.1 1, 300, .inl (upd g8 (g7 1).toNatClampNeg (vp_nar .byte ((p0 >>> (x6 &&& 31)).toInt8.toInt32)))))] := hD
          refine lv_aload_n hx hb dX7_append_28 rfl (lv_at hl 1 rfl) ?_
          refine lv_dup hx hb dX7_append_29 rfl ?_
          refine va_get (D := G.1) (cl := vwCl) (ci := 7) (v := .int (g7 1)) (C := RX7) (T := TX7) (N := 2) hx hb hts inG7 hown hK hP 0 rfl rfl 1 (Nat.le_of_ble_eq_true rfl) (hts _ q208) (fun _ h9 => h9) rfl dX7_append_30 ?_
          refine lv_iconst (v := 1) hx hb dX7_append_33 (by decide) ?_
          refine lv_iadd hx hb dX7_append_34 ?_
          refine va_put (D := G.1) (cl := vwCl) (ci := 7) (v := .int ((g7 1) + (1 : Int32))) (ty := .int) (C := RX7) (T := TX7) (N := 2) hx hb hts inG7 tyX7 tyX7_ok nmX7 hown hK hP hD hS 0 rfl rfl 1 (Nat.le_of_ble_eq_true rfl) (hts _ q208) (fun _ h9 => h9) rfl (tyX7_ok 1 (Nat.le_of_ble_eq_true rfl)) rfl rfl (Nat.le_of_ble_eq_true rfl) dX7_append_35 (fun H locs hP hD hS => ?_)
          have hP : va_P G.1 vwCl [(ad_t, .inr (7, [.ref ad_t_bytes, .int ((g7 1) + (1 : Int32))])), (ad_t_bytes, .inl (G.2.1 1, 300, .inl (upd g8 (g7 1).toNatClampNeg (vp_nar .byte ((p0 >>> (x6 &&& 31)).toInt8.toInt32)))))] H := hP
          have hD : va_D A [(ad_t, .inr (7, [.ref ad_t_bytes, .int ((g7 1) + (1 : Int32))])), (ad_t_bytes, .inl (G.2.1 1, 300, .inl (upd g8 (g7 1).toNatClampNeg (vp_nar .byte ((p0 >>> (x6 &&& 31)).toInt8.toInt32)))))] := hD
          refine lv_iinc (v := (x6 + (-8 : Int32))) (lv' := [(2, .int (x6 + (-8 : Int32))), (0, .ref ad_t), (1, .int p0)]) hx hb dX7_append_38 hl (k := 0) rfl (ii_m8 _) (by decide) rfl (fun ls hl => ?_)
          refine lv_goto (tgt := 3) hx hb dX7_append_41 (by decide) ?_
          exact ih (x6 + (-8 : Int32)) (upd g7 1 ((g7 1) + (1 : Int32))) (upd g8 (g7 1).toNatClampNeg (vp_nar .byte ((p0 >>> (x6 &&& 31)).toInt8.toInt32))) H locs ls (lv_sub hl [0, 1, 2] rfl) hP hD hS hf
  exact Ly5 FU (24 : Int32) tI t_bytes H locs ls (lv_sub hl [0, 1, 2] rfl) hP hD hS hLy5

def fX7_copyFrom (tI : Nat → Int32) (t_bytes : Nat → Int32) (p0I : Nat → Int32) (p0_bytes : Nat → Int32) : Option ((Nat → Int32) × (Nat → Int32)) :=
  gd (fb p0_bytes 300) (some ((upd tI 1 (p0I 1)), (va_cpy p0_bytes t_bytes 0 0 300)))
set_option maxRecDepth 100000 in
set_option maxHeartbeats 4000000 in
theorem tX7_copyFrom (l : Launch) (G : gG) (ad_t ad_t_bytes ad_p0 ad_p0_bytes : Nat) (tI : Nat → Int32) (t_bytes : Nat → Int32) (p0I : Nat → Int32) (p0_bytes : Nat → Int32) (o : (Nat → Int32) × (Nat → Int32)) (hf : fX7_copyFrom tI t_bytes p0I p0_bytes = some o) : mE G l yX7_copyFrom cX7_copyFrom 2 none 1 26 0 0 [.ref ad_t, .ref ad_p0] [(ad_t, .inr (7, [.ref ad_t_bytes, .int (tI 1)])), (ad_t_bytes, .inl (G.2.1 1, 300, .inl t_bytes)), (ad_p0, .inr (7, [.ref ad_p0_bytes, .int (p0I 1)])), (ad_p0_bytes, .inl (G.2.1 1, 300, .inl p0_bytes))] (fun r w => r = none ∧ w = [(ad_t, .inr (7, [.ref ad_t_bytes, .int (o.1 1)])), (ad_t_bytes, .inl (G.2.1 1, 300, .inl o.2)), (ad_p0, .inr (7, [.ref ad_p0_bytes, .int (p0I 1)])), (ad_p0_bytes, .inl (G.2.1 1, 300, .inl p0_bytes))]) := by
  refine mE_of (by decide) (Nat.le_of_ble_eq_true rfl) ?_
  intro p e s m below meth cd ls A hx hb hml hown hts hr hlocks hnm hl hA hP hD hS hG
  have hK := hG.1
  have hown : s.vm.findClass RX7 = some m.cls := hown
  have hl : lv_has ls 2 [(0, .ref ad_t), (1, .ref ad_p0)] := hl
  have hS := hS
  unfold fX7_copyFrom at hf
  obtain ⟨H, locs, eH, eL⟩ : ∃ (H : Heap) (locs : List Loc), H = s.heap ∧ locs = [] := ⟨_, _, rfl, rfl⟩
  have hP : va_P G.1 vwCl [(ad_t, .inr (7, [.ref ad_t_bytes, .int (tI 1)])), (ad_t_bytes, .inl (G.2.1 1, 300, .inl t_bytes)), (ad_p0, .inr (7, [.ref ad_p0_bytes, .int (p0I 1)])), (ad_p0_bytes, .inl (G.2.1 1, 300, .inl p0_bytes))] H := eH ▸ hP
  have hS : va_S A s.heap H locs := by rw [eH, eL]; exact hS
  suffices hgo : wG p l e 1 26 s m [.ref ad_t, .ref ad_p0] below meth cd H locs (eQ G A (fun r w => r = none ∧ w = [(ad_t, .inr (7, [.ref ad_t_bytes, .int (o.1 1)])), (ad_t_bytes, .inl (G.2.1 1, 300, .inl o.2)), (ad_p0, .inr (7, [.ref ad_p0_bytes, .int (p0I 1)])), (ad_p0_bytes, .inl (G.2.1 1, 300, .inl p0_bytes))])) A (F0 m 0 ls []) by rw [eH, eL] at hgo; exact hgo
  clear eH eL
  refine lv_aload_n hx hb dX7_copyFrom_0 rfl (lv_at hl 1 rfl) ?_
  refine va_get (D := G.1) (cl := vwCl) (ci := 7) (v := .ref ad_p0_bytes) (C := RX7) (T := TX7) (N := 2) hx hb hts inG7 hown hK hP 2 rfl rfl 0 (Nat.le_of_ble_eq_true rfl) (hts _ q205) (fun _ h9 => h9) rfl dX7_copyFrom_1 ?_
  refine lv_iconst (v := 0) hx hb dX7_copyFrom_4 (by decide) ?_
  refine lv_aload_n hx hb dX7_copyFrom_5 rfl (lv_at hl 0 rfl) ?_
  refine va_get (D := G.1) (cl := vwCl) (ci := 7) (v := .ref ad_t_bytes) (C := RX7) (T := TX7) (N := 2) hx hb hts inG7 hown hK hP 0 rfl rfl 0 (Nat.le_of_ble_eq_true rfl) (hts _ q205) (fun _ h9 => h9) rfl dX7_copyFrom_6 ?_
  refine lv_iconst (v := 0) hx hb dX7_copyFrom_9 (by decide) ?_
  refine lv_sipush (v := 300) hx hb dX7_copyFrom_10 (by decide) ?_
  obtain ⟨h2, hf⟩ := gd_some hf
  refine va_copyi (D := G.1) (cl := vwCl) hx hb (hml.trans hl.1.symm) hown (hts _ q614) (hts _ q148) (hts _ q147) (hts _ q98) hK hP hD hS 3 1 1 1 rfl rfl rfl rfl rfl (by decide) (by decide) (by decide) (by decide) (by decide) (fb_ok h2) (Nat.le_of_ble_eq_true rfl) (by decide) dX7_copyFrom_13 (fun H locs hP hD hS => ?_)
  have hP : va_P G.1 vwCl [(ad_t, .inr (7, [.ref ad_t_bytes, .int (tI 1)])), (ad_t_bytes, .inl (G.2.1 1, 300, .inl (va_cpy p0_bytes t_bytes 0 0 300))), (ad_p0, .inr (7, [.ref ad_p0_bytes, .int (p0I 1)])), (ad_p0_bytes, .inl (G.2.1 1, 300, .inl p0_bytes))] H := hP
  have hD : va_D A [(ad_t, .inr (7, [.ref ad_t_bytes, .int (tI 1)])), (ad_t_bytes, .inl (G.2.1 1, 300, .inl (va_cpy p0_bytes t_bytes 0 0 300))), (ad_p0, .inr (7, [.ref ad_p0_bytes, .int (p0I 1)])), (ad_p0_bytes, .inl (G.2.1 1, 300, .inl p0_bytes))] := hD
  refine W.eq (g2 := F0 m 16 ls []) rfl ?_
  refine lv_aload_n hx hb dX7_copyFrom_16 rfl (lv_at hl 0 rfl) ?_
  refine lv_aload_n hx hb dX7_copyFrom_17 rfl (lv_at hl 1 rfl) ?_
  refine va_get (D := G.1) (cl := vwCl) (ci := 7) (v := .int (p0I 1)) (C := RX7) (T := TX7) (N := 2) hx hb hts inG7 hown hK hP 2 rfl rfl 1 (Nat.le_of_ble_eq_true rfl) (hts _ q208) (fun _ h9 => h9) rfl dX7_copyFrom_18 ?_
  refine va_put (D := G.1) (cl := vwCl) (ci := 7) (v := .int (p0I 1)) (ty := .int) (C := RX7) (T := TX7) (N := 2) hx hb hts inG7 tyX7 tyX7_ok nmX7 hown hK hP hD hS 0 rfl rfl 1 (Nat.le_of_ble_eq_true rfl) (hts _ q208) (fun _ h9 => h9) rfl (tyX7_ok 1 (Nat.le_of_ble_eq_true rfl)) rfl rfl (Nat.le_of_ble_eq_true rfl) dX7_copyFrom_21 (fun H locs hP hD hS => ?_)
  have hP : va_P G.1 vwCl [(ad_t, .inr (7, [.ref ad_t_bytes, .int (p0I 1)])), (ad_t_bytes, .inl (G.2.1 1, 300, .inl (va_cpy p0_bytes t_bytes 0 0 300))), (ad_p0, .inr (7, [.ref ad_p0_bytes, .int (p0I 1)])), (ad_p0_bytes, .inl (G.2.1 1, 300, .inl p0_bytes))] H := hP
  have hD : va_D A [(ad_t, .inr (7, [.ref ad_t_bytes, .int (p0I 1)])), (ad_t_bytes, .inl (G.2.1 1, 300, .inl (va_cpy p0_bytes t_bytes 0 0 300))), (ad_p0, .inr (7, [.ref ad_p0_bytes, .int (p0I 1)])), (ad_p0_bytes, .inl (G.2.1 1, 300, .inl p0_bytes))] := hD
  have hf := Option.some.inj hf
  subst hf
  exact eRetV hx hb hr hlocks hP hD hS ⟨rfl, rfl⟩ dX7_copyFrom_24

def fX8_putSign (tI : Nat → Int32) (t_bytes : Nat → Int32) (p0 : Int32) : Option ((Nat → Int32) × (Nat → Int32)) :=
  (if (400 : Int32) ≤ (tI 1) then some (tI, t_bytes) else gd (gi (tI 1) 400) (some ((upd tI 1 ((tI 1) + (1 : Int32))), (upd t_bytes (tI 1).toNatClampNeg (vp_nar .byte (p0.toInt8.toInt32))))))
set_option maxRecDepth 100000 in
set_option maxHeartbeats 4000000 in
theorem tX8_putSign (l : Launch) (G : gG) (ad_t ad_t_bytes : Nat) (tI : Nat → Int32) (t_bytes : Nat → Int32) (p0 : Int32) (o : (Nat → Int32) × (Nat → Int32)) (hf : fX8_putSign tI t_bytes p0 = some o) : mE G l yX8_putSign cX8_putSign 2 none 0 0 0 0 [.ref ad_t, .int p0] [(ad_t, .inr (8, [.ref ad_t_bytes, .int (tI 1)])), (ad_t_bytes, .inl (G.2.1 1, 400, .inl t_bytes))] (fun r w => r = none ∧ w = [(ad_t, .inr (8, [.ref ad_t_bytes, .int (o.1 1)])), (ad_t_bytes, .inl (G.2.1 1, 400, .inl o.2))]) := by
  refine mE_of (by decide) (Nat.le_of_ble_eq_true rfl) ?_
  intro p e s m below meth cd ls A hx hb hml hown hts hr hlocks hnm hl hA hP hD hS hG
  have hK := hG.1
  have hown : s.vm.findClass RX8 = some m.cls := hown
  have hl : lv_has ls 2 [(0, .ref ad_t), (1, .int p0)] := hl
  have hS := hS
  unfold fX8_putSign at hf
  obtain ⟨H, locs, eH, eL⟩ : ∃ (H : Heap) (locs : List Loc), H = s.heap ∧ locs = [] := ⟨_, _, rfl, rfl⟩
  have hP : va_P G.1 vwCl [(ad_t, .inr (8, [.ref ad_t_bytes, .int (tI 1)])), (ad_t_bytes, .inl (G.2.1 1, 400, .inl t_bytes))] H := eH ▸ hP
  have hS : va_S A s.heap H locs := by rw [eH, eL]; exact hS
  suffices hgo : wG p l e 0 0 s m [.ref ad_t, .int p0] below meth cd H locs (eQ G A (fun r w => r = none ∧ w = [(ad_t, .inr (8, [.ref ad_t_bytes, .int (o.1 1)])), (ad_t_bytes, .inl (G.2.1 1, 400, .inl o.2))])) A (F0 m 0 ls []) by rw [eH, eL] at hgo; exact hgo
  clear eH eL
  refine lv_aload_n hx hb dX8_putSign_0 rfl (lv_at hl 0 rfl) ?_
  refine va_get (D := G.1) (cl := vwCl) (ci := 8) (v := .int (tI 1)) (C := RX8) (T := TX8) (N := 2) hx hb hts inG8 hown hK hP 0 rfl rfl 1 (Nat.le_of_ble_eq_true rfl) (hts _ q456) (fun _ h9 => h9) rfl dX8_putSign_1 ?_
  refine lv_sipush (v := 400) hx hb dX8_putSign_4 (by decide) ?_
  refine lv_icmp_ge (tgt := 31) hx hb dX8_putSign_7 (by decide) (fun c3 => ?_) (fun c3 => ?_)
  · have hf := if_t hf c3
    have hf := Option.some.inj hf
    subst hf
    exact eRetV hx hb hr hlocks hP hD hS ⟨rfl, rfl⟩ dX8_putSign_31
  · have hf := if_f hf c3
    refine lv_aload_n hx hb dX8_putSign_10 rfl (lv_at hl 0 rfl) ?_
    refine va_get (D := G.1) (cl := vwCl) (ci := 8) (v := .ref ad_t_bytes) (C := RX8) (T := TX8) (N := 2) hx hb hts inG8 hown hK hP 0 rfl rfl 0 (Nat.le_of_ble_eq_true rfl) (hts _ q454) (fun _ h9 => h9) rfl dX8_putSign_11 ?_
    refine lv_aload_n hx hb dX8_putSign_14 rfl (lv_at hl 0 rfl) ?_
    refine va_get (D := G.1) (cl := vwCl) (ci := 8) (v := .int (tI 1)) (C := RX8) (T := TX8) (N := 2) hx hb hts inG8 hown hK hP 0 rfl rfl 1 (Nat.le_of_ble_eq_true rfl) (hts _ q456) (fun _ h9 => h9) rfl dX8_putSign_15 ?_
    refine lv_iload_n hx hb dX8_putSign_18 rfl (lv_at hl 1 rfl) ?_
    refine lv_i2b (v := (p0.toInt8.toInt32)) hx hb dX8_putSign_19 rfl ?_
    obtain ⟨h4, hf⟩ := gd_some hf
    refine va_bast (D := G.1) (cl := vwCl) hx hb hK hP hD hS 1 1 rfl rfl (gi_in h4) dX8_putSign_20 (fun H locs hP hD hS => ?_)
    have hP : va_P G.1 vwCl [(ad_t, .inr (8, [.ref ad_t_bytes, .int (tI 1)])), (ad_t_bytes, .inl (G.2.1 1, 400, .inl (upd t_bytes (tI 1).toNatClampNeg (vp_nar .byte (p0.toInt8.toInt32)))))] H := hP
    have hD : va_D A [(ad_t, .inr (8, [.ref ad_t_bytes, .int (tI 1)])), (ad_t_bytes, .inl (G.2.1 1, 400, .inl (upd t_bytes (tI 1).toNatClampNeg (vp_nar .byte (p0.toInt8.toInt32)))))] := hD
    refine lv_aload_n hx hb dX8_putSign_21 rfl (lv_at hl 0 rfl) ?_
    refine lv_dup hx hb dX8_putSign_22 rfl ?_
    refine va_get (D := G.1) (cl := vwCl) (ci := 8) (v := .int (tI 1)) (C := RX8) (T := TX8) (N := 2) hx hb hts inG8 hown hK hP 0 rfl rfl 1 (Nat.le_of_ble_eq_true rfl) (hts _ q456) (fun _ h9 => h9) rfl dX8_putSign_23 ?_
    refine lv_iconst (v := 1) hx hb dX8_putSign_26 (by decide) ?_
    refine lv_iadd hx hb dX8_putSign_27 ?_
    refine va_put (D := G.1) (cl := vwCl) (ci := 8) (v := .int ((tI 1) + (1 : Int32))) (ty := .int) (C := RX8) (T := TX8) (N := 2) hx hb hts inG8 tyX8 tyX8_ok nmX8 hown hK hP hD hS 0 rfl rfl 1 (Nat.le_of_ble_eq_true rfl) (hts _ q456) (fun _ h9 => h9) rfl (tyX8_ok 1 (Nat.le_of_ble_eq_true rfl)) rfl rfl (Nat.le_of_ble_eq_true rfl) dX8_putSign_28 (fun H locs hP hD hS => ?_)
    have hP : va_P G.1 vwCl [(ad_t, .inr (8, [.ref ad_t_bytes, .int ((tI 1) + (1 : Int32))])), (ad_t_bytes, .inl (G.2.1 1, 400, .inl (upd t_bytes (tI 1).toNatClampNeg (vp_nar .byte (p0.toInt8.toInt32)))))] H := hP
    have hD : va_D A [(ad_t, .inr (8, [.ref ad_t_bytes, .int ((tI 1) + (1 : Int32))])), (ad_t_bytes, .inl (G.2.1 1, 400, .inl (upd t_bytes (tI 1).toNatClampNeg (vp_nar .byte (p0.toInt8.toInt32)))))] := hD
    have hf := Option.some.inj hf
    subst hf
    exact eRetV hx hb hr hlocks hP hD hS ⟨rfl, rfl⟩ dX8_putSign_31

def fX9_rowOf (tI : Nat → Int32) (p0 : Int32) : Int32 :=
  (p0 >>> ((tI 2) &&& 31))
set_option maxRecDepth 100000 in
set_option maxHeartbeats 4000000 in
theorem tX9_rowOf (l : Launch) (G : gG) (ad_t ad_t_repair : Nat) (tI : Nat → Int32) (p0 : Int32) (o : Int32) (hf : fX9_rowOf tI p0 = o) : mP G l yX9_rowOf cX9_rowOf 2 (some .int) 0 0 [.ref ad_t, .int p0] [(ad_t, .inr (9, [.ref ad_t_repair, .int (tI 1), .int (tI 2), .int (tI 3), .int (tI 4)]))] (some (.int o)) := by
  refine mP_of (by decide) (Nat.le_of_ble_eq_true rfl) ?_
  intro p e s m below meth cd ls hx hb hml hown hts hr hlocks hl hP hG
  have hK := hG.1
  have hown : s.vm.findClass RX9 = some m.cls := hown
  have hl : lv_has ls 2 [(0, .ref ad_t), (1, .int p0)] := hl
  have hS : va_S no s.heap s.heap [] := va_S.rf
  generalize ([] : List Loc) = locs at hS ⊢
  unfold fX9_rowOf at hf
  show wG p l e 0 0 s m [.ref ad_t, .int p0] below meth cd s.heap locs (pQ (some (.int o))) no (F0 m 0 ls [])
  refine lv_iload_n hx hb dX9_rowOf_0 rfl (lv_at hl 1 rfl) ?_
  refine lv_aload_n hx hb dX9_rowOf_1 rfl (lv_at hl 0 rfl) ?_
  refine va_get (D := G.1) (cl := vwCl) (ci := 9) (v := .int (tI 2)) (C := RX9) (T := TX9) (N := 5) hx hb hts inG9 hown hK hP 0 rfl rfl 2 (Nat.le_of_ble_eq_true rfl) (hts _ q323) (fun _ h9 => h9) rfl dX9_rowOf_2 ?_
  refine lv_ishr hx hb dX9_rowOf_5 ?_
  subst hf
  exact pRet hx hb hr hlocks hS dX9_rowOf_6

def fX9_offset (tI : Nat → Int32) (p0 : Int32) : Int32 :=
  (p0 &&& ((tI 1) - (1 : Int32)))
set_option maxRecDepth 100000 in
set_option maxHeartbeats 4000000 in
theorem tX9_offset (l : Launch) (G : gG) (ad_t ad_t_repair : Nat) (tI : Nat → Int32) (p0 : Int32) (o : Int32) (hf : fX9_offset tI p0 = o) : mP G l yX9_offset cX9_offset 2 (some .int) 0 0 [.ref ad_t, .int p0] [(ad_t, .inr (9, [.ref ad_t_repair, .int (tI 1), .int (tI 2), .int (tI 3), .int (tI 4)]))] (some (.int o)) := by
  refine mP_of (by decide) (Nat.le_of_ble_eq_true rfl) ?_
  intro p e s m below meth cd ls hx hb hml hown hts hr hlocks hl hP hG
  have hK := hG.1
  have hown : s.vm.findClass RX9 = some m.cls := hown
  have hl : lv_has ls 2 [(0, .ref ad_t), (1, .int p0)] := hl
  have hS : va_S no s.heap s.heap [] := va_S.rf
  generalize ([] : List Loc) = locs at hS ⊢
  unfold fX9_offset at hf
  show wG p l e 0 0 s m [.ref ad_t, .int p0] below meth cd s.heap locs (pQ (some (.int o))) no (F0 m 0 ls [])
  refine lv_iload_n hx hb dX9_offset_0 rfl (lv_at hl 1 rfl) ?_
  refine lv_aload_n hx hb dX9_offset_1 rfl (lv_at hl 0 rfl) ?_
  refine va_get (D := G.1) (cl := vwCl) (ci := 9) (v := .int (tI 1)) (C := RX9) (T := TX9) (N := 5) hx hb hts inG9 hown hK hP 0 rfl rfl 1 (Nat.le_of_ble_eq_true rfl) (hts _ q321) (fun _ h9 => h9) rfl dX9_offset_2 ?_
  refine lv_iconst (v := 1) hx hb dX9_offset_5 (by decide) ?_
  refine lv_isub hx hb dX9_offset_6 ?_
  refine lv_iand hx hb dX9_offset_7 ?_
  subst hf
  exact pRet hx hb hr hlocks hS dX9_offset_8

def fX9_rowPlace_l2 (x1 : Int32) (tI : Nat → Int32) (t_repairI : Nat → Int32) (t_repair_rows : Nat → Int32) : Nat → Int32 → Option ((Unit) ⊕ (Int32))
  | 0, _ => none
  | n + 1, x2 =>
    (if (t_repairI 2) ≤ x2 then some (.inl ()) else gd (gi x2 4) ((if (t_repair_rows x2.toNatClampNeg) = x1 then some (.inr ((tI 3) + x2)) else fX9_rowPlace_l2 x1 tI t_repairI t_repair_rows n (x2 + (1 : Int32)))))
def fX9_rowPlace (tI : Nat → Int32) (t_repairI : Nat → Int32) (t_repair_rows : Nat → Int32) (p0 : Int32) : Option (Int32) :=
  (bn (fX9_rowPlace_l2 p0 tI t_repairI t_repair_rows FU (0 : Int32)) fun y4 => match y4 with | .inl y4z => some p0 | .inr y4o => some y4o)
set_option maxRecDepth 100000 in
set_option maxHeartbeats 4000000 in
theorem tX9_rowPlace (l : Launch) (G : gG) (ad_t ad_t_repair ad_t_repair_rows ad_t_repair_columns ad_t_repair_candidates ad_t_repair_left : Nat) (tI : Nat → Int32) (t_repairI : Nat → Int32) (t_repair_rows : Nat → Int32) (p0 : Int32) (o : Int32) (hf : fX9_rowPlace tI t_repairI t_repair_rows p0 = some o) : mP G l yX9_rowPlace cX9_rowPlace 3 (some .int) 0 0 [.ref ad_t, .int p0] [(ad_t, .inr (9, [.ref ad_t_repair, .int (tI 1), .int (tI 2), .int (tI 3), .int (tI 4)])), (ad_t_repair, .inr (3, [.ref ad_t_repair_rows, .ref ad_t_repair_columns, .int (t_repairI 2), .int (t_repairI 3), .int (t_repairI 4), .int (t_repairI 5), .ref ad_t_repair_candidates, .ref ad_t_repair_left, .int (t_repairI 8)])), (ad_t_repair_rows, .inl (G.2.1 0, 4, .inl t_repair_rows))] (some (.int o)) := by
  refine mP_of (by decide) (Nat.le_of_ble_eq_true rfl) ?_
  intro p e s m below meth cd ls hx hb hml hown hts hr hlocks hl hP hG
  have hK := hG.1
  have hown : s.vm.findClass RX9 = some m.cls := hown
  have hl : lv_has ls 3 [(0, .ref ad_t), (1, .int p0)] := hl
  have hS : va_S no s.heap s.heap [] := va_S.rf
  generalize ([] : List Loc) = locs at hS ⊢
  unfold fX9_rowPlace at hf
  show wG p l e 0 0 s m [.ref ad_t, .int p0] below meth cd s.heap locs (pQ (some (.int o))) no (F0 m 0 ls [])
  refine lv_iconst (v := 0) hx hb dX9_rowPlace_0 (by decide) ?_
  refine lv_istore_n (lv' := [(2, .int (0 : Int32)), (0, .ref ad_t), (1, .int p0)]) hx hb dX9_rowPlace_1 rfl hl (by decide) rfl (fun ls hl => ?_)
  obtain ⟨y5, hLy5, hky5⟩ := bn_some hf
  have Ey5 : ∀ y5z, y5 = .inl y5z → ∀  (locs : List Loc) (ls : Array Slot), lv_has ls 3 [(1, .int p0)] → va_S no s.heap s.heap locs → wG p l e 0 0 s m [.ref ad_t, .int p0] below meth cd s.heap locs (pQ (some (.int o))) no (F0 m 39 ls []) := by
    intro y5z ez
    intro  locs ls hl hS
    subst ez
    have hf := hky5
    (try dsimp only at hf)
    refine lv_iload_n hx hb dX9_rowPlace_39 rfl (lv_at hl 0 rfl) ?_
    have hf := Option.some.inj hf
    subst hf
    exact pRet hx hb hr hlocks hS dX9_rowPlace_40
  have Ly5 : ∀ (n : Nat), ∀ (x6 : Int32) (locs : List Loc) (ls : Array Slot), lv_has ls 3 [(2, .int x6), (0, .ref ad_t), (1, .int p0)] → va_S no s.heap s.heap locs → fX9_rowPlace_l2 p0 tI t_repairI t_repair_rows n x6 = some y5 → wG p l e 0 0 s m [.ref ad_t, .int p0] below meth cd s.heap locs (pQ (some (.int o))) no (F0 m 2 ls []) := by
    intro n
    induction n with
    | zero =>
      intro x6 locs ls hl hS hf
      rw [fX9_rowPlace_l2] at hf
      cases hf
    | succ n ih =>
      intro x6 locs ls hl hS hf
      rw [fX9_rowPlace_l2] at hf
      refine lv_iload_n hx hb dX9_rowPlace_2 rfl (lv_at hl 0 rfl) ?_
      refine lv_aload_n hx hb dX9_rowPlace_3 rfl (lv_at hl 1 rfl) ?_
      refine va_get (D := G.1) (cl := vwCl) (ci := 9) (v := .ref ad_t_repair) (C := RX9) (T := TX9) (N := 5) hx hb hts inG9 hown hK hP 0 rfl rfl 0 (Nat.le_of_ble_eq_true rfl) (hts _ q319) (fun _ h9 => h9) rfl dX9_rowPlace_4 ?_
      refine va_get (D := G.1) (cl := vwCl) (ci := 3) (v := .int (t_repairI 2)) (C := RX3) (T := TX3) (N := 9) hx hb hts inG3 hown hK hP 1 rfl rfl 2 (Nat.le_of_ble_eq_true rfl) (hts _ q286) (fun _ h9 => h9) rfl dX9_rowPlace_7 ?_
      refine lv_icmp_ge (tgt := 39) hx hb dX9_rowPlace_10 (by decide) (fun c7 => ?_) (fun c7 => ?_)
      · have hf := if_t hf c7
        have hf := Option.some.inj hf
        subst hf
        exact Ey5 _ rfl locs ls (lv_sub hl [2] rfl) hS 
      · have hf := if_f hf c7
        refine lv_aload_n hx hb dX9_rowPlace_13 rfl (lv_at hl 1 rfl) ?_
        refine va_get (D := G.1) (cl := vwCl) (ci := 9) (v := .ref ad_t_repair) (C := RX9) (T := TX9) (N := 5) hx hb hts inG9 hown hK hP 0 rfl rfl 0 (Nat.le_of_ble_eq_true rfl) (hts _ q319) (fun _ h9 => h9) rfl dX9_rowPlace_14 ?_
        refine va_get (D := G.1) (cl := vwCl) (ci := 3) (v := .ref ad_t_repair_rows) (C := RX3) (T := TX3) (N := 9) hx hb hts inG3 hown hK hP 1 rfl rfl 0 (Nat.le_of_ble_eq_true rfl) (hts _ q279) (fun _ h9 => h9) rfl dX9_rowPlace_17 ?_
        refine lv_iload_n hx hb dX9_rowPlace_20 rfl (lv_at hl 0 rfl) ?_
        obtain ⟨h8, hf⟩ := gd_some hf
        refine va_iald (D := G.1) (cl := vwCl) hx hb hK hP 2 0 rfl rfl (gi_in h8) dX9_rowPlace_21 ?_
        refine lv_iload_n hx hb dX9_rowPlace_22 rfl (lv_at hl 2 rfl) ?_
        refine lv_icmp_ne (tgt := 33) hx hb dX9_rowPlace_23 (by decide) (fun c9 => ?_) (fun c9 => ?_)
        · have hf := if_f hf c9
          refine lv_iinc (v := (x6 + (1 : Int32))) (lv' := [(2, .int (x6 + (1 : Int32))), (0, .ref ad_t), (1, .int p0)]) hx hb dX9_rowPlace_33 hl (k := 0) rfl (ii_1 _) (by decide) rfl (fun ls hl => ?_)
          refine lv_goto (tgt := 2) hx hb dX9_rowPlace_36 (by decide) ?_
          exact ih (x6 + (1 : Int32)) locs ls (lv_sub hl [0, 1, 2] rfl) hS hf
        · have hf := if_t hf c9
          refine lv_aload_n hx hb dX9_rowPlace_26 rfl (lv_at hl 1 rfl) ?_
          refine va_get (D := G.1) (cl := vwCl) (ci := 9) (v := .int (tI 3)) (C := RX9) (T := TX9) (N := 5) hx hb hts inG9 hown hK hP 0 rfl rfl 3 (Nat.le_of_ble_eq_true rfl) (hts _ q324) (fun _ h9 => h9) rfl dX9_rowPlace_27 ?_
          refine lv_iload_n hx hb dX9_rowPlace_30 rfl (lv_at hl 0 rfl) ?_
          refine lv_iadd hx hb dX9_rowPlace_31 ?_
          have hf := Option.some.inj hf
          subst hf
          have hf := hky5
          (try dsimp only at hf)
          have hf := Option.some.inj hf
          subst hf
          exact pRet hx hb hr hlocks hS dX9_rowPlace_32
  exact Ly5 FU (0 : Int32) locs ls (lv_sub hl [0, 1, 2] rfl) hS hLy5

def fX9_columnPlace_l2 (x1 : Int32) (tI : Nat → Int32) (t_repairI : Nat → Int32) (t_repair_columns : Nat → Int32) : Nat → Int32 → Option ((Unit) ⊕ (Int32))
  | 0, _ => none
  | n + 1, x2 =>
    (if (t_repairI 3) ≤ x2 then some (.inl ()) else gd (gi x2 2) ((if (t_repair_columns x2.toNatClampNeg) = x1 then some (.inr ((tI 4) + x2)) else fX9_columnPlace_l2 x1 tI t_repairI t_repair_columns n (x2 + (1 : Int32)))))
def fX9_columnPlace (tI : Nat → Int32) (t_repairI : Nat → Int32) (t_repair_columns : Nat → Int32) (p0 : Int32) : Option (Int32) :=
  (bn (fX9_columnPlace_l2 p0 tI t_repairI t_repair_columns FU (0 : Int32)) fun y4 => match y4 with | .inl y4z => some p0 | .inr y4o => some y4o)
set_option maxRecDepth 100000 in
set_option maxHeartbeats 4000000 in
theorem tX9_columnPlace (l : Launch) (G : gG) (ad_t ad_t_repair ad_t_repair_rows ad_t_repair_columns ad_t_repair_candidates ad_t_repair_left : Nat) (tI : Nat → Int32) (t_repairI : Nat → Int32) (t_repair_columns : Nat → Int32) (p0 : Int32) (o : Int32) (hf : fX9_columnPlace tI t_repairI t_repair_columns p0 = some o) : mP G l yX9_columnPlace cX9_columnPlace 3 (some .int) 0 0 [.ref ad_t, .int p0] [(ad_t, .inr (9, [.ref ad_t_repair, .int (tI 1), .int (tI 2), .int (tI 3), .int (tI 4)])), (ad_t_repair, .inr (3, [.ref ad_t_repair_rows, .ref ad_t_repair_columns, .int (t_repairI 2), .int (t_repairI 3), .int (t_repairI 4), .int (t_repairI 5), .ref ad_t_repair_candidates, .ref ad_t_repair_left, .int (t_repairI 8)])), (ad_t_repair_columns, .inl (G.2.1 0, 2, .inl t_repair_columns))] (some (.int o)) := by
  refine mP_of (by decide) (Nat.le_of_ble_eq_true rfl) ?_
  intro p e s m below meth cd ls hx hb hml hown hts hr hlocks hl hP hG
  have hK := hG.1
  have hown : s.vm.findClass RX9 = some m.cls := hown
  have hl : lv_has ls 3 [(0, .ref ad_t), (1, .int p0)] := hl
  have hS : va_S no s.heap s.heap [] := va_S.rf
  generalize ([] : List Loc) = locs at hS ⊢
  unfold fX9_columnPlace at hf
  show wG p l e 0 0 s m [.ref ad_t, .int p0] below meth cd s.heap locs (pQ (some (.int o))) no (F0 m 0 ls [])
  refine lv_iconst (v := 0) hx hb dX9_columnPlace_0 (by decide) ?_
  refine lv_istore_n (lv' := [(2, .int (0 : Int32)), (0, .ref ad_t), (1, .int p0)]) hx hb dX9_columnPlace_1 rfl hl (by decide) rfl (fun ls hl => ?_)
  obtain ⟨y5, hLy5, hky5⟩ := bn_some hf
  have Ey5 : ∀ y5z, y5 = .inl y5z → ∀  (locs : List Loc) (ls : Array Slot), lv_has ls 3 [(1, .int p0)] → va_S no s.heap s.heap locs → wG p l e 0 0 s m [.ref ad_t, .int p0] below meth cd s.heap locs (pQ (some (.int o))) no (F0 m 39 ls []) := by
    intro y5z ez
    intro  locs ls hl hS
    subst ez
    have hf := hky5
    (try dsimp only at hf)
    refine lv_iload_n hx hb dX9_columnPlace_39 rfl (lv_at hl 0 rfl) ?_
    have hf := Option.some.inj hf
    subst hf
    exact pRet hx hb hr hlocks hS dX9_columnPlace_40
  have Ly5 : ∀ (n : Nat), ∀ (x6 : Int32) (locs : List Loc) (ls : Array Slot), lv_has ls 3 [(2, .int x6), (0, .ref ad_t), (1, .int p0)] → va_S no s.heap s.heap locs → fX9_columnPlace_l2 p0 tI t_repairI t_repair_columns n x6 = some y5 → wG p l e 0 0 s m [.ref ad_t, .int p0] below meth cd s.heap locs (pQ (some (.int o))) no (F0 m 2 ls []) := by
    intro n
    induction n with
    | zero =>
      intro x6 locs ls hl hS hf
      rw [fX9_columnPlace_l2] at hf
      cases hf
    | succ n ih =>
      intro x6 locs ls hl hS hf
      rw [fX9_columnPlace_l2] at hf
      refine lv_iload_n hx hb dX9_columnPlace_2 rfl (lv_at hl 0 rfl) ?_
      refine lv_aload_n hx hb dX9_columnPlace_3 rfl (lv_at hl 1 rfl) ?_
      refine va_get (D := G.1) (cl := vwCl) (ci := 9) (v := .ref ad_t_repair) (C := RX9) (T := TX9) (N := 5) hx hb hts inG9 hown hK hP 0 rfl rfl 0 (Nat.le_of_ble_eq_true rfl) (hts _ q319) (fun _ h9 => h9) rfl dX9_columnPlace_4 ?_
      refine va_get (D := G.1) (cl := vwCl) (ci := 3) (v := .int (t_repairI 3)) (C := RX3) (T := TX3) (N := 9) hx hb hts inG3 hown hK hP 1 rfl rfl 3 (Nat.le_of_ble_eq_true rfl) (hts _ q290) (fun _ h9 => h9) rfl dX9_columnPlace_7 ?_
      refine lv_icmp_ge (tgt := 39) hx hb dX9_columnPlace_10 (by decide) (fun c7 => ?_) (fun c7 => ?_)
      · have hf := if_t hf c7
        have hf := Option.some.inj hf
        subst hf
        exact Ey5 _ rfl locs ls (lv_sub hl [2] rfl) hS 
      · have hf := if_f hf c7
        refine lv_aload_n hx hb dX9_columnPlace_13 rfl (lv_at hl 1 rfl) ?_
        refine va_get (D := G.1) (cl := vwCl) (ci := 9) (v := .ref ad_t_repair) (C := RX9) (T := TX9) (N := 5) hx hb hts inG9 hown hK hP 0 rfl rfl 0 (Nat.le_of_ble_eq_true rfl) (hts _ q319) (fun _ h9 => h9) rfl dX9_columnPlace_14 ?_
        refine va_get (D := G.1) (cl := vwCl) (ci := 3) (v := .ref ad_t_repair_columns) (C := RX3) (T := TX3) (N := 9) hx hb hts inG3 hown hK hP 1 rfl rfl 1 (Nat.le_of_ble_eq_true rfl) (hts _ q282) (fun _ h9 => h9) rfl dX9_columnPlace_17 ?_
        refine lv_iload_n hx hb dX9_columnPlace_20 rfl (lv_at hl 0 rfl) ?_
        obtain ⟨h8, hf⟩ := gd_some hf
        refine va_iald (D := G.1) (cl := vwCl) hx hb hK hP 2 0 rfl rfl (gi_in h8) dX9_columnPlace_21 ?_
        refine lv_iload_n hx hb dX9_columnPlace_22 rfl (lv_at hl 2 rfl) ?_
        refine lv_icmp_ne (tgt := 33) hx hb dX9_columnPlace_23 (by decide) (fun c9 => ?_) (fun c9 => ?_)
        · have hf := if_f hf c9
          refine lv_iinc (v := (x6 + (1 : Int32))) (lv' := [(2, .int (x6 + (1 : Int32))), (0, .ref ad_t), (1, .int p0)]) hx hb dX9_columnPlace_33 hl (k := 0) rfl (ii_1 _) (by decide) rfl (fun ls hl => ?_)
          refine lv_goto (tgt := 2) hx hb dX9_columnPlace_36 (by decide) ?_
          exact ih (x6 + (1 : Int32)) locs ls (lv_sub hl [0, 1, 2] rfl) hS hf
        · have hf := if_t hf c9
          refine lv_aload_n hx hb dX9_columnPlace_26 rfl (lv_at hl 1 rfl) ?_
          refine va_get (D := G.1) (cl := vwCl) (ci := 9) (v := .int (tI 4)) (C := RX9) (T := TX9) (N := 5) hx hb hts inG9 hown hK hP 0 rfl rfl 4 (Nat.le_of_ble_eq_true rfl) (hts _ q326) (fun _ h9 => h9) rfl dX9_columnPlace_27 ?_
          refine lv_iload_n hx hb dX9_columnPlace_30 rfl (lv_at hl 0 rfl) ?_
          refine lv_iadd hx hb dX9_columnPlace_31 ?_
          have hf := Option.some.inj hf
          subst hf
          have hf := hky5
          (try dsimp only at hf)
          have hf := Option.some.inj hf
          subst hf
          exact pRet hx hb hr hlocks hS dX9_columnPlace_32
  exact Ly5 FU (0 : Int32) locs ls (lv_sub hl [0, 1, 2] rfl) hS hLy5

def fX9_withStuck_l6 (x2 : Int32) (tI : Nat → Int32) (p0I : Nat → Int32) (p0_badRows : Nat → Int32) (p0_badColumns : Nat → Int32) (p0_badBits : Nat → Int32) : Nat → Int32 → Int32 → Option (Int32)
  | 0, _, _ => none
  | n + 1, x4, x5 =>
    (if (p0I 4) ≤ x5 then some x4 else gd (gi x5 12) (gd (gi x5 12) ((if (p0_badRows x5.toNatClampNeg) = (fX9_rowOf tI x2) then (if (fX9_offset tI (p0_badColumns x5.toNatClampNeg)) = (fX9_offset tI x2) then gd (gi x5 12) (fX9_withStuck_l6 x2 tI p0I p0_badRows p0_badColumns p0_badBits n (fX0_withBit x4 ((p0_badColumns x5.toNatClampNeg) >>> ((tI 2) &&& 31)) (p0_badBits x5.toNatClampNeg)) (x5 + (1 : Int32))) else fX9_withStuck_l6 x2 tI p0I p0_badRows p0_badColumns p0_badBits n x4 (x5 + (1 : Int32))) else fX9_withStuck_l6 x2 tI p0I p0_badRows p0_badColumns p0_badBits n x4 (x5 + (1 : Int32))))))
def fX9_withStuck (tI : Nat → Int32) (p0I : Nat → Int32) (p0_badRows : Nat → Int32) (p0_badColumns : Nat → Int32) (p0_badBits : Nat → Int32) (p1 : Int32) (p2 : Int32) : Option (Int32) :=
  bn (fX9_withStuck_l6 p1 tI p0I p0_badRows p0_badColumns p0_badBits FU p2 (0 : Int32)) fun y7 => some y7
set_option maxRecDepth 100000 in
set_option maxHeartbeats 4000000 in
theorem tX9_withStuck (l : Launch) (G : gG) (ad_t ad_t_repair ad_p0 ad_p0_numbers ad_p0_badRows ad_p0_badColumns ad_p0_badBits : Nat) (tI : Nat → Int32) (p0I : Nat → Int32) (p0_badRows : Nat → Int32) (p0_badColumns : Nat → Int32) (p0_badBits : Nat → Int32) (p1 : Int32) (p2 : Int32) (o : Int32) (hf : fX9_withStuck tI p0I p0_badRows p0_badColumns p0_badBits p1 p2 = some o) : mP G l yX9_withStuck cX9_withStuck 7 (some .int) 1 22 [.ref ad_t, .ref ad_p0, .int p1, .int p2] [(ad_t, .inr (9, [.ref ad_t_repair, .int (tI 1), .int (tI 2), .int (tI 3), .int (tI 4)])), (ad_p0, .inr (5, [.ref ad_p0_numbers, .ref ad_p0_badRows, .ref ad_p0_badColumns, .ref ad_p0_badBits, .int (p0I 4)])), (ad_p0_badRows, .inl (G.2.1 0, 12, .inl p0_badRows)), (ad_p0_badColumns, .inl (G.2.1 0, 12, .inl p0_badColumns)), (ad_p0_badBits, .inl (G.2.1 0, 12, .inl p0_badBits))] (some (.int o)) := by
  refine mP_of (by decide) (Nat.le_of_ble_eq_true rfl) ?_
  intro p e s m below meth cd ls hx hb hml hown hts hr hlocks hl hP hG
  have hK := hG.1
  have hown : s.vm.findClass RX9 = some m.cls := hown
  have hl : lv_has ls 7 [(0, .ref ad_t), (1, .ref ad_p0), (2, .int p1), (3, .int p2)] := hl
  have hS : va_S no s.heap s.heap [] := va_S.rf
  generalize ([] : List Loc) = locs at hS ⊢
  unfold fX9_withStuck at hf
  show wG p l e 1 22 s m [.ref ad_t, .ref ad_p0, .int p1, .int p2] below meth cd s.heap locs (pQ (some (.int o))) no (F0 m 0 ls [])
  refine lv_iload_n hx hb dX9_withStuck_0 rfl (lv_at hl 3 rfl) ?_
  refine lv_istore (lv' := [(4, .int p2), (0, .ref ad_t), (1, .ref ad_p0), (2, .int p1), (3, .int p2)]) hx hb dX9_withStuck_1 hl (by decide) rfl (fun ls hl => ?_)
  refine lv_iconst (v := 0) hx hb dX9_withStuck_3 (by decide) ?_
  refine lv_istore (lv' := [(5, .int (0 : Int32)), (4, .int p2), (0, .ref ad_t), (1, .ref ad_p0), (2, .int p1), (3, .int p2)]) hx hb dX9_withStuck_4 hl (by decide) rfl (fun ls hl => ?_)
  obtain ⟨y8, hLy8, hky8⟩ := bn_some hf
  have Ey8 : ∀  (locs : List Loc) (ls : Array Slot), lv_has ls 7 [(4, .int y8)] → va_S no s.heap s.heap locs → wG p l e 1 22 s m [.ref ad_t, .ref ad_p0, .int p1, .int p2] below meth cd s.heap locs (pQ (some (.int o))) no (F0 m 80 ls []) := by
    intro  locs ls hl hS
    have hf := hky8
    refine lv_iload hx hb dX9_withStuck_80 (lv_at hl 0 rfl) ?_
    have hf := Option.some.inj hf
    subst hf
    exact pRet hx hb hr hlocks hS dX9_withStuck_82
  have Ly8 : ∀ (n : Nat), ∀ (x9 : Int32) (x10 : Int32) (locs : List Loc) (ls : Array Slot), lv_has ls 7 [(5, .int x10), (4, .int x9), (0, .ref ad_t), (1, .ref ad_p0), (2, .int p1)] → va_S no s.heap s.heap locs → fX9_withStuck_l6 p1 tI p0I p0_badRows p0_badColumns p0_badBits n x9 x10 = some y8 → wG p l e 1 22 s m [.ref ad_t, .ref ad_p0, .int p1, .int p2] below meth cd s.heap locs (pQ (some (.int o))) no (F0 m 6 ls []) := by
    intro n
    induction n with
    | zero =>
      intro x9 x10 locs ls hl hS hf
      rw [fX9_withStuck_l6] at hf
      cases hf
    | succ n ih =>
      intro x9 x10 locs ls hl hS hf
      rw [fX9_withStuck_l6] at hf
      refine lv_iload hx hb dX9_withStuck_6 (lv_at hl 0 rfl) ?_
      refine lv_aload_n hx hb dX9_withStuck_8 rfl (lv_at hl 3 rfl) ?_
      refine va_get (D := G.1) (cl := vwCl) (ci := 5) (v := .int (p0I 4)) (C := RX5) (T := TX5) (N := 5) hx hb hts inG5 hown hK hP 1 rfl rfl 4 (Nat.le_of_ble_eq_true rfl) (hts _ q174) (fun _ h9 => h9) rfl dX9_withStuck_9 ?_
      refine lv_icmp_ge (tgt := 80) hx hb dX9_withStuck_12 (by decide) (fun c11 => ?_) (fun c11 => ?_)
      · have hf := if_t hf c11
        have hf := Option.some.inj hf
        subst hf
        exact Ey8  locs ls (lv_sub hl [1] rfl) hS 
      · have hf := if_f hf c11
        refine lv_aload_n hx hb dX9_withStuck_15 rfl (lv_at hl 3 rfl) ?_
        refine va_get (D := G.1) (cl := vwCl) (ci := 5) (v := .ref ad_p0_badColumns) (C := RX5) (T := TX5) (N := 5) hx hb hts inG5 hown hK hP 1 rfl rfl 2 (Nat.le_of_ble_eq_true rfl) (hts _ q163) (fun _ h9 => h9) rfl dX9_withStuck_16 ?_
        refine lv_iload hx hb dX9_withStuck_19 (lv_at hl 0 rfl) ?_
        obtain ⟨h12, hf⟩ := gd_some hf
        refine va_iald (D := G.1) (cl := vwCl) hx hb hK hP 3 0 rfl rfl (gi_in h12) dX9_withStuck_21 ?_
        refine lv_istore (lv' := [(6, .int (p0_badColumns x10.toNatClampNeg)), (5, .int x10), (4, .int x9), (0, .ref ad_t), (1, .ref ad_p0), (2, .int p1)]) hx hb dX9_withStuck_22 hl (by decide) rfl (fun ls hl => ?_)
        refine lv_aload_n hx hb dX9_withStuck_24 rfl (lv_at hl 4 rfl) ?_
        refine va_get (D := G.1) (cl := vwCl) (ci := 5) (v := .ref ad_p0_badRows) (C := RX5) (T := TX5) (N := 5) hx hb hts inG5 hown hK hP 1 rfl rfl 1 (Nat.le_of_ble_eq_true rfl) (hts _ q158) (fun _ h9 => h9) rfl dX9_withStuck_25 ?_
        refine lv_iload hx hb dX9_withStuck_28 (lv_at hl 1 rfl) ?_
        obtain ⟨h13, hf⟩ := gd_some hf
        refine va_iald (D := G.1) (cl := vwCl) hx hb hK hP 2 0 rfl rfl (gi_in h13) dX9_withStuck_30 ?_
        refine lv_aload_n hx hb dX9_withStuck_31 rfl (lv_at hl 3 rfl) ?_
        refine lv_iload_n hx hb dX9_withStuck_32 rfl (lv_at hl 5 rfl) ?_
        refine kPV (tX9_rowOf l G ad_t ad_t_repair tI p1 _ rfl) ⟨hx, hb, hml, hown, hts⟩ q843 q844 q845 q101 q846 okyX9_rowOf ⟨Nat.le_of_ble_eq_true rfl, Nat.le_of_ble_eq_true rfl⟩ hP hG hS [0] rfl 0 rfl rfl hl.1 rfl (Nat.le_of_ble_eq_true rfl) dX9_withStuck_33 ⟨Nat.zero_le _, Nat.zero_le _⟩ (fun locs hS => ?_)
        refine W.eq (g2 := F0 m 36 ls [.int (fX9_rowOf tI p1), .int (p0_badRows x10.toNatClampNeg)]) rfl ?_
        refine lv_icmp_ne (tgt := 74) hx hb dX9_withStuck_36 (by decide) (fun c14 => ?_) (fun c14 => ?_)
        · have hf := if_f hf c14
          refine lv_iinc (v := (x10 + (1 : Int32))) (lv' := [(5, .int (x10 + (1 : Int32))), (6, .int (p0_badColumns x10.toNatClampNeg)), (4, .int x9), (0, .ref ad_t), (1, .ref ad_p0), (2, .int p1)]) hx hb dX9_withStuck_74 hl (k := 1) rfl (ii_1 _) (by decide) rfl (fun ls hl => ?_)
          refine lv_goto (tgt := 6) hx hb dX9_withStuck_77 (by decide) ?_
          exact ih x9 (x10 + (1 : Int32)) locs ls (lv_sub hl [0, 2, 3, 4, 5] rfl) hS hf
        · have hf := if_t hf c14
          refine lv_aload_n hx hb dX9_withStuck_39 rfl (lv_at hl 3 rfl) ?_
          refine lv_iload hx hb dX9_withStuck_40 (lv_at hl 0 rfl) ?_
          refine kPV (tX9_offset l G ad_t ad_t_repair tI (p0_badColumns x10.toNatClampNeg) _ rfl) ⟨hx, hb, hml, hown, hts⟩ q851 q853 q30 q101 q854 okyX9_offset ⟨Nat.le_of_ble_eq_true rfl, Nat.le_of_ble_eq_true rfl⟩ hP hG hS [0] rfl 0 rfl rfl hl.1 rfl (Nat.le_of_ble_eq_true rfl) dX9_withStuck_42 ⟨Nat.zero_le _, Nat.zero_le _⟩ (fun locs hS => ?_)
          refine W.eq (g2 := F0 m 45 ls [.int (fX9_offset tI (p0_badColumns x10.toNatClampNeg))]) rfl ?_
          refine lv_aload_n hx hb dX9_withStuck_45 rfl (lv_at hl 3 rfl) ?_
          refine lv_iload_n hx hb dX9_withStuck_46 rfl (lv_at hl 5 rfl) ?_
          refine kPV (tX9_offset l G ad_t ad_t_repair tI p1 _ rfl) ⟨hx, hb, hml, hown, hts⟩ q851 q853 q30 q101 q854 okyX9_offset ⟨Nat.le_of_ble_eq_true rfl, Nat.le_of_ble_eq_true rfl⟩ hP hG hS [0] rfl 0 rfl rfl hl.1 rfl (Nat.le_of_ble_eq_true rfl) dX9_withStuck_47 ⟨Nat.zero_le _, Nat.zero_le _⟩ (fun locs hS => ?_)
          refine W.eq (g2 := F0 m 50 ls [.int (fX9_offset tI p1), .int (fX9_offset tI (p0_badColumns x10.toNatClampNeg))]) rfl ?_
          refine lv_icmp_ne (tgt := 74) hx hb dX9_withStuck_50 (by decide) (fun c15 => ?_) (fun c15 => ?_)
          · have hf := if_f hf c15
            refine lv_iinc (v := (x10 + (1 : Int32))) (lv' := [(5, .int (x10 + (1 : Int32))), (6, .int (p0_badColumns x10.toNatClampNeg)), (4, .int x9), (0, .ref ad_t), (1, .ref ad_p0), (2, .int p1)]) hx hb dX9_withStuck_74 hl (k := 1) rfl (ii_1 _) (by decide) rfl (fun ls hl => ?_)
            refine lv_goto (tgt := 6) hx hb dX9_withStuck_77 (by decide) ?_
            exact ih x9 (x10 + (1 : Int32)) locs ls (lv_sub hl [0, 2, 3, 4, 5] rfl) hS hf
          · have hf := if_t hf c15
            refine lv_iload hx hb dX9_withStuck_53 (lv_at hl 2 rfl) ?_
            refine lv_iload hx hb dX9_withStuck_55 (lv_at hl 0 rfl) ?_
            refine lv_aload_n hx hb dX9_withStuck_57 rfl (lv_at hl 3 rfl) ?_
            refine va_get (D := G.1) (cl := vwCl) (ci := 9) (v := .int (tI 2)) (C := RX9) (T := TX9) (N := 5) hx hb hts inG9 hown hK hP 0 rfl rfl 2 (Nat.le_of_ble_eq_true rfl) (hts _ q323) (fun _ h9 => h9) rfl dX9_withStuck_58 ?_
            refine lv_ishr hx hb dX9_withStuck_61 ?_
            refine lv_aload_n hx hb dX9_withStuck_62 rfl (lv_at hl 4 rfl) ?_
            refine va_get (D := G.1) (cl := vwCl) (ci := 5) (v := .ref ad_p0_badBits) (C := RX5) (T := TX5) (N := 5) hx hb hts inG5 hown hK hP 1 rfl rfl 3 (Nat.le_of_ble_eq_true rfl) (hts _ q167) (fun _ h9 => h9) rfl dX9_withStuck_63 ?_
            refine lv_iload hx hb dX9_withStuck_66 (lv_at hl 1 rfl) ?_
            obtain ⟨h16, hf⟩ := gd_some hf
            refine va_iald (D := G.1) (cl := vwCl) hx hb hK hP 4 0 rfl rfl (gi_in h16) dX9_withStuck_68 ?_
            refine kPS (tX0_withBit l G x9 ((p0_badColumns x10.toNatClampNeg) >>> ((tI 2) &&& 31)) (p0_badBits x10.toNatClampNeg) _ rfl) ⟨hx, hb, hml, hown, hts⟩ q862 q860 q96 q861 okyX0_withBit ⟨Nat.le_of_ble_eq_true rfl, Nat.le_of_ble_eq_true rfl⟩ hP hG hS [] rfl hl.1 rfl (Nat.le_of_ble_eq_true rfl) dX9_withStuck_69 ⟨Nat.zero_le _, Nat.zero_le _⟩ (fun locs hS => ?_)
            refine W.eq (g2 := F0 m 72 ls [.int (fX0_withBit x9 ((p0_badColumns x10.toNatClampNeg) >>> ((tI 2) &&& 31)) (p0_badBits x10.toNatClampNeg))]) rfl ?_
            refine lv_istore (lv' := [(4, .int (fX0_withBit x9 ((p0_badColumns x10.toNatClampNeg) >>> ((tI 2) &&& 31)) (p0_badBits x10.toNatClampNeg))), (6, .int (p0_badColumns x10.toNatClampNeg)), (5, .int x10), (0, .ref ad_t), (1, .ref ad_p0), (2, .int p1)]) hx hb dX9_withStuck_72 hl (by decide) rfl (fun ls hl => ?_)
            refine lv_iinc (v := (x10 + (1 : Int32))) (lv' := [(5, .int (x10 + (1 : Int32))), (4, .int (fX0_withBit x9 ((p0_badColumns x10.toNatClampNeg) >>> ((tI 2) &&& 31)) (p0_badBits x10.toNatClampNeg))), (6, .int (p0_badColumns x10.toNatClampNeg)), (0, .ref ad_t), (1, .ref ad_p0), (2, .int p1)]) hx hb dX9_withStuck_74 hl (k := 2) rfl (ii_1 _) (by decide) rfl (fun ls hl => ?_)
            refine lv_goto (tgt := 6) hx hb dX9_withStuck_77 (by decide) ?_
            exact ih (fX0_withBit x9 ((p0_badColumns x10.toNatClampNeg) >>> ((tI 2) &&& 31)) (p0_badBits x10.toNatClampNeg)) (x10 + (1 : Int32)) locs ls (lv_sub hl [0, 1, 3, 4, 5] rfl) hS hf
  exact Ly8 FU p2 (0 : Int32) locs ls (lv_sub hl [0, 1, 2, 3, 4] rfl) hS hLy8
