def fX8_putNumber_l9 (x1 : Int32) : Nat → Int32 → (Nat → Int32) → (Nat → Int32) → Option ((Nat → Int32) × (Nat → Int32))
  | 0, _, _, _ => none
  | n + 1, x2, tI, t_bytes =>
    (if x2 ≤ 0 then some (tI, t_bytes) else (if x2 = (1 : Int32) then gd (nz x2) (bn (fX8_putSign tI t_bytes ((((48 : Int32) + ((x1 / x2) - (x1 / x2) / (10 : Int32) * (10 : Int32))).toUInt32 % 65536).toInt32)) fun a6 => fX8_putNumber_l9 x1 n (x2 / (10 : Int32)) a6.1 a6.2) else (if x1 < x2 then fX8_putNumber_l9 x1 n (x2 / (10 : Int32)) tI t_bytes else gd (nz x2) (bn (fX8_putSign tI t_bytes ((((48 : Int32) + ((x1 / x2) - (x1 / x2) / (10 : Int32) * (10 : Int32))).toUInt32 % 65536).toInt32)) fun a10 => fX8_putNumber_l9 x1 n (x2 / (10 : Int32)) a10.1 a10.2))))
def fX8_putNumber (tI : Nat → Int32) (t_bytes : Nat → Int32) (p0 : Int32) : Option ((Nat → Int32) × (Nat → Int32)) :=
  bn (fX8_putSign tI t_bytes (32 : Int32)) fun a1 => bn (fX8_putNumber_l9 p0 FU (100000000 : Int32) a1.1 a1.2) fun y12 => some (y12.1, y12.2)
set_option maxRecDepth 100000 in
set_option maxHeartbeats 4000000 in
theorem tX8_putNumber (l : Launch) (G : gG) (ad_t ad_t_bytes : Nat) (tI : Nat → Int32) (t_bytes : Nat → Int32) (p0 : Int32) (o : (Nat → Int32) × (Nat → Int32)) (hf : fX8_putNumber tI t_bytes p0 = some o) : mE G l yX8_putNumber cX8_putNumber 3 none 1 21 0 0 [.ref ad_t, .int p0] [(ad_t, .inr (8, [.ref ad_t_bytes, .int (tI 1)])), (ad_t_bytes, .inl (G.2.1 1, 400, .inl t_bytes))] (fun r w => r = none ∧ w = [(ad_t, .inr (8, [.ref ad_t_bytes, .int (o.1 1)])), (ad_t_bytes, .inl (G.2.1 1, 400, .inl o.2))]) := by
  refine mE_of (by decide) (Nat.le_of_ble_eq_true rfl) ?_
  intro p e s m below meth cd ls A hx hb hml hown hts hr hlocks hnm hl hA hP hD hS hG
  have hK := hG.1
  have hown : s.vm.findClass RX8 = some m.cls := hown
  have hl : lv_has ls 3 [(0, .ref ad_t), (1, .int p0)] := hl
  have hS := hS
  unfold fX8_putNumber at hf
  obtain ⟨H, locs, eH, eL⟩ : ∃ (H : Heap) (locs : List Loc), H = s.heap ∧ locs = [] := ⟨_, _, rfl, rfl⟩
  have hP : va_P G.1 vwCl [(ad_t, .inr (8, [.ref ad_t_bytes, .int (tI 1)])), (ad_t_bytes, .inl (G.2.1 1, 400, .inl t_bytes))] H := eH ▸ hP
  have hS : va_S A s.heap H locs := by rw [eH, eL]; exact hS
  suffices hgo : wG p l e 1 21 s m [.ref ad_t, .int p0] below meth cd H locs (eQ G A (fun r w => r = none ∧ w = [(ad_t, .inr (8, [.ref ad_t_bytes, .int (o.1 1)])), (ad_t_bytes, .inl (G.2.1 1, 400, .inl o.2))])) A (F0 m 0 ls []) by rw [eH, eL] at hgo; exact hgo
  clear eH eL
  refine lv_aload_n hx hb dX8_putNumber_0 rfl (lv_at hl 0 rfl) ?_
  refine lv_bipush (v := 32) hx hb dX8_putNumber_1 (by decide) ?_
  obtain ⟨a13, h14, hf⟩ := bn_some hf
  refine kEV (tX8_putSign l G ad_t ad_t_bytes tI t_bytes (32 : Int32) a13 h14) ⟨hx, hb, hml, hown, hts⟩ q972 q974 q33 q105 q975 okyX8_putSign ⟨Nat.le_of_ble_eq_true rfl, Nat.le_of_ble_eq_true rfl⟩ hP hD hG hS hA [0, 1] [] rfl (wr := []) rfl (by decide) 0 rfl rfl hl.1 rfl (Nat.le_of_ble_eq_true rfl) dX8_putNumber_3 ⟨Nat.zero_le _, Nat.zero_le _⟩ (fun r w H locs hR hP hD hS => ?_)
  obtain ⟨rfl, rfl⟩ := hR
  have hP : va_P G.1 vwCl [(ad_t, .inr (8, [.ref ad_t_bytes, .int (a13.1 1)])), (ad_t_bytes, .inl (G.2.1 1, 400, .inl a13.2))] H := hP
  have hD : va_D A [(ad_t, .inr (8, [.ref ad_t_bytes, .int (a13.1 1)])), (ad_t_bytes, .inl (G.2.1 1, 400, .inl a13.2))] := hD
  refine W.eq (g2 := F0 m 6 ls []) rfl ?_
  refine lv_ldc (v := 100000000) hx hb hown (hts _ q982) dX8_putNumber_6 ?_
  refine lv_istore_n (lv' := [(2, .int (100000000 : Int32)), (0, .ref ad_t), (1, .int p0)]) hx hb dX8_putNumber_8 rfl hl (by decide) rfl (fun ls hl => ?_)
  obtain ⟨y15, hLy15, hky15⟩ := bn_some hf
  have Ey15 : ∀  (H : Heap) (locs : List Loc) (ls : Array Slot), lv_has ls 3 [] → va_P G.1 vwCl [(ad_t, .inr (8, [.ref ad_t_bytes, .int (y15.1 1)])), (ad_t_bytes, .inl (G.2.1 1, 400, .inl y15.2))] H → va_D A [(ad_t, .inr (8, [.ref ad_t_bytes, .int (y15.1 1)])), (ad_t_bytes, .inl (G.2.1 1, 400, .inl y15.2))] → va_S A s.heap H locs → wG p l e 1 21 s m [.ref ad_t, .int p0] below meth cd H locs (eQ G A (fun r w => r = none ∧ w = [(ad_t, .inr (8, [.ref ad_t_bytes, .int (o.1 1)])), (ad_t_bytes, .inl (G.2.1 1, 400, .inl o.2))])) A (F0 m 45 ls []) := by
    intro  H locs ls hl hP hD hS
    have hf := hky15
    have hf := Option.some.inj hf
    subst hf
    exact eRetV hx hb hr hlocks hP hD hS ⟨rfl, rfl⟩ dX8_putNumber_45
  have Ly15 : ∀ (n : Nat), ∀ (x16 : Int32) (g17 : Nat → Int32) (g18 : Nat → Int32) (H : Heap) (locs : List Loc) (ls : Array Slot), lv_has ls 3 [(2, .int x16), (0, .ref ad_t), (1, .int p0)] → va_P G.1 vwCl [(ad_t, .inr (8, [.ref ad_t_bytes, .int (g17 1)])), (ad_t_bytes, .inl (G.2.1 1, 400, .inl g18))] H → va_D A [(ad_t, .inr (8, [.ref ad_t_bytes, .int (g17 1)])), (ad_t_bytes, .inl (G.2.1 1, 400, .inl g18))] → va_S A s.heap H locs → fX8_putNumber_l9 p0 n x16 g17 g18 = some y15 → wG p l e 1 21 s m [.ref ad_t, .int p0] below meth cd H locs (eQ G A (fun r w => r = none ∧ w = [(ad_t, .inr (8, [.ref ad_t_bytes, .int (o.1 1)])), (ad_t_bytes, .inl (G.2.1 1, 400, .inl o.2))])) A (F0 m 9 ls []) := by
    intro n
    induction n with
    | zero =>
      intro x16 g17 g18 H locs ls hl hP hD hS hf
      rw [fX8_putNumber_l9] at hf
      cases hf
    | succ n ih =>
      intro x16 g17 g18 H locs ls hl hP hD hS hf
      rw [fX8_putNumber_l9] at hf
      refine lv_iload_n hx hb dX8_putNumber_9 rfl (lv_at hl 0 rfl) ?_
      refine lv_if_le (tgt := 45) hx hb dX8_putNumber_10 (by decide) (fun c19 => ?_) (fun c19 => ?_)
      · have hf := if_t hf c19
        have hf := Option.some.inj hf
        subst hf
        exact Ey15  H locs ls (lv_sub hl [] rfl) hP hD hS 
      · have hf := if_f hf c19
        refine lv_iload_n hx hb dX8_putNumber_13 rfl (lv_at hl 0 rfl) ?_
        refine lv_iconst (v := 1) hx hb dX8_putNumber_14 (by decide) ?_
        refine lv_icmp_eq (tgt := 23) hx hb dX8_putNumber_15 (by decide) (fun c20 => ?_) (fun c20 => ?_)
        · have hf := if_t hf c20
          refine lv_aload_n hx hb dX8_putNumber_23 rfl (lv_at hl 1 rfl) ?_
          refine lv_bipush (v := 48) hx hb dX8_putNumber_24 (by decide) ?_
          refine lv_iload_n hx hb dX8_putNumber_26 rfl (lv_at hl 2 rfl) ?_
          refine lv_iload_n hx hb dX8_putNumber_27 rfl (lv_at hl 0 rfl) ?_
          obtain ⟨h21, hf⟩ := gd_some hf
          refine lv_idiv hx hb dX8_putNumber_28 (nz_ne h21) ?_
          refine lv_bipush (v := 10) hx hb dX8_putNumber_29 (by decide) ?_
          refine lv_irem hx hb dX8_putNumber_31 (by decide) ?_
          refine lv_iadd hx hb dX8_putNumber_32 ?_
          refine lv_i2c (v := ((((48 : Int32) + ((p0 / x16) - (p0 / x16) / (10 : Int32) * (10 : Int32))).toUInt32 % 65536).toInt32)) hx hb dX8_putNumber_33 rfl ?_
          obtain ⟨a22, h23, hf⟩ := bn_some hf
          refine kEV (tX8_putSign l G ad_t ad_t_bytes g17 g18 ((((48 : Int32) + ((p0 / x16) - (p0 / x16) / (10 : Int32) * (10 : Int32))).toUInt32 % 65536).toInt32) a22 h23) ⟨hx, hb, hml, hown, hts⟩ q972 q974 q33 q105 q975 okyX8_putSign ⟨Nat.le_of_ble_eq_true rfl, Nat.le_of_ble_eq_true rfl⟩ hP hD hG hS hA [0, 1] [] rfl (wr := []) rfl (by decide) 0 rfl rfl hl.1 rfl (Nat.le_of_ble_eq_true rfl) dX8_putNumber_34 ⟨Nat.zero_le _, Nat.zero_le _⟩ (fun r w H locs hR hP hD hS => ?_)
          obtain ⟨rfl, rfl⟩ := hR
          have hP : va_P G.1 vwCl [(ad_t, .inr (8, [.ref ad_t_bytes, .int (a22.1 1)])), (ad_t_bytes, .inl (G.2.1 1, 400, .inl a22.2))] H := hP
          have hD : va_D A [(ad_t, .inr (8, [.ref ad_t_bytes, .int (a22.1 1)])), (ad_t_bytes, .inl (G.2.1 1, 400, .inl a22.2))] := hD
          refine W.eq (g2 := F0 m 37 ls []) rfl ?_
          refine lv_iload_n hx hb dX8_putNumber_37 rfl (lv_at hl 0 rfl) ?_
          refine lv_bipush (v := 10) hx hb dX8_putNumber_38 (by decide) ?_
          refine lv_idiv hx hb dX8_putNumber_40 (by decide) ?_
          refine lv_istore_n (lv' := [(2, .int (x16 / (10 : Int32))), (0, .ref ad_t), (1, .int p0)]) hx hb dX8_putNumber_41 rfl hl (by decide) rfl (fun ls hl => ?_)
          refine lv_goto (tgt := 9) hx hb dX8_putNumber_42 (by decide) ?_
          exact ih (x16 / (10 : Int32)) a22.1 a22.2 H locs ls (lv_sub hl [0, 1, 2] rfl) hP hD hS hf
        · have hf := if_f hf c20
          refine lv_iload_n hx hb dX8_putNumber_18 rfl (lv_at hl 2 rfl) ?_
          refine lv_iload_n hx hb dX8_putNumber_19 rfl (lv_at hl 0 rfl) ?_
          refine lv_icmp_lt (tgt := 37) hx hb dX8_putNumber_20 (by decide) (fun c24 => ?_) (fun c24 => ?_)
          · have hf := if_t hf c24
            refine lv_iload_n hx hb dX8_putNumber_37 rfl (lv_at hl 0 rfl) ?_
            refine lv_bipush (v := 10) hx hb dX8_putNumber_38 (by decide) ?_
            refine lv_idiv hx hb dX8_putNumber_40 (by decide) ?_
            refine lv_istore_n (lv' := [(2, .int (x16 / (10 : Int32))), (0, .ref ad_t), (1, .int p0)]) hx hb dX8_putNumber_41 rfl hl (by decide) rfl (fun ls hl => ?_)
            refine lv_goto (tgt := 9) hx hb dX8_putNumber_42 (by decide) ?_
            exact ih (x16 / (10 : Int32)) g17 g18 H locs ls (lv_sub hl [0, 1, 2] rfl) hP hD hS hf
          · have hf := if_f hf c24
            refine lv_aload_n hx hb dX8_putNumber_23 rfl (lv_at hl 1 rfl) ?_
            refine lv_bipush (v := 48) hx hb dX8_putNumber_24 (by decide) ?_
            refine lv_iload_n hx hb dX8_putNumber_26 rfl (lv_at hl 2 rfl) ?_
            refine lv_iload_n hx hb dX8_putNumber_27 rfl (lv_at hl 0 rfl) ?_
            obtain ⟨h25, hf⟩ := gd_some hf
            refine lv_idiv hx hb dX8_putNumber_28 (nz_ne h25) ?_
            refine lv_bipush (v := 10) hx hb dX8_putNumber_29 (by decide) ?_
            refine lv_irem hx hb dX8_putNumber_31 (by decide) ?_
            refine lv_iadd hx hb dX8_putNumber_32 ?_
            refine lv_i2c (v := ((((48 : Int32) + ((p0 / x16) - (p0 / x16) / (10 : Int32) * (10 : Int32))).toUInt32 % 65536).toInt32)) hx hb dX8_putNumber_33 rfl ?_
            obtain ⟨a26, h27, hf⟩ := bn_some hf
            refine kEV (tX8_putSign l G ad_t ad_t_bytes g17 g18 ((((48 : Int32) + ((p0 / x16) - (p0 / x16) / (10 : Int32) * (10 : Int32))).toUInt32 % 65536).toInt32) a26 h27) ⟨hx, hb, hml, hown, hts⟩ q972 q974 q33 q105 q975 okyX8_putSign ⟨Nat.le_of_ble_eq_true rfl, Nat.le_of_ble_eq_true rfl⟩ hP hD hG hS hA [0, 1] [] rfl (wr := []) rfl (by decide) 0 rfl rfl hl.1 rfl (Nat.le_of_ble_eq_true rfl) dX8_putNumber_34 ⟨Nat.zero_le _, Nat.zero_le _⟩ (fun r w H locs hR hP hD hS => ?_)
            obtain ⟨rfl, rfl⟩ := hR
            have hP : va_P G.1 vwCl [(ad_t, .inr (8, [.ref ad_t_bytes, .int (a26.1 1)])), (ad_t_bytes, .inl (G.2.1 1, 400, .inl a26.2))] H := hP
            have hD : va_D A [(ad_t, .inr (8, [.ref ad_t_bytes, .int (a26.1 1)])), (ad_t_bytes, .inl (G.2.1 1, 400, .inl a26.2))] := hD
            refine W.eq (g2 := F0 m 37 ls []) rfl ?_
            refine lv_iload_n hx hb dX8_putNumber_37 rfl (lv_at hl 0 rfl) ?_
            refine lv_bipush (v := 10) hx hb dX8_putNumber_38 (by decide) ?_
            refine lv_idiv hx hb dX8_putNumber_40 (by decide) ?_
            refine lv_istore_n (lv' := [(2, .int (x16 / (10 : Int32))), (0, .ref ad_t), (1, .int p0)]) hx hb dX8_putNumber_41 rfl hl (by decide) rfl (fun ls hl => ?_)
            refine lv_goto (tgt := 9) hx hb dX8_putNumber_42 (by decide) ?_
            exact ih (x16 / (10 : Int32)) a26.1 a26.2 H locs ls (lv_sub hl [0, 1, 2] rfl) hP hD hS hf
  exact Ly15 FU (100000000 : Int32) a13.1 a13.2 H locs ls (lv_sub hl [0, 1, 2] rfl) hP hD hS hLy15

def fX8_putSigns_l2 (x1 : Nat) : Nat → Int32 → (Nat → Int32) → (Nat → Int32) → Option ((Nat → Int32) × (Nat → Int32))
  | 0, _, _, _ => none
  | n + 1, x2, tI, t_bytes =>
    gd (decide (x1 < 15)) (bn (fJ0_length_8abf5 x1) fun a1 => (if a1 ≤ x2 then some (tI, t_bytes) else gd (decide (x1 < 15)) (bn (fJ0_charAt_5068e x1 x2) fun a5 => bn (fX8_putSign tI t_bytes a5) fun a8 => fX8_putSigns_l2 x1 n (x2 + (1 : Int32)) a8.1 a8.2)))
def fX8_putSigns (tI : Nat → Int32) (t_bytes : Nat → Int32) (p0 : Nat) : Option ((Nat → Int32) × (Nat → Int32)) :=
  bn (fX8_putSigns_l2 p0 FU (0 : Int32) tI t_bytes) fun y10 => some (y10.1, y10.2)
set_option maxRecDepth 100000 in
set_option maxHeartbeats 4000000 in
theorem tX8_putSigns (l : Launch) (G : gG) (ad_t ad_t_bytes : Nat) (tI : Nat → Int32) (t_bytes : Nat → Int32) (p0 : Nat) (o : (Nat → Int32) × (Nat → Int32)) (hf : fX8_putSigns tI t_bytes p0 = some o) : mE G l yX8_putSigns cX8_putSigns 3 none 4 101 0 0 [.ref ad_t, .ref (G.2.2.2.1 p0)] [(ad_t, .inr (8, [.ref ad_t_bytes, .int (tI 1)])), (ad_t_bytes, .inl (G.2.1 1, 400, .inl t_bytes))] (fun r w => r = none ∧ w = [(ad_t, .inr (8, [.ref ad_t_bytes, .int (o.1 1)])), (ad_t_bytes, .inl (G.2.1 1, 400, .inl o.2))]) := by
  refine mE_of (by decide) (Nat.le_of_ble_eq_true rfl) ?_
  intro p e s m below meth cd ls A hx hb hml hown hts hr hlocks hnm hl hA hP hD hS hG
  have hK := hG.1
  have hown : s.vm.findClass RX8 = some m.cls := hown
  have hl : lv_has ls 3 [(0, .ref ad_t), (1, .ref (G.2.2.2.1 p0))] := hl
  have hS := hS
  unfold fX8_putSigns at hf
  obtain ⟨H, locs, eH, eL⟩ : ∃ (H : Heap) (locs : List Loc), H = s.heap ∧ locs = [] := ⟨_, _, rfl, rfl⟩
  have hP : va_P G.1 vwCl [(ad_t, .inr (8, [.ref ad_t_bytes, .int (tI 1)])), (ad_t_bytes, .inl (G.2.1 1, 400, .inl t_bytes))] H := eH ▸ hP
  have hS : va_S A s.heap H locs := by rw [eH, eL]; exact hS
  suffices hgo : wG p l e 4 101 s m [.ref ad_t, .ref (G.2.2.2.1 p0)] below meth cd H locs (eQ G A (fun r w => r = none ∧ w = [(ad_t, .inr (8, [.ref ad_t_bytes, .int (o.1 1)])), (ad_t_bytes, .inl (G.2.1 1, 400, .inl o.2))])) A (F0 m 0 ls []) by rw [eH, eL] at hgo; exact hgo
  clear eH eL
  refine lv_iconst (v := 0) hx hb dX8_putSigns_0 (by decide) ?_
  refine lv_istore_n (lv' := [(2, .int (0 : Int32)), (0, .ref ad_t), (1, .ref (G.2.2.2.1 p0))]) hx hb dX8_putSigns_1 rfl hl (by decide) rfl (fun ls hl => ?_)
  obtain ⟨y11, hLy11, hky11⟩ := bn_some hf
  have Ey11 : ∀  (H : Heap) (locs : List Loc) (ls : Array Slot), lv_has ls 3 [] → va_P G.1 vwCl [(ad_t, .inr (8, [.ref ad_t_bytes, .int (y11.1 1)])), (ad_t_bytes, .inl (G.2.1 1, 400, .inl y11.2))] H → va_D A [(ad_t, .inr (8, [.ref ad_t_bytes, .int (y11.1 1)])), (ad_t_bytes, .inl (G.2.1 1, 400, .inl y11.2))] → va_S A s.heap H locs → wG p l e 4 101 s m [.ref ad_t, .ref (G.2.2.2.1 p0)] below meth cd H locs (eQ G A (fun r w => r = none ∧ w = [(ad_t, .inr (8, [.ref ad_t_bytes, .int (o.1 1)])), (ad_t_bytes, .inl (G.2.1 1, 400, .inl o.2))])) A (F0 m 25 ls []) := by
    intro  H locs ls hl hP hD hS
    have hf := hky11
    have hf := Option.some.inj hf
    subst hf
    exact eRetV hx hb hr hlocks hP hD hS ⟨rfl, rfl⟩ dX8_putSigns_25
  have Ly11 : ∀ (n : Nat), ∀ (x12 : Int32) (g13 : Nat → Int32) (g14 : Nat → Int32) (H : Heap) (locs : List Loc) (ls : Array Slot), lv_has ls 3 [(2, .int x12), (0, .ref ad_t), (1, .ref (G.2.2.2.1 p0))] → va_P G.1 vwCl [(ad_t, .inr (8, [.ref ad_t_bytes, .int (g13 1)])), (ad_t_bytes, .inl (G.2.1 1, 400, .inl g14))] H → va_D A [(ad_t, .inr (8, [.ref ad_t_bytes, .int (g13 1)])), (ad_t_bytes, .inl (G.2.1 1, 400, .inl g14))] → va_S A s.heap H locs → fX8_putSigns_l2 p0 n x12 g13 g14 = some y11 → wG p l e 4 101 s m [.ref ad_t, .ref (G.2.2.2.1 p0)] below meth cd H locs (eQ G A (fun r w => r = none ∧ w = [(ad_t, .inr (8, [.ref ad_t_bytes, .int (o.1 1)])), (ad_t_bytes, .inl (G.2.1 1, 400, .inl o.2))])) A (F0 m 2 ls []) := by
    intro n
    induction n with
    | zero =>
      intro x12 g13 g14 H locs ls hl hP hD hS hf
      rw [fX8_putSigns_l2] at hf
      cases hf
    | succ n ih =>
      intro x12 g13 g14 H locs ls hl hP hD hS hf
      rw [fX8_putSigns_l2] at hf
      refine lv_iload_n hx hb dX8_putSigns_2 rfl (lv_at hl 0 rfl) ?_
      refine lv_aload_n hx hb dX8_putSigns_3 rfl (lv_at hl 2 rfl) ?_
      obtain ⟨h17, hf⟩ := gd_some hf
      obtain ⟨a15, h16, hf⟩ := bn_some hf
      refine kPVs (tJ0_length_8abf5 l G p0 a15 h16) ⟨hx, hb, hml, hown, hts⟩ q970 q661 q662 q109 q663 okyJ0_length_8abf5 ⟨Nat.le_of_ble_eq_true rfl, Nat.le_of_ble_eq_true rfl⟩ hP hG hS [] rfl (vk_recv hG.2.2.2.1 (of_decide_eq_true h17) hS) hl.1 rfl (Nat.le_of_ble_eq_true rfl) dX8_putSigns_4 ⟨Nat.zero_le _, Nat.zero_le _⟩ (fun locs hS => ?_)
      refine W.eq (g2 := F0 m 7 ls [.int a15, .int x12]) rfl ?_
      refine lv_icmp_ge (tgt := 25) hx hb dX8_putSigns_7 (by decide) (fun c18 => ?_) (fun c18 => ?_)
      · have hf := if_t hf c18
        have hf := Option.some.inj hf
        subst hf
        exact Ey11  H locs ls (lv_sub hl [] rfl) hP hD hS 
      · have hf := if_f hf c18
        refine lv_aload_n hx hb dX8_putSigns_10 rfl (lv_at hl 1 rfl) ?_
        refine lv_aload_n hx hb dX8_putSigns_11 rfl (lv_at hl 2 rfl) ?_
        refine lv_iload_n hx hb dX8_putSigns_12 rfl (lv_at hl 0 rfl) ?_
        obtain ⟨h21, hf⟩ := gd_some hf
        obtain ⟨a19, h20, hf⟩ := bn_some hf
        refine kPVs (tJ0_charAt_5068e l G p0 x12 a19 h20) ⟨hx, hb, hml, hown, hts⟩ q971 q671 q672 q109 q673 okyJ0_charAt_5068e ⟨Nat.le_of_ble_eq_true rfl, Nat.le_of_ble_eq_true rfl⟩ hP hG hS [] rfl (vk_recv hG.2.2.2.1 (of_decide_eq_true h21) hS) hl.1 rfl (Nat.le_of_ble_eq_true rfl) dX8_putSigns_13 ⟨Nat.zero_le _, Nat.zero_le _⟩ (fun locs hS => ?_)
        refine W.eq (g2 := F0 m 16 ls [.int a19, .ref ad_t]) rfl ?_
        obtain ⟨a22, h23, hf⟩ := bn_some hf
        refine kEV (tX8_putSign l G ad_t ad_t_bytes g13 g14 a19 a22 h23) ⟨hx, hb, hml, hown, hts⟩ q972 q974 q33 q105 q975 okyX8_putSign ⟨Nat.le_of_ble_eq_true rfl, Nat.le_of_ble_eq_true rfl⟩ hP hD hG hS hA [0, 1] [] rfl (wr := []) rfl (by decide) 0 rfl rfl hl.1 rfl (Nat.le_of_ble_eq_true rfl) dX8_putSigns_16 ⟨Nat.zero_le _, Nat.zero_le _⟩ (fun r w H locs hR hP hD hS => ?_)
        obtain ⟨rfl, rfl⟩ := hR
        have hP : va_P G.1 vwCl [(ad_t, .inr (8, [.ref ad_t_bytes, .int (a22.1 1)])), (ad_t_bytes, .inl (G.2.1 1, 400, .inl a22.2))] H := hP
        have hD : va_D A [(ad_t, .inr (8, [.ref ad_t_bytes, .int (a22.1 1)])), (ad_t_bytes, .inl (G.2.1 1, 400, .inl a22.2))] := hD
        refine W.eq (g2 := F0 m 19 ls []) rfl ?_
        refine lv_iinc (v := (x12 + (1 : Int32))) (lv' := [(2, .int (x12 + (1 : Int32))), (0, .ref ad_t), (1, .ref (G.2.2.2.1 p0))]) hx hb dX8_putSigns_19 hl (k := 0) rfl (ii_1 _) (by decide) rfl (fun ls hl => ?_)
        refine lv_goto (tgt := 2) hx hb dX8_putSigns_22 (by decide) ?_
        exact ih (x12 + (1 : Int32)) a22.1 a22.2 H locs ls (lv_sub hl [0, 1, 2] rfl) hP hD hS hf
  exact Ly11 FU (0 : Int32) tI t_bytes H locs ls (lv_sub hl [0, 1, 2] rfl) hP hD hS hLy11

def fX9_columnOf (tI : Nat → Int32) (p0 : Int32) (p1 : Int32) : Int32 :=
  ((p1 <<< ((tI 2) &&& 31)) + (fX9_offset tI p0))
set_option maxRecDepth 100000 in
set_option maxHeartbeats 4000000 in
theorem tX9_columnOf (l : Launch) (G : gG) (ad_t ad_t_repair : Nat) (tI : Nat → Int32) (p0 : Int32) (p1 : Int32) (o : Int32) (hf : fX9_columnOf tI p0 p1 = o) : mP G l yX9_columnOf cX9_columnOf 3 (some .int) 1 21 [.ref ad_t, .int p0, .int p1] [(ad_t, .inr (9, [.ref ad_t_repair, .int (tI 1), .int (tI 2), .int (tI 3), .int (tI 4)]))] (some (.int o)) := by
  refine mP_of (by decide) (Nat.le_of_ble_eq_true rfl) ?_
  intro p e s m below meth cd ls hx hb hml hown hts hr hlocks hl hP hG
  have hK := hG.1
  have hown : s.vm.findClass RX9 = some m.cls := hown
  have hl : lv_has ls 3 [(0, .ref ad_t), (1, .int p0), (2, .int p1)] := hl
  have hS : va_S no s.heap s.heap [] := va_S.rf
  generalize ([] : List Loc) = locs at hS ⊢
  unfold fX9_columnOf at hf
  show wG p l e 1 21 s m [.ref ad_t, .int p0, .int p1] below meth cd s.heap locs (pQ (some (.int o))) no (F0 m 0 ls [])
  refine lv_iload_n hx hb dX9_columnOf_0 rfl (lv_at hl 2 rfl) ?_
  refine lv_aload_n hx hb dX9_columnOf_1 rfl (lv_at hl 0 rfl) ?_
  refine va_get (D := G.1) (cl := vwCl) (ci := 9) (v := .int (tI 2)) (C := RX9) (T := TX9) (N := 5) hx hb hts inG9 hown hK hP 0 rfl rfl 2 (Nat.le_of_ble_eq_true rfl) (hts _ q323) (fun _ h9 => h9) rfl dX9_columnOf_2 ?_
  refine lv_ishl hx hb dX9_columnOf_5 ?_
  refine lv_aload_n hx hb dX9_columnOf_6 rfl (lv_at hl 0 rfl) ?_
  refine lv_iload_n hx hb dX9_columnOf_7 rfl (lv_at hl 1 rfl) ?_
  refine kPV (tX9_offset l G ad_t ad_t_repair tI p0 _ rfl) ⟨hx, hb, hml, hown, hts⟩ q851 q853 q30 q101 q854 okyX9_offset ⟨Nat.le_of_ble_eq_true rfl, Nat.le_of_ble_eq_true rfl⟩ hP hG hS [0] rfl 0 rfl rfl hl.1 rfl (Nat.le_of_ble_eq_true rfl) dX9_columnOf_8 ⟨Nat.zero_le _, Nat.zero_le _⟩ (fun locs hS => ?_)
  refine W.eq (g2 := F0 m 11 ls [.int (fX9_offset tI p0), .int (p1 <<< ((tI 2) &&& 31))]) rfl ?_
  refine lv_iadd hx hb dX9_columnOf_11 ?_
  subst hf
  exact pRet hx hb hr hlocks hS dX9_columnOf_12

def fX9_word_l31 (x2 : Int32) (x3 : Int32) (tI : Nat → Int32) (t_repairI : Nat → Int32) (t_repair_columns : Nat → Int32) (p0_spares : Nat → Int32) : Nat → Int32 → Int32 → Option (Int32)
  | 0, _, _ => none
  | n + 1, x4, x5 =>
    (if (t_repairI 3) ≤ x5 then some x4 else gd (gi x5 2) ((if (fX9_offset tI (t_repair_columns x5.toNatClampNeg)) = (fX9_offset tI x2) then bn (fX0_spareBit p0_spares x3 x5) fun a8 => fX9_word_l31 x2 x3 tI t_repairI t_repair_columns p0_spares n (fX0_withBit x4 ((t_repair_columns x5.toNatClampNeg) >>> ((tI 2) &&& 31)) a8) (x5 + (1 : Int32)) else fX9_word_l31 x2 x3 tI t_repairI t_repair_columns p0_spares n x4 (x5 + (1 : Int32)))))
def fX9_word (tI : Nat → Int32) (t_repairI : Nat → Int32) (t_repair_rows : Nat → Int32) (t_repair_columns : Nat → Int32) (p0_specI : Nat → Int32) (p0_spec_badRows : Nat → Int32) (p0_spec_badColumns : Nat → Int32) (p0_spec_badBits : Nat → Int32) (p0_words : Nat → Int32) (p0_spares : Nat → Int32) (p1 : Int32) : Option (Int32) :=
  bn (fX9_rowPlace tI t_repairI t_repair_rows (fX9_rowOf tI p1)) fun a1 => bn (fX0_wordIn p0_words ((a1 <<< ((tI 2) &&& 31)) + (fX9_offset tI p1))) fun a3 => bn (fX9_word_l31 p1 a1 tI t_repairI t_repair_columns p0_spares FU a3 (0 : Int32)) fun y10 => (if (t_repairI 4) = 0 then bn (fX9_withStuck tI p0_specI p0_spec_badRows p0_spec_badColumns p0_spec_badBits p1 y10) fun a12 => some a12 else some y10)
set_option maxRecDepth 100000 in
set_option maxHeartbeats 4000000 in
theorem tX9_word (l : Launch) (G : gG) (ad_t ad_t_repair ad_t_repair_rows ad_t_repair_columns ad_t_repair_candidates ad_t_repair_left ad_p0 ad_p0_spec ad_p0_words ad_p0_spares ad_p0_spec_numbers ad_p0_spec_badRows ad_p0_spec_badColumns ad_p0_spec_badBits : Nat) (tI : Nat → Int32) (t_repairI : Nat → Int32) (t_repair_rows : Nat → Int32) (t_repair_columns : Nat → Int32) (p0_specI : Nat → Int32) (p0_spec_badRows : Nat → Int32) (p0_spec_badColumns : Nat → Int32) (p0_spec_badBits : Nat → Int32) (p0_words : Nat → Int32) (p0_spares : Nat → Int32) (p1 : Int32) (o : Int32) (hf : fX9_word tI t_repairI t_repair_rows t_repair_columns p0_specI p0_spec_badRows p0_spec_badColumns p0_spec_badBits p0_words p0_spares p1 = some o) : mP G l yX9_word cX9_word 7 (some .int) 2 48 [.ref ad_t, .ref ad_p0, .int p1] [(ad_t, .inr (9, [.ref ad_t_repair, .int (tI 1), .int (tI 2), .int (tI 3), .int (tI 4)])), (ad_t_repair, .inr (3, [.ref ad_t_repair_rows, .ref ad_t_repair_columns, .int (t_repairI 2), .int (t_repairI 3), .int (t_repairI 4), .int (t_repairI 5), .ref ad_t_repair_candidates, .ref ad_t_repair_left, .int (t_repairI 8)])), (ad_t_repair_rows, .inl (G.2.1 0, 4, .inl t_repair_rows)), (ad_t_repair_columns, .inl (G.2.1 0, 2, .inl t_repair_columns)), (ad_p0, .inr (0, [.ref ad_p0_spec, .ref ad_p0_words, .ref ad_p0_spares])), (ad_p0_spec, .inr (5, [.ref ad_p0_spec_numbers, .ref ad_p0_spec_badRows, .ref ad_p0_spec_badColumns, .ref ad_p0_spec_badBits, .int (p0_specI 4)])), (ad_p0_spec_badRows, .inl (G.2.1 0, 12, .inl p0_spec_badRows)), (ad_p0_spec_badColumns, .inl (G.2.1 0, 12, .inl p0_spec_badColumns)), (ad_p0_spec_badBits, .inl (G.2.1 0, 12, .inl p0_spec_badBits)), (ad_p0_words, .inl (G.2.1 0, 1056, .inl p0_words)), (ad_p0_spares, .inl (G.2.1 0, 33, .inl p0_spares))] (some (.int o)) := by
  refine mP_of (by decide) (Nat.le_of_ble_eq_true rfl) ?_
  intro p e s m below meth cd ls hx hb hml hown hts hr hlocks hl hP hG
  have hK := hG.1
  have hown : s.vm.findClass RX9 = some m.cls := hown
  have hl : lv_has ls 7 [(0, .ref ad_t), (1, .ref ad_p0), (2, .int p1)] := hl
  have hS : va_S no s.heap s.heap [] := va_S.rf
  generalize ([] : List Loc) = locs at hS ⊢
  unfold fX9_word at hf
  show wG p l e 2 48 s m [.ref ad_t, .ref ad_p0, .int p1] below meth cd s.heap locs (pQ (some (.int o))) no (F0 m 0 ls [])
  refine lv_aload_n hx hb dX9_word_0 rfl (lv_at hl 0 rfl) ?_
  refine lv_aload_n hx hb dX9_word_1 rfl (lv_at hl 0 rfl) ?_
  refine lv_iload_n hx hb dX9_word_2 rfl (lv_at hl 2 rfl) ?_
  refine kPV (tX9_rowOf l G ad_t ad_t_repair tI p1 _ rfl) ⟨hx, hb, hml, hown, hts⟩ q843 q844 q845 q101 q846 okyX9_rowOf ⟨Nat.le_of_ble_eq_true rfl, Nat.le_of_ble_eq_true rfl⟩ hP hG hS [0] rfl 0 rfl rfl hl.1 rfl (Nat.le_of_ble_eq_true rfl) dX9_word_3 ⟨Nat.zero_le _, Nat.zero_le _⟩ (fun locs hS => ?_)
  refine W.eq (g2 := F0 m 6 ls [.int (fX9_rowOf tI p1), .ref ad_t]) rfl ?_
  obtain ⟨a14, h15, hf⟩ := bn_some hf
  refine kPV (tX9_rowPlace l G ad_t ad_t_repair ad_t_repair_rows ad_t_repair_columns ad_t_repair_candidates ad_t_repair_left tI t_repairI t_repair_rows (fX9_rowOf tI p1) a14 h15) ⟨hx, hb, hml, hown, hts⟩ q847 q848 q849 q101 q850 okyX9_rowPlace ⟨Nat.le_of_ble_eq_true rfl, Nat.le_of_ble_eq_true rfl⟩ hP hG hS [0, 1, 2] rfl 0 rfl rfl hl.1 rfl (Nat.le_of_ble_eq_true rfl) dX9_word_6 ⟨Nat.zero_le _, Nat.zero_le _⟩ (fun locs hS => ?_)
  refine W.eq (g2 := F0 m 9 ls [.int a14]) rfl ?_
  refine lv_istore_n (lv' := [(3, .int a14), (0, .ref ad_t), (1, .ref ad_p0), (2, .int p1)]) hx hb dX9_word_9 rfl hl (by decide) rfl (fun ls hl => ?_)
  refine lv_aload_n hx hb dX9_word_10 rfl (lv_at hl 2 rfl) ?_
  refine lv_iload_n hx hb dX9_word_11 rfl (lv_at hl 0 rfl) ?_
  refine lv_aload_n hx hb dX9_word_12 rfl (lv_at hl 1 rfl) ?_
  refine va_get (D := G.1) (cl := vwCl) (ci := 9) (v := .int (tI 2)) (C := RX9) (T := TX9) (N := 5) hx hb hts inG9 hown hK hP 0 rfl rfl 2 (Nat.le_of_ble_eq_true rfl) (hts _ q323) (fun _ h9 => h9) rfl dX9_word_13 ?_
  refine lv_ishl hx hb dX9_word_16 ?_
  refine lv_aload_n hx hb dX9_word_17 rfl (lv_at hl 1 rfl) ?_
  refine lv_iload_n hx hb dX9_word_18 rfl (lv_at hl 3 rfl) ?_
  refine kPV (tX9_offset l G ad_t ad_t_repair tI p1 _ rfl) ⟨hx, hb, hml, hown, hts⟩ q851 q853 q30 q101 q854 okyX9_offset ⟨Nat.le_of_ble_eq_true rfl, Nat.le_of_ble_eq_true rfl⟩ hP hG hS [0] rfl 0 rfl rfl hl.1 rfl (Nat.le_of_ble_eq_true rfl) dX9_word_19 ⟨Nat.zero_le _, Nat.zero_le _⟩ (fun locs hS => ?_)
  refine W.eq (g2 := F0 m 22 ls [.int (fX9_offset tI p1), .int (a14 <<< ((tI 2) &&& 31)), .ref ad_p0]) rfl ?_
  refine lv_iadd hx hb dX9_word_22 ?_
  obtain ⟨a16, h17, hf⟩ := bn_some hf
  refine kPV (tX0_wordIn l G ad_p0 ad_p0_spec ad_p0_words ad_p0_spares p0_words ((a14 <<< ((tI 2) &&& 31)) + (fX9_offset tI p1)) a16 h17) ⟨hx, hb, hml, hown, hts⟩ q863 q864 q865 q96 q866 okyX0_wordIn ⟨Nat.le_of_ble_eq_true rfl, Nat.le_of_ble_eq_true rfl⟩ hP hG hS [4, 9] rfl 4 rfl rfl hl.1 rfl (Nat.le_of_ble_eq_true rfl) dX9_word_23 ⟨Nat.zero_le _, Nat.zero_le _⟩ (fun locs hS => ?_)
  refine W.eq (g2 := F0 m 26 ls [.int a16]) rfl ?_
  refine lv_istore (lv' := [(4, .int a16), (3, .int a14), (0, .ref ad_t), (1, .ref ad_p0), (2, .int p1)]) hx hb dX9_word_26 hl (by decide) rfl (fun ls hl => ?_)
  refine lv_iconst (v := 0) hx hb dX9_word_28 (by decide) ?_
  refine lv_istore (lv' := [(5, .int (0 : Int32)), (4, .int a16), (3, .int a14), (0, .ref ad_t), (1, .ref ad_p0), (2, .int p1)]) hx hb dX9_word_29 hl (by decide) rfl (fun ls hl => ?_)
  obtain ⟨y18, hLy18, hky18⟩ := bn_some hf
  have Ey18 : ∀  (locs : List Loc) (ls : Array Slot), lv_has ls 7 [(4, .int y18), (0, .ref ad_t), (1, .ref ad_p0), (2, .int p1)] → va_S no s.heap s.heap locs → wG p l e 2 48 s m [.ref ad_t, .ref ad_p0, .int p1] below meth cd s.heap locs (pQ (some (.int o))) no (F0 m 96 ls []) := by
    intro  locs ls hl hS
    have hf := hky18
    refine lv_aload_n hx hb dX9_word_96 rfl (lv_at hl 1 rfl) ?_
    refine va_get (D := G.1) (cl := vwCl) (ci := 9) (v := .ref ad_t_repair) (C := RX9) (T := TX9) (N := 5) hx hb hts inG9 hown hK hP 0 rfl rfl 0 (Nat.le_of_ble_eq_true rfl) (hts _ q319) (fun _ h9 => h9) rfl dX9_word_97 ?_
    refine va_get (D := G.1) (cl := vwCl) (ci := 3) (v := .int (t_repairI 4)) (C := RX3) (T := TX3) (N := 9) hx hb hts inG3 hown hK hP 1 rfl rfl 4 (Nat.le_of_ble_eq_true rfl) (hts _ q293) (fun _ h9 => h9) rfl dX9_word_100 ?_
    refine lv_if_eq (tgt := 111) hx hb dX9_word_103 (by decide) (fun c19 => ?_) (fun c19 => ?_)
    · have hf := if_t hf c19
      refine lv_aload_n hx hb dX9_word_111 rfl (lv_at hl 1 rfl) ?_
      refine lv_aload_n hx hb dX9_word_112 rfl (lv_at hl 2 rfl) ?_
      refine va_get (D := G.1) (cl := vwCl) (ci := 0) (v := .ref ad_p0_spec) (C := RX0) (T := TX0) (N := 3) hx hb hts inG0 hown hK hP 4 rfl rfl 0 (Nat.le_of_ble_eq_true rfl) (hts _ q189) (fun _ h9 => h9) rfl dX9_word_113 ?_
      refine lv_iload_n hx hb dX9_word_116 rfl (lv_at hl 3 rfl) ?_
      refine lv_iload hx hb dX9_word_117 (lv_at hl 0 rfl) ?_
      obtain ⟨a20, h21, hf⟩ := bn_some hf
      refine kPV (tX9_withStuck l G ad_t ad_t_repair ad_p0_spec ad_p0_spec_numbers ad_p0_spec_badRows ad_p0_spec_badColumns ad_p0_spec_badBits tI p0_specI p0_spec_badRows p0_spec_badColumns p0_spec_badBits p1 y18 a20 h21) ⟨hx, hb, hml, hown, hts⟩ q899 q901 q31 q101 q902 okyX9_withStuck ⟨Nat.le_of_ble_eq_true rfl, Nat.le_of_ble_eq_true rfl⟩ hP hG hS [0, 5, 6, 7, 8] rfl 0 rfl rfl hl.1 rfl (Nat.le_of_ble_eq_true rfl) dX9_word_119 ⟨Nat.zero_le _, Nat.zero_le _⟩ (fun locs hS => ?_)
      refine W.eq (g2 := F0 m 122 ls [.int a20]) rfl ?_
      have hf := Option.some.inj hf
      subst hf
      exact pRet hx hb hr hlocks hS dX9_word_122
    · have hf := if_f hf c19
      refine lv_iload hx hb dX9_word_106 (lv_at hl 0 rfl) ?_
      refine lv_goto (tgt := 122) hx hb dX9_word_108 (by decide) ?_
      have hf := Option.some.inj hf
      subst hf
      exact pRet hx hb hr hlocks hS dX9_word_122
  have Ly18 : ∀ (n : Nat), ∀ (x22 : Int32) (x23 : Int32) (locs : List Loc) (ls : Array Slot), lv_has ls 7 [(5, .int x23), (4, .int x22), (3, .int a14), (0, .ref ad_t), (1, .ref ad_p0), (2, .int p1)] → va_S no s.heap s.heap locs → fX9_word_l31 p1 a14 tI t_repairI t_repair_columns p0_spares n x22 x23 = some y18 → wG p l e 2 48 s m [.ref ad_t, .ref ad_p0, .int p1] below meth cd s.heap locs (pQ (some (.int o))) no (F0 m 31 ls []) := by
    intro n
    induction n with
    | zero =>
      intro x22 x23 locs ls hl hS hf
      rw [fX9_word_l31] at hf
      cases hf
    | succ n ih =>
      intro x22 x23 locs ls hl hS hf
      rw [fX9_word_l31] at hf
      refine lv_iload hx hb dX9_word_31 (lv_at hl 0 rfl) ?_
      refine lv_aload_n hx hb dX9_word_33 rfl (lv_at hl 3 rfl) ?_
      refine va_get (D := G.1) (cl := vwCl) (ci := 9) (v := .ref ad_t_repair) (C := RX9) (T := TX9) (N := 5) hx hb hts inG9 hown hK hP 0 rfl rfl 0 (Nat.le_of_ble_eq_true rfl) (hts _ q319) (fun _ h9 => h9) rfl dX9_word_34 ?_
      refine va_get (D := G.1) (cl := vwCl) (ci := 3) (v := .int (t_repairI 3)) (C := RX3) (T := TX3) (N := 9) hx hb hts inG3 hown hK hP 1 rfl rfl 3 (Nat.le_of_ble_eq_true rfl) (hts _ q290) (fun _ h9 => h9) rfl dX9_word_37 ?_
      refine lv_icmp_ge (tgt := 96) hx hb dX9_word_40 (by decide) (fun c24 => ?_) (fun c24 => ?_)
      · have hf := if_t hf c24
        have hf := Option.some.inj hf
        subst hf
        exact Ey18  locs ls (lv_sub hl [1, 3, 4, 5] rfl) hS 
      · have hf := if_f hf c24
        refine lv_aload_n hx hb dX9_word_43 rfl (lv_at hl 3 rfl) ?_
        refine va_get (D := G.1) (cl := vwCl) (ci := 9) (v := .ref ad_t_repair) (C := RX9) (T := TX9) (N := 5) hx hb hts inG9 hown hK hP 0 rfl rfl 0 (Nat.le_of_ble_eq_true rfl) (hts _ q319) (fun _ h9 => h9) rfl dX9_word_44 ?_
        refine va_get (D := G.1) (cl := vwCl) (ci := 3) (v := .ref ad_t_repair_columns) (C := RX3) (T := TX3) (N := 9) hx hb hts inG3 hown hK hP 1 rfl rfl 1 (Nat.le_of_ble_eq_true rfl) (hts _ q282) (fun _ h9 => h9) rfl dX9_word_47 ?_
        refine lv_iload hx hb dX9_word_50 (lv_at hl 0 rfl) ?_
        obtain ⟨h25, hf⟩ := gd_some hf
        refine va_iald (D := G.1) (cl := vwCl) hx hb hK hP 3 0 rfl rfl (gi_in h25) dX9_word_52 ?_
        refine lv_istore (lv' := [(6, .int (t_repair_columns x23.toNatClampNeg)), (5, .int x23), (4, .int x22), (3, .int a14), (0, .ref ad_t), (1, .ref ad_p0), (2, .int p1)]) hx hb dX9_word_53 hl (by decide) rfl (fun ls hl => ?_)
        refine lv_aload_n hx hb dX9_word_55 rfl (lv_at hl 4 rfl) ?_
        refine lv_iload hx hb dX9_word_56 (lv_at hl 0 rfl) ?_
        refine kPV (tX9_offset l G ad_t ad_t_repair tI (t_repair_columns x23.toNatClampNeg) _ rfl) ⟨hx, hb, hml, hown, hts⟩ q851 q853 q30 q101 q854 okyX9_offset ⟨Nat.le_of_ble_eq_true rfl, Nat.le_of_ble_eq_true rfl⟩ hP hG hS [0] rfl 0 rfl rfl hl.1 rfl (Nat.le_of_ble_eq_true rfl) dX9_word_58 ⟨Nat.zero_le _, Nat.zero_le _⟩ (fun locs hS => ?_)
        refine W.eq (g2 := F0 m 61 ls [.int (fX9_offset tI (t_repair_columns x23.toNatClampNeg))]) rfl ?_
        refine lv_aload_n hx hb dX9_word_61 rfl (lv_at hl 4 rfl) ?_
        refine lv_iload_n hx hb dX9_word_62 rfl (lv_at hl 6 rfl) ?_
        refine kPV (tX9_offset l G ad_t ad_t_repair tI p1 _ rfl) ⟨hx, hb, hml, hown, hts⟩ q851 q853 q30 q101 q854 okyX9_offset ⟨Nat.le_of_ble_eq_true rfl, Nat.le_of_ble_eq_true rfl⟩ hP hG hS [0] rfl 0 rfl rfl hl.1 rfl (Nat.le_of_ble_eq_true rfl) dX9_word_63 ⟨Nat.zero_le _, Nat.zero_le _⟩ (fun locs hS => ?_)
        refine W.eq (g2 := F0 m 66 ls [.int (fX9_offset tI p1), .int (fX9_offset tI (t_repair_columns x23.toNatClampNeg))]) rfl ?_
        refine lv_icmp_ne (tgt := 90) hx hb dX9_word_66 (by decide) (fun c26 => ?_) (fun c26 => ?_)
        · have hf := if_f hf c26
          refine lv_iinc (v := (x23 + (1 : Int32))) (lv' := [(5, .int (x23 + (1 : Int32))), (6, .int (t_repair_columns x23.toNatClampNeg)), (4, .int x22), (3, .int a14), (0, .ref ad_t), (1, .ref ad_p0), (2, .int p1)]) hx hb dX9_word_90 hl (k := 1) rfl (ii_1 _) (by decide) rfl (fun ls hl => ?_)
          refine lv_goto (tgt := 31) hx hb dX9_word_93 (by decide) ?_
          exact ih x22 (x23 + (1 : Int32)) locs ls (lv_sub hl [0, 2, 3, 4, 5, 6] rfl) hS hf
        · have hf := if_t hf c26
          refine lv_iload hx hb dX9_word_69 (lv_at hl 2 rfl) ?_
          refine lv_iload hx hb dX9_word_71 (lv_at hl 0 rfl) ?_
          refine lv_aload_n hx hb dX9_word_73 rfl (lv_at hl 4 rfl) ?_
          refine va_get (D := G.1) (cl := vwCl) (ci := 9) (v := .int (tI 2)) (C := RX9) (T := TX9) (N := 5) hx hb hts inG9 hown hK hP 0 rfl rfl 2 (Nat.le_of_ble_eq_true rfl) (hts _ q323) (fun _ h9 => h9) rfl dX9_word_74 ?_
          refine lv_ishr hx hb dX9_word_77 ?_
          refine lv_aload_n hx hb dX9_word_78 rfl (lv_at hl 5 rfl) ?_
          refine lv_iload_n hx hb dX9_word_79 rfl (lv_at hl 3 rfl) ?_
          refine lv_iload hx hb dX9_word_80 (lv_at hl 1 rfl) ?_
          obtain ⟨a27, h28, hf⟩ := bn_some hf
          refine kPV (tX0_spareBit l G ad_p0 ad_p0_spec ad_p0_words ad_p0_spares p0_spares a14 x23 a27 h28) ⟨hx, hb, hml, hown, hts⟩ q895 q896 q897 q96 q898 okyX0_spareBit ⟨Nat.le_of_ble_eq_true rfl, Nat.le_of_ble_eq_true rfl⟩ hP hG hS [4, 10] rfl 4 rfl rfl hl.1 rfl (Nat.le_of_ble_eq_true rfl) dX9_word_82 ⟨Nat.zero_le _, Nat.zero_le _⟩ (fun locs hS => ?_)
          refine W.eq (g2 := F0 m 85 ls [.int a27, .int ((t_repair_columns x23.toNatClampNeg) >>> ((tI 2) &&& 31)), .int x22]) rfl ?_
          refine kPS (tX0_withBit l G x22 ((t_repair_columns x23.toNatClampNeg) >>> ((tI 2) &&& 31)) a27 _ rfl) ⟨hx, hb, hml, hown, hts⟩ q862 q860 q96 q861 okyX0_withBit ⟨Nat.le_of_ble_eq_true rfl, Nat.le_of_ble_eq_true rfl⟩ hP hG hS [] rfl hl.1 rfl (Nat.le_of_ble_eq_true rfl) dX9_word_85 ⟨Nat.zero_le _, Nat.zero_le _⟩ (fun locs hS => ?_)
          refine W.eq (g2 := F0 m 88 ls [.int (fX0_withBit x22 ((t_repair_columns x23.toNatClampNeg) >>> ((tI 2) &&& 31)) a27)]) rfl ?_
          refine lv_istore (lv' := [(4, .int (fX0_withBit x22 ((t_repair_columns x23.toNatClampNeg) >>> ((tI 2) &&& 31)) a27)), (6, .int (t_repair_columns x23.toNatClampNeg)), (5, .int x23), (3, .int a14), (0, .ref ad_t), (1, .ref ad_p0), (2, .int p1)]) hx hb dX9_word_88 hl (by decide) rfl (fun ls hl => ?_)
          refine lv_iinc (v := (x23 + (1 : Int32))) (lv' := [(5, .int (x23 + (1 : Int32))), (4, .int (fX0_withBit x22 ((t_repair_columns x23.toNatClampNeg) >>> ((tI 2) &&& 31)) a27)), (6, .int (t_repair_columns x23.toNatClampNeg)), (3, .int a14), (0, .ref ad_t), (1, .ref ad_p0), (2, .int p1)]) hx hb dX9_word_90 hl (k := 2) rfl (ii_1 _) (by decide) rfl (fun ls hl => ?_)
          refine lv_goto (tgt := 31) hx hb dX9_word_93 (by decide) ?_
          exact ih (fX0_withBit x22 ((t_repair_columns x23.toNatClampNeg) >>> ((tI 2) &&& 31)) a27) (x23 + (1 : Int32)) locs ls (lv_sub hl [0, 1, 3, 4, 5, 6] rfl) hS hf
  exact Ly18 FU a16 (0 : Int32) locs ls (lv_sub hl [0, 1, 2, 3, 4, 5] rfl) hS hLy18

def fX9_putWord_l44 (x2 : Int32) (x3 : Int32) (x5 : Int32) (tI : Nat → Int32) (t_repairI : Nat → Int32) (t_repair_columns : Nat → Int32) : Nat → Int32 → Int32 → (Nat → Int32) → Option (Int32 × (Nat → Int32))
  | 0, _, _, _ => none
  | n + 1, x6, x7, p0_spares =>
    (if (t_repairI 3) ≤ x7 then some (x6, p0_spares) else gd (gi x7 2) ((if (fX9_offset tI (t_repair_columns x7.toNatClampNeg)) = (fX9_offset tI x2) then bn (fX0_putSpareBit p0_spares x5 x7 ((ush x3 ((t_repair_columns x7.toNatClampNeg) >>> ((tI 2) &&& 31))) &&& (1 : Int32))) fun a6 => fX9_putWord_l44 x2 x3 x5 tI t_repairI t_repair_columns n (fX0_withBit x6 ((t_repair_columns x7.toNatClampNeg) >>> ((tI 2) &&& 31)) (0 : Int32)) (x7 + (1 : Int32)) a6 else fX9_putWord_l44 x2 x3 x5 tI t_repairI t_repair_columns n x6 (x7 + (1 : Int32)) p0_spares)))
def fX9_putWord (tI : Nat → Int32) (t_repairI : Nat → Int32) (t_repair_rows : Nat → Int32) (t_repair_columns : Nat → Int32) (p0_spec_numbers : Nat → Int32) (p0_words : Nat → Int32) (p0_spares : Nat → Int32) (p1 : Int32) (p2 : Int32) : Option ((Nat → Int32) × (Nat → Int32)) :=
  bn (fX9_rowPlace tI t_repairI t_repair_rows (fX9_rowOf tI p1)) fun a1 => bn (fX9_putWord_l44 p1 p2 a1 tI t_repairI t_repair_columns FU (if (p0_spec_numbers 1) < (32 : Int32) then (((1 : Int32) <<< ((p0_spec_numbers 1) &&& 31)) - (1 : Int32)) else (-1 : Int32)) (0 : Int32) p0_spares) fun y8 => bn (fX0_wordIn p0_words ((a1 <<< ((tI 2) &&& 31)) + (fX9_offset tI p1))) fun a9 => bn (fX0_putWordIn p0_words ((a1 <<< ((tI 2) &&& 31)) + (fX9_offset tI p1)) ((a9 &&& (y8.1 ^^^ (-1 : Int32))) ||| (p2 &&& y8.1))) fun a11 => some (a11, y8.2)
set_option maxRecDepth 100000 in
set_option maxHeartbeats 4000000 in
theorem tX9_putWord (l : Launch) (G : gG) (ad_t ad_t_repair ad_t_repair_rows ad_t_repair_columns ad_t_repair_candidates ad_t_repair_left ad_p0 ad_p0_spec ad_p0_words ad_p0_spares ad_p0_spec_numbers ad_p0_spec_badRows ad_p0_spec_badColumns ad_p0_spec_badBits : Nat) (tI : Nat → Int32) (t_repairI : Nat → Int32) (t_repair_rows : Nat → Int32) (t_repair_columns : Nat → Int32) (p0_specI : Nat → Int32) (p0_spec_numbers : Nat → Int32) (p0_words : Nat → Int32) (p0_spares : Nat → Int32) (p1 : Int32) (p2 : Int32) (o : (Nat → Int32) × (Nat → Int32)) (hf : fX9_putWord tI t_repairI t_repair_rows t_repair_columns p0_spec_numbers p0_words p0_spares p1 p2 = some o) : mE G l yX9_putWord cX9_putWord 10 none 2 46 0 0 [.ref ad_t, .ref ad_p0, .int p1, .int p2] [(ad_t, .inr (9, [.ref ad_t_repair, .int (tI 1), .int (tI 2), .int (tI 3), .int (tI 4)])), (ad_t_repair, .inr (3, [.ref ad_t_repair_rows, .ref ad_t_repair_columns, .int (t_repairI 2), .int (t_repairI 3), .int (t_repairI 4), .int (t_repairI 5), .ref ad_t_repair_candidates, .ref ad_t_repair_left, .int (t_repairI 8)])), (ad_t_repair_rows, .inl (G.2.1 0, 4, .inl t_repair_rows)), (ad_t_repair_columns, .inl (G.2.1 0, 2, .inl t_repair_columns)), (ad_p0, .inr (0, [.ref ad_p0_spec, .ref ad_p0_words, .ref ad_p0_spares])), (ad_p0_spec, .inr (5, [.ref ad_p0_spec_numbers, .ref ad_p0_spec_badRows, .ref ad_p0_spec_badColumns, .ref ad_p0_spec_badBits, .int (p0_specI 4)])), (ad_p0_spec_numbers, .inl (G.2.1 0, 9, .inl p0_spec_numbers)), (ad_p0_words, .inl (G.2.1 0, 1056, .inl p0_words)), (ad_p0_spares, .inl (G.2.1 0, 33, .inl p0_spares))] (fun r w => r = none ∧ w = [(ad_t, .inr (9, [.ref ad_t_repair, .int (tI 1), .int (tI 2), .int (tI 3), .int (tI 4)])), (ad_t_repair, .inr (3, [.ref ad_t_repair_rows, .ref ad_t_repair_columns, .int (t_repairI 2), .int (t_repairI 3), .int (t_repairI 4), .int (t_repairI 5), .ref ad_t_repair_candidates, .ref ad_t_repair_left, .int (t_repairI 8)])), (ad_t_repair_rows, .inl (G.2.1 0, 4, .inl t_repair_rows)), (ad_t_repair_columns, .inl (G.2.1 0, 2, .inl t_repair_columns)), (ad_p0, .inr (0, [.ref ad_p0_spec, .ref ad_p0_words, .ref ad_p0_spares])), (ad_p0_spec, .inr (5, [.ref ad_p0_spec_numbers, .ref ad_p0_spec_badRows, .ref ad_p0_spec_badColumns, .ref ad_p0_spec_badBits, .int (p0_specI 4)])), (ad_p0_spec_numbers, .inl (G.2.1 0, 9, .inl p0_spec_numbers)), (ad_p0_words, .inl (G.2.1 0, 1056, .inl o.1)), (ad_p0_spares, .inl (G.2.1 0, 33, .inl o.2))]) := by
  refine mE_of (by decide) (Nat.le_of_ble_eq_true rfl) ?_
  intro p e s m below meth cd ls A hx hb hml hown hts hr hlocks hnm hl hA hP hD hS hG
  have hK := hG.1
  have hown : s.vm.findClass RX9 = some m.cls := hown
  have hl : lv_has ls 10 [(0, .ref ad_t), (1, .ref ad_p0), (2, .int p1), (3, .int p2)] := hl
  have hS := hS
  unfold fX9_putWord at hf
  obtain ⟨H, locs, eH, eL⟩ : ∃ (H : Heap) (locs : List Loc), H = s.heap ∧ locs = [] := ⟨_, _, rfl, rfl⟩
  have hP : va_P G.1 vwCl [(ad_t, .inr (9, [.ref ad_t_repair, .int (tI 1), .int (tI 2), .int (tI 3), .int (tI 4)])), (ad_t_repair, .inr (3, [.ref ad_t_repair_rows, .ref ad_t_repair_columns, .int (t_repairI 2), .int (t_repairI 3), .int (t_repairI 4), .int (t_repairI 5), .ref ad_t_repair_candidates, .ref ad_t_repair_left, .int (t_repairI 8)])), (ad_t_repair_rows, .inl (G.2.1 0, 4, .inl t_repair_rows)), (ad_t_repair_columns, .inl (G.2.1 0, 2, .inl t_repair_columns)), (ad_p0, .inr (0, [.ref ad_p0_spec, .ref ad_p0_words, .ref ad_p0_spares])), (ad_p0_spec, .inr (5, [.ref ad_p0_spec_numbers, .ref ad_p0_spec_badRows, .ref ad_p0_spec_badColumns, .ref ad_p0_spec_badBits, .int (p0_specI 4)])), (ad_p0_spec_numbers, .inl (G.2.1 0, 9, .inl p0_spec_numbers)), (ad_p0_words, .inl (G.2.1 0, 1056, .inl p0_words)), (ad_p0_spares, .inl (G.2.1 0, 33, .inl p0_spares))] H := eH ▸ hP
  have hS : va_S A s.heap H locs := by rw [eH, eL]; exact hS
  suffices hgo : wG p l e 2 46 s m [.ref ad_t, .ref ad_p0, .int p1, .int p2] below meth cd H locs (eQ G A (fun r w => r = none ∧ w = [(ad_t, .inr (9, [.ref ad_t_repair, .int (tI 1), .int (tI 2), .int (tI 3), .int (tI 4)])), (ad_t_repair, .inr (3, [.ref ad_t_repair_rows, .ref ad_t_repair_columns, .int (t_repairI 2), .int (t_repairI 3), .int (t_repairI 4), .int (t_repairI 5), .ref ad_t_repair_candidates, .ref ad_t_repair_left, .int (t_repairI 8)])), (ad_t_repair_rows, .inl (G.2.1 0, 4, .inl t_repair_rows)), (ad_t_repair_columns, .inl (G.2.1 0, 2, .inl t_repair_columns)), (ad_p0, .inr (0, [.ref ad_p0_spec, .ref ad_p0_words, .ref ad_p0_spares])), (ad_p0_spec, .inr (5, [.ref ad_p0_spec_numbers, .ref ad_p0_spec_badRows, .ref ad_p0_spec_badColumns, .ref ad_p0_spec_badBits, .int (p0_specI 4)])), (ad_p0_spec_numbers, .inl (G.2.1 0, 9, .inl p0_spec_numbers)), (ad_p0_words, .inl (G.2.1 0, 1056, .inl o.1)), (ad_p0_spares, .inl (G.2.1 0, 33, .inl o.2))])) A (F0 m 0 ls []) by rw [eH, eL] at hgo; exact hgo
  clear eH eL
  refine lv_aload_n hx hb dX9_putWord_0 rfl (lv_at hl 1 rfl) ?_
  refine va_get (D := G.1) (cl := vwCl) (ci := 0) (v := .ref ad_p0_spec) (C := RX0) (T := TX0) (N := 3) hx hb hts inG0 hown hK hP 4 rfl rfl 0 (Nat.le_of_ble_eq_true rfl) (hts _ q189) (fun _ h9 => h9) rfl dX9_putWord_1 ?_
  refine va_get (D := G.1) (cl := vwCl) (ci := 5) (v := .ref ad_p0_spec_numbers) (C := RX5) (T := TX5) (N := 5) hx hb hts inG5 hown hK hP 5 rfl rfl 0 (Nat.le_of_ble_eq_true rfl) (hts _ q150) (fun _ h9 => h9) rfl dX9_putWord_4 ?_
  refine lv_iconst (v := 1) hx hb dX9_putWord_7 (by decide) ?_
  refine va_iald (D := G.1) (cl := vwCl) hx hb hK hP 6 0 rfl rfl (vin (by decide)) dX9_putWord_8 ?_
  refine lv_ti (v := (p0_spec_numbers 1)) (congrArg (p0_spec_numbers) (tn 1)) ?_
  refine lv_istore (lv' := [(4, .int (p0_spec_numbers 1)), (0, .ref ad_t), (1, .ref ad_p0), (2, .int p1), (3, .int p2)]) hx hb dX9_putWord_9 hl (by decide) rfl (fun ls hl => ?_)
  refine lv_aload_n hx hb dX9_putWord_11 rfl (lv_at hl 1 rfl) ?_
  refine lv_aload_n hx hb dX9_putWord_12 rfl (lv_at hl 1 rfl) ?_
  refine lv_iload_n hx hb dX9_putWord_13 rfl (lv_at hl 3 rfl) ?_
  refine kPV (tX9_rowOf l G ad_t ad_t_repair tI p1 _ rfl) ⟨hx, hb, hml, hown, hts⟩ q843 q844 q845 q101 q846 okyX9_rowOf ⟨Nat.le_of_ble_eq_true rfl, Nat.le_of_ble_eq_true rfl⟩ hP hG hS [0] rfl 0 rfl rfl hl.1 rfl (Nat.le_of_ble_eq_true rfl) dX9_putWord_14 ⟨Nat.zero_le _, Nat.zero_le _⟩ (fun locs hS => ?_)
  refine W.eq (g2 := F0 m 17 ls [.int (fX9_rowOf tI p1), .ref ad_t]) rfl ?_
  obtain ⟨a15, h16, hf⟩ := bn_some hf
  refine kPV (tX9_rowPlace l G ad_t ad_t_repair ad_t_repair_rows ad_t_repair_columns ad_t_repair_candidates ad_t_repair_left tI t_repairI t_repair_rows (fX9_rowOf tI p1) a15 h16) ⟨hx, hb, hml, hown, hts⟩ q847 q848 q849 q101 q850 okyX9_rowPlace ⟨Nat.le_of_ble_eq_true rfl, Nat.le_of_ble_eq_true rfl⟩ hP hG hS [0, 1, 2] rfl 0 rfl rfl hl.1 rfl (Nat.le_of_ble_eq_true rfl) dX9_putWord_17 ⟨Nat.zero_le _, Nat.zero_le _⟩ (fun locs hS => ?_)
  refine W.eq (g2 := F0 m 20 ls [.int a15]) rfl ?_
  refine lv_istore (lv' := [(5, .int a15), (4, .int (p0_spec_numbers 1)), (0, .ref ad_t), (1, .ref ad_p0), (2, .int p1), (3, .int p2)]) hx hb dX9_putWord_20 hl (by decide) rfl (fun ls hl => ?_)
  refine lv_iload hx hb dX9_putWord_22 (lv_at hl 1 rfl) ?_
  refine lv_bipush (v := 32) hx hb dX9_putWord_24 (by decide) ?_
  have J30 : wG p l e 2 46 s m [.ref ad_t, .ref ad_p0, .int p1, .int p2] below meth cd H locs (eQ G A (fun r w => r = none ∧ w = [(ad_t, .inr (9, [.ref ad_t_repair, .int (tI 1), .int (tI 2), .int (tI 3), .int (tI 4)])), (ad_t_repair, .inr (3, [.ref ad_t_repair_rows, .ref ad_t_repair_columns, .int (t_repairI 2), .int (t_repairI 3), .int (t_repairI 4), .int (t_repairI 5), .ref ad_t_repair_candidates, .ref ad_t_repair_left, .int (t_repairI 8)])), (ad_t_repair_rows, .inl (G.2.1 0, 4, .inl t_repair_rows)), (ad_t_repair_columns, .inl (G.2.1 0, 2, .inl t_repair_columns)), (ad_p0, .inr (0, [.ref ad_p0_spec, .ref ad_p0_words, .ref ad_p0_spares])), (ad_p0_spec, .inr (5, [.ref ad_p0_spec_numbers, .ref ad_p0_spec_badRows, .ref ad_p0_spec_badColumns, .ref ad_p0_spec_badBits, .int (p0_specI 4)])), (ad_p0_spec_numbers, .inl (G.2.1 0, 9, .inl p0_spec_numbers)), (ad_p0_words, .inl (G.2.1 0, 1056, .inl o.1)), (ad_p0_spares, .inl (G.2.1 0, 33, .inl o.2))])) A (F0 m 39 ls [.int (if (p0_spec_numbers 1) < (32 : Int32) then (((1 : Int32) <<< ((p0_spec_numbers 1) &&& 31)) - (1 : Int32)) else (-1 : Int32))]) := by
    refine lv_istore (lv' := [(6, .int (if (p0_spec_numbers 1) < (32 : Int32) then (((1 : Int32) <<< ((p0_spec_numbers 1) &&& 31)) - (1 : Int32)) else (-1 : Int32))), (5, .int a15), (4, .int (p0_spec_numbers 1)), (0, .ref ad_t), (1, .ref ad_p0), (2, .int p1), (3, .int p2)]) hx hb dX9_putWord_39 hl (by decide) rfl (fun ls hl => ?_)
    refine lv_iconst (v := 0) hx hb dX9_putWord_41 (by decide) ?_
    refine lv_istore (lv' := [(7, .int (0 : Int32)), (6, .int (if (p0_spec_numbers 1) < (32 : Int32) then (((1 : Int32) <<< ((p0_spec_numbers 1) &&& 31)) - (1 : Int32)) else (-1 : Int32))), (5, .int a15), (4, .int (p0_spec_numbers 1)), (0, .ref ad_t), (1, .ref ad_p0), (2, .int p1), (3, .int p2)]) hx hb dX9_putWord_42 hl (by decide) rfl (fun ls hl => ?_)
    obtain ⟨y17, hLy17, hky17⟩ := bn_some hf
    have Ey17 : ∀  (H : Heap) (locs : List Loc) (ls : Array Slot), lv_has ls 10 [(6, .int y17.1), (5, .int a15), (0, .ref ad_t), (1, .ref ad_p0), (2, .int p1), (3, .int p2)] → va_P G.1 vwCl [(ad_t, .inr (9, [.ref ad_t_repair, .int (tI 1), .int (tI 2), .int (tI 3), .int (tI 4)])), (ad_t_repair, .inr (3, [.ref ad_t_repair_rows, .ref ad_t_repair_columns, .int (t_repairI 2), .int (t_repairI 3), .int (t_repairI 4), .int (t_repairI 5), .ref ad_t_repair_candidates, .ref ad_t_repair_left, .int (t_repairI 8)])), (ad_t_repair_rows, .inl (G.2.1 0, 4, .inl t_repair_rows)), (ad_t_repair_columns, .inl (G.2.1 0, 2, .inl t_repair_columns)), (ad_p0, .inr (0, [.ref ad_p0_spec, .ref ad_p0_words, .ref ad_p0_spares])), (ad_p0_spec, .inr (5, [.ref ad_p0_spec_numbers, .ref ad_p0_spec_badRows, .ref ad_p0_spec_badColumns, .ref ad_p0_spec_badBits, .int (p0_specI 4)])), (ad_p0_spec_numbers, .inl (G.2.1 0, 9, .inl p0_spec_numbers)), (ad_p0_words, .inl (G.2.1 0, 1056, .inl p0_words)), (ad_p0_spares, .inl (G.2.1 0, 33, .inl y17.2))] H → va_D A [(ad_t, .inr (9, [.ref ad_t_repair, .int (tI 1), .int (tI 2), .int (tI 3), .int (tI 4)])), (ad_t_repair, .inr (3, [.ref ad_t_repair_rows, .ref ad_t_repair_columns, .int (t_repairI 2), .int (t_repairI 3), .int (t_repairI 4), .int (t_repairI 5), .ref ad_t_repair_candidates, .ref ad_t_repair_left, .int (t_repairI 8)])), (ad_t_repair_rows, .inl (G.2.1 0, 4, .inl t_repair_rows)), (ad_t_repair_columns, .inl (G.2.1 0, 2, .inl t_repair_columns)), (ad_p0, .inr (0, [.ref ad_p0_spec, .ref ad_p0_words, .ref ad_p0_spares])), (ad_p0_spec, .inr (5, [.ref ad_p0_spec_numbers, .ref ad_p0_spec_badRows, .ref ad_p0_spec_badColumns, .ref ad_p0_spec_badBits, .int (p0_specI 4)])), (ad_p0_spec_numbers, .inl (G.2.1 0, 9, .inl p0_spec_numbers)), (ad_p0_words, .inl (G.2.1 0, 1056, .inl p0_words)), (ad_p0_spares, .inl (G.2.1 0, 33, .inl y17.2))] → va_S A s.heap H locs → wG p l e 2 46 s m [.ref ad_t, .ref ad_p0, .int p1, .int p2] below meth cd H locs (eQ G A (fun r w => r = none ∧ w = [(ad_t, .inr (9, [.ref ad_t_repair, .int (tI 1), .int (tI 2), .int (tI 3), .int (tI 4)])), (ad_t_repair, .inr (3, [.ref ad_t_repair_rows, .ref ad_t_repair_columns, .int (t_repairI 2), .int (t_repairI 3), .int (t_repairI 4), .int (t_repairI 5), .ref ad_t_repair_candidates, .ref ad_t_repair_left, .int (t_repairI 8)])), (ad_t_repair_rows, .inl (G.2.1 0, 4, .inl t_repair_rows)), (ad_t_repair_columns, .inl (G.2.1 0, 2, .inl t_repair_columns)), (ad_p0, .inr (0, [.ref ad_p0_spec, .ref ad_p0_words, .ref ad_p0_spares])), (ad_p0_spec, .inr (5, [.ref ad_p0_spec_numbers, .ref ad_p0_spec_badRows, .ref ad_p0_spec_badColumns, .ref ad_p0_spec_badBits, .int (p0_specI 4)])), (ad_p0_spec_numbers, .inl (G.2.1 0, 9, .inl p0_spec_numbers)), (ad_p0_words, .inl (G.2.1 0, 1056, .inl o.1)), (ad_p0_spares, .inl (G.2.1 0, 33, .inl o.2))])) A (F0 m 121 ls []) := by
      intro  H locs ls hl hP hD hS
      have hf := hky17
      refine lv_iload hx hb dX9_putWord_121 (lv_at hl 1 rfl) ?_
      refine lv_aload_n hx hb dX9_putWord_123 rfl (lv_at hl 2 rfl) ?_
      refine va_get (D := G.1) (cl := vwCl) (ci := 9) (v := .int (tI 2)) (C := RX9) (T := TX9) (N := 5) hx hb hts inG9 hown hK hP 0 rfl rfl 2 (Nat.le_of_ble_eq_true rfl) (hts _ q323) (fun _ h9 => h9) rfl dX9_putWord_124 ?_
      refine lv_ishl hx hb dX9_putWord_127 ?_
      refine lv_aload_n hx hb dX9_putWord_128 rfl (lv_at hl 2 rfl) ?_
      refine lv_iload_n hx hb dX9_putWord_129 rfl (lv_at hl 4 rfl) ?_
      refine kPV (tX9_offset l G ad_t ad_t_repair tI p1 _ rfl) ⟨hx, hb, hml, hown, hts⟩ q851 q853 q30 q101 q854 okyX9_offset ⟨Nat.le_of_ble_eq_true rfl, Nat.le_of_ble_eq_true rfl⟩ hP hG hS [0] rfl 0 rfl rfl hl.1 rfl (Nat.le_of_ble_eq_true rfl) dX9_putWord_130 ⟨Nat.zero_le _, Nat.zero_le _⟩ (fun locs hS => ?_)
      refine W.eq (g2 := F0 m 133 ls [.int (fX9_offset tI p1), .int (a15 <<< ((tI 2) &&& 31))]) rfl ?_
      refine lv_iadd hx hb dX9_putWord_133 ?_
      refine lv_istore (lv' := [(7, .int ((a15 <<< ((tI 2) &&& 31)) + (fX9_offset tI p1))), (6, .int y17.1), (5, .int a15), (0, .ref ad_t), (1, .ref ad_p0), (2, .int p1), (3, .int p2)]) hx hb dX9_putWord_134 hl (by decide) rfl (fun ls hl => ?_)
      refine lv_aload_n hx hb dX9_putWord_136 rfl (lv_at hl 4 rfl) ?_
      refine lv_iload hx hb dX9_putWord_137 (lv_at hl 0 rfl) ?_
      refine lv_aload_n hx hb dX9_putWord_139 rfl (lv_at hl 4 rfl) ?_
      refine lv_iload hx hb dX9_putWord_140 (lv_at hl 0 rfl) ?_
      obtain ⟨a18, h19, hf⟩ := bn_some hf
      refine kPV (tX0_wordIn l G ad_p0 ad_p0_spec ad_p0_words ad_p0_spares p0_words ((a15 <<< ((tI 2) &&& 31)) + (fX9_offset tI p1)) a18 h19) ⟨hx, hb, hml, hown, hts⟩ q863 q864 q865 q96 q866 okyX0_wordIn ⟨Nat.le_of_ble_eq_true rfl, Nat.le_of_ble_eq_true rfl⟩ hP hG hS [4, 7] rfl 4 rfl rfl hl.1 rfl (Nat.le_of_ble_eq_true rfl) dX9_putWord_142 ⟨Nat.zero_le _, Nat.zero_le _⟩ (fun locs hS => ?_)
      refine W.eq (g2 := F0 m 145 ls [.int a18, .int ((a15 <<< ((tI 2) &&& 31)) + (fX9_offset tI p1)), .ref ad_p0]) rfl ?_
      refine lv_iload hx hb dX9_putWord_145 (lv_at hl 1 rfl) ?_
      refine lv_iconst (v := -1) hx hb dX9_putWord_147 (by decide) ?_
      refine lv_ixor hx hb dX9_putWord_148 ?_
      refine lv_iand hx hb dX9_putWord_149 ?_
      refine lv_iload_n hx hb dX9_putWord_150 rfl (lv_at hl 6 rfl) ?_
      refine lv_iload hx hb dX9_putWord_151 (lv_at hl 1 rfl) ?_
      refine lv_iand hx hb dX9_putWord_153 ?_
      refine lv_ior hx hb dX9_putWord_154 ?_
      obtain ⟨a20, h21, hf⟩ := bn_some hf
      refine kEV (tX0_putWordIn l G ad_p0 ad_p0_spec ad_p0_words ad_p0_spares p0_words ((a15 <<< ((tI 2) &&& 31)) + (fX9_offset tI p1)) ((a18 &&& (y17.1 ^^^ (-1 : Int32))) ||| (p2 &&& y17.1)) a20 h21) ⟨hx, hb, hml, hown, hts⟩ q867 q868 q869 q96 q870 okyX0_putWordIn ⟨Nat.le_of_ble_eq_true rfl, Nat.le_of_ble_eq_true rfl⟩ hP hD hG hS hA [4, 7] [0, 1, 2, 3, 5, 6, 8] rfl (wr := [(ad_t, .inr (9, [.ref ad_t_repair, .int (tI 1), .int (tI 2), .int (tI 3), .int (tI 4)])), (ad_t_repair, .inr (3, [.ref ad_t_repair_rows, .ref ad_t_repair_columns, .int (t_repairI 2), .int (t_repairI 3), .int (t_repairI 4), .int (t_repairI 5), .ref ad_t_repair_candidates, .ref ad_t_repair_left, .int (t_repairI 8)])), (ad_t_repair_rows, .inl (G.2.1 0, 4, .inl t_repair_rows)), (ad_t_repair_columns, .inl (G.2.1 0, 2, .inl t_repair_columns)), (ad_p0_spec, .inr (5, [.ref ad_p0_spec_numbers, .ref ad_p0_spec_badRows, .ref ad_p0_spec_badColumns, .ref ad_p0_spec_badBits, .int (p0_specI 4)])), (ad_p0_spec_numbers, .inl (G.2.1 0, 9, .inl p0_spec_numbers)), (ad_p0_spares, .inl (G.2.1 0, 33, .inl y17.2))]) rfl (by decide) 4 rfl rfl hl.1 rfl (Nat.le_of_ble_eq_true rfl) dX9_putWord_155 ⟨Nat.zero_le _, Nat.zero_le _⟩ (fun r w H locs hR hP hD hS => ?_)
      obtain ⟨rfl, rfl⟩ := hR
      have hP : va_P G.1 vwCl [(ad_t, .inr (9, [.ref ad_t_repair, .int (tI 1), .int (tI 2), .int (tI 3), .int (tI 4)])), (ad_t_repair, .inr (3, [.ref ad_t_repair_rows, .ref ad_t_repair_columns, .int (t_repairI 2), .int (t_repairI 3), .int (t_repairI 4), .int (t_repairI 5), .ref ad_t_repair_candidates, .ref ad_t_repair_left, .int (t_repairI 8)])), (ad_t_repair_rows, .inl (G.2.1 0, 4, .inl t_repair_rows)), (ad_t_repair_columns, .inl (G.2.1 0, 2, .inl t_repair_columns)), (ad_p0_spec, .inr (5, [.ref ad_p0_spec_numbers, .ref ad_p0_spec_badRows, .ref ad_p0_spec_badColumns, .ref ad_p0_spec_badBits, .int (p0_specI 4)])), (ad_p0_spec_numbers, .inl (G.2.1 0, 9, .inl p0_spec_numbers)), (ad_p0_spares, .inl (G.2.1 0, 33, .inl y17.2)), (ad_p0, .inr (0, [.ref ad_p0_spec, .ref ad_p0_words, .ref ad_p0_spares])), (ad_p0_words, .inl (G.2.1 0, 1056, .inl a20))] H := hP
      have hD : va_D A [(ad_t, .inr (9, [.ref ad_t_repair, .int (tI 1), .int (tI 2), .int (tI 3), .int (tI 4)])), (ad_t_repair, .inr (3, [.ref ad_t_repair_rows, .ref ad_t_repair_columns, .int (t_repairI 2), .int (t_repairI 3), .int (t_repairI 4), .int (t_repairI 5), .ref ad_t_repair_candidates, .ref ad_t_repair_left, .int (t_repairI 8)])), (ad_t_repair_rows, .inl (G.2.1 0, 4, .inl t_repair_rows)), (ad_t_repair_columns, .inl (G.2.1 0, 2, .inl t_repair_columns)), (ad_p0_spec, .inr (5, [.ref ad_p0_spec_numbers, .ref ad_p0_spec_badRows, .ref ad_p0_spec_badColumns, .ref ad_p0_spec_badBits, .int (p0_specI 4)])), (ad_p0_spec_numbers, .inl (G.2.1 0, 9, .inl p0_spec_numbers)), (ad_p0_spares, .inl (G.2.1 0, 33, .inl y17.2)), (ad_p0, .inr (0, [.ref ad_p0_spec, .ref ad_p0_words, .ref ad_p0_spares])), (ad_p0_words, .inl (G.2.1 0, 1056, .inl a20))] := hD
      refine W.eq (g2 := F0 m 158 ls []) rfl ?_
      have hf := Option.some.inj hf
      subst hf
      have hP := hP.sub (ws' := [(ad_t, .inr (9, [.ref ad_t_repair, .int (tI 1), .int (tI 2), .int (tI 3), .int (tI 4)])), (ad_t_repair, .inr (3, [.ref ad_t_repair_rows, .ref ad_t_repair_columns, .int (t_repairI 2), .int (t_repairI 3), .int (t_repairI 4), .int (t_repairI 5), .ref ad_t_repair_candidates, .ref ad_t_repair_left, .int (t_repairI 8)])), (ad_t_repair_rows, .inl (G.2.1 0, 4, .inl t_repair_rows)), (ad_t_repair_columns, .inl (G.2.1 0, 2, .inl t_repair_columns)), (ad_p0, .inr (0, [.ref ad_p0_spec, .ref ad_p0_words, .ref ad_p0_spares])), (ad_p0_spec, .inr (5, [.ref ad_p0_spec_numbers, .ref ad_p0_spec_badRows, .ref ad_p0_spec_badColumns, .ref ad_p0_spec_badBits, .int (p0_specI 4)])), (ad_p0_spec_numbers, .inl (G.2.1 0, 9, .inl p0_spec_numbers)), (ad_p0_words, .inl (G.2.1 0, 1056, .inl a20)), (ad_p0_spares, .inl (G.2.1 0, 33, .inl y17.2))]) [0, 1, 2, 3, 7, 4, 5, 8, 6] rfl
      have hD := hD.sub (ws' := [(ad_t, .inr (9, [.ref ad_t_repair, .int (tI 1), .int (tI 2), .int (tI 3), .int (tI 4)])), (ad_t_repair, .inr (3, [.ref ad_t_repair_rows, .ref ad_t_repair_columns, .int (t_repairI 2), .int (t_repairI 3), .int (t_repairI 4), .int (t_repairI 5), .ref ad_t_repair_candidates, .ref ad_t_repair_left, .int (t_repairI 8)])), (ad_t_repair_rows, .inl (G.2.1 0, 4, .inl t_repair_rows)), (ad_t_repair_columns, .inl (G.2.1 0, 2, .inl t_repair_columns)), (ad_p0, .inr (0, [.ref ad_p0_spec, .ref ad_p0_words, .ref ad_p0_spares])), (ad_p0_spec, .inr (5, [.ref ad_p0_spec_numbers, .ref ad_p0_spec_badRows, .ref ad_p0_spec_badColumns, .ref ad_p0_spec_badBits, .int (p0_specI 4)])), (ad_p0_spec_numbers, .inl (G.2.1 0, 9, .inl p0_spec_numbers)), (ad_p0_words, .inl (G.2.1 0, 1056, .inl a20)), (ad_p0_spares, .inl (G.2.1 0, 33, .inl y17.2))]) [0, 1, 2, 3, 7, 4, 5, 8, 6] (by decide) rfl
      exact eRetV hx hb hr hlocks hP hD hS ⟨rfl, rfl⟩ dX9_putWord_158
    have Ly17 : ∀ (n : Nat), ∀ (x22 : Int32) (x23 : Int32) (g24 : Nat → Int32) (H : Heap) (locs : List Loc) (ls : Array Slot), lv_has ls 10 [(7, .int x23), (6, .int x22), (5, .int a15), (0, .ref ad_t), (1, .ref ad_p0), (2, .int p1), (3, .int p2)] → va_P G.1 vwCl [(ad_t, .inr (9, [.ref ad_t_repair, .int (tI 1), .int (tI 2), .int (tI 3), .int (tI 4)])), (ad_t_repair, .inr (3, [.ref ad_t_repair_rows, .ref ad_t_repair_columns, .int (t_repairI 2), .int (t_repairI 3), .int (t_repairI 4), .int (t_repairI 5), .ref ad_t_repair_candidates, .ref ad_t_repair_left, .int (t_repairI 8)])), (ad_t_repair_rows, .inl (G.2.1 0, 4, .inl t_repair_rows)), (ad_t_repair_columns, .inl (G.2.1 0, 2, .inl t_repair_columns)), (ad_p0, .inr (0, [.ref ad_p0_spec, .ref ad_p0_words, .ref ad_p0_spares])), (ad_p0_spec, .inr (5, [.ref ad_p0_spec_numbers, .ref ad_p0_spec_badRows, .ref ad_p0_spec_badColumns, .ref ad_p0_spec_badBits, .int (p0_specI 4)])), (ad_p0_spec_numbers, .inl (G.2.1 0, 9, .inl p0_spec_numbers)), (ad_p0_words, .inl (G.2.1 0, 1056, .inl p0_words)), (ad_p0_spares, .inl (G.2.1 0, 33, .inl g24))] H → va_D A [(ad_t, .inr (9, [.ref ad_t_repair, .int (tI 1), .int (tI 2), .int (tI 3), .int (tI 4)])), (ad_t_repair, .inr (3, [.ref ad_t_repair_rows, .ref ad_t_repair_columns, .int (t_repairI 2), .int (t_repairI 3), .int (t_repairI 4), .int (t_repairI 5), .ref ad_t_repair_candidates, .ref ad_t_repair_left, .int (t_repairI 8)])), (ad_t_repair_rows, .inl (G.2.1 0, 4, .inl t_repair_rows)), (ad_t_repair_columns, .inl (G.2.1 0, 2, .inl t_repair_columns)), (ad_p0, .inr (0, [.ref ad_p0_spec, .ref ad_p0_words, .ref ad_p0_spares])), (ad_p0_spec, .inr (5, [.ref ad_p0_spec_numbers, .ref ad_p0_spec_badRows, .ref ad_p0_spec_badColumns, .ref ad_p0_spec_badBits, .int (p0_specI 4)])), (ad_p0_spec_numbers, .inl (G.2.1 0, 9, .inl p0_spec_numbers)), (ad_p0_words, .inl (G.2.1 0, 1056, .inl p0_words)), (ad_p0_spares, .inl (G.2.1 0, 33, .inl g24))] → va_S A s.heap H locs → fX9_putWord_l44 p1 p2 a15 tI t_repairI t_repair_columns n x22 x23 g24 = some y17 → wG p l e 2 46 s m [.ref ad_t, .ref ad_p0, .int p1, .int p2] below meth cd H locs (eQ G A (fun r w => r = none ∧ w = [(ad_t, .inr (9, [.ref ad_t_repair, .int (tI 1), .int (tI 2), .int (tI 3), .int (tI 4)])), (ad_t_repair, .inr (3, [.ref ad_t_repair_rows, .ref ad_t_repair_columns, .int (t_repairI 2), .int (t_repairI 3), .int (t_repairI 4), .int (t_repairI 5), .ref ad_t_repair_candidates, .ref ad_t_repair_left, .int (t_repairI 8)])), (ad_t_repair_rows, .inl (G.2.1 0, 4, .inl t_repair_rows)), (ad_t_repair_columns, .inl (G.2.1 0, 2, .inl t_repair_columns)), (ad_p0, .inr (0, [.ref ad_p0_spec, .ref ad_p0_words, .ref ad_p0_spares])), (ad_p0_spec, .inr (5, [.ref ad_p0_spec_numbers, .ref ad_p0_spec_badRows, .ref ad_p0_spec_badColumns, .ref ad_p0_spec_badBits, .int (p0_specI 4)])), (ad_p0_spec_numbers, .inl (G.2.1 0, 9, .inl p0_spec_numbers)), (ad_p0_words, .inl (G.2.1 0, 1056, .inl o.1)), (ad_p0_spares, .inl (G.2.1 0, 33, .inl o.2))])) A (F0 m 44 ls []) := by
      intro n
      induction n with
      | zero =>
        intro x22 x23 g24 H locs ls hl hP hD hS hf
        rw [fX9_putWord_l44] at hf
        cases hf
      | succ n ih =>
        intro x22 x23 g24 H locs ls hl hP hD hS hf
        rw [fX9_putWord_l44] at hf
        refine lv_iload hx hb dX9_putWord_44 (lv_at hl 0 rfl) ?_
        refine lv_aload_n hx hb dX9_putWord_46 rfl (lv_at hl 3 rfl) ?_
        refine va_get (D := G.1) (cl := vwCl) (ci := 9) (v := .ref ad_t_repair) (C := RX9) (T := TX9) (N := 5) hx hb hts inG9 hown hK hP 0 rfl rfl 0 (Nat.le_of_ble_eq_true rfl) (hts _ q319) (fun _ h9 => h9) rfl dX9_putWord_47 ?_
        refine va_get (D := G.1) (cl := vwCl) (ci := 3) (v := .int (t_repairI 3)) (C := RX3) (T := TX3) (N := 9) hx hb hts inG3 hown hK hP 1 rfl rfl 3 (Nat.le_of_ble_eq_true rfl) (hts _ q290) (fun _ h9 => h9) rfl dX9_putWord_50 ?_
        refine lv_icmp_ge (tgt := 121) hx hb dX9_putWord_53 (by decide) (fun c25 => ?_) (fun c25 => ?_)
        · have hf := if_t hf c25
          have hf := Option.some.inj hf
          subst hf
          exact Ey17  H locs ls (lv_sub hl [1, 2, 3, 4, 5, 6] rfl) hP hD hS 
        · have hf := if_f hf c25
          refine lv_aload_n hx hb dX9_putWord_56 rfl (lv_at hl 3 rfl) ?_
          refine va_get (D := G.1) (cl := vwCl) (ci := 9) (v := .ref ad_t_repair) (C := RX9) (T := TX9) (N := 5) hx hb hts inG9 hown hK hP 0 rfl rfl 0 (Nat.le_of_ble_eq_true rfl) (hts _ q319) (fun _ h9 => h9) rfl dX9_putWord_57 ?_
          refine va_get (D := G.1) (cl := vwCl) (ci := 3) (v := .ref ad_t_repair_columns) (C := RX3) (T := TX3) (N := 9) hx hb hts inG3 hown hK hP 1 rfl rfl 1 (Nat.le_of_ble_eq_true rfl) (hts _ q282) (fun _ h9 => h9) rfl dX9_putWord_60 ?_
          refine lv_iload hx hb dX9_putWord_63 (lv_at hl 0 rfl) ?_
          obtain ⟨h26, hf⟩ := gd_some hf
          refine va_iald (D := G.1) (cl := vwCl) hx hb hK hP 3 0 rfl rfl (gi_in h26) dX9_putWord_65 ?_
          refine lv_istore (lv' := [(8, .int (t_repair_columns x23.toNatClampNeg)), (7, .int x23), (6, .int x22), (5, .int a15), (0, .ref ad_t), (1, .ref ad_p0), (2, .int p1), (3, .int p2)]) hx hb dX9_putWord_66 hl (by decide) rfl (fun ls hl => ?_)
          refine lv_iload hx hb dX9_putWord_68 (lv_at hl 0 rfl) ?_
          refine lv_aload_n hx hb dX9_putWord_70 rfl (lv_at hl 4 rfl) ?_
          refine va_get (D := G.1) (cl := vwCl) (ci := 9) (v := .int (tI 2)) (C := RX9) (T := TX9) (N := 5) hx hb hts inG9 hown hK hP 0 rfl rfl 2 (Nat.le_of_ble_eq_true rfl) (hts _ q323) (fun _ h9 => h9) rfl dX9_putWord_71 ?_
          refine lv_ishr hx hb dX9_putWord_74 ?_
          refine lv_istore (lv' := [(9, .int ((t_repair_columns x23.toNatClampNeg) >>> ((tI 2) &&& 31))), (8, .int (t_repair_columns x23.toNatClampNeg)), (7, .int x23), (6, .int x22), (5, .int a15), (0, .ref ad_t), (1, .ref ad_p0), (2, .int p1), (3, .int p2)]) hx hb dX9_putWord_75 hl (by decide) rfl (fun ls hl => ?_)
          refine lv_aload_n hx hb dX9_putWord_77 rfl (lv_at hl 5 rfl) ?_
          refine lv_iload hx hb dX9_putWord_78 (lv_at hl 1 rfl) ?_
          refine kPV (tX9_offset l G ad_t ad_t_repair tI (t_repair_columns x23.toNatClampNeg) _ rfl) ⟨hx, hb, hml, hown, hts⟩ q851 q853 q30 q101 q854 okyX9_offset ⟨Nat.le_of_ble_eq_true rfl, Nat.le_of_ble_eq_true rfl⟩ hP hG hS [0] rfl 0 rfl rfl hl.1 rfl (Nat.le_of_ble_eq_true rfl) dX9_putWord_80 ⟨Nat.zero_le _, Nat.zero_le _⟩ (fun locs hS => ?_)
          refine W.eq (g2 := F0 m 83 ls [.int (fX9_offset tI (t_repair_columns x23.toNatClampNeg))]) rfl ?_
          refine lv_aload_n hx hb dX9_putWord_83 rfl (lv_at hl 5 rfl) ?_
          refine lv_iload_n hx hb dX9_putWord_84 rfl (lv_at hl 7 rfl) ?_
          refine kPV (tX9_offset l G ad_t ad_t_repair tI p1 _ rfl) ⟨hx, hb, hml, hown, hts⟩ q851 q853 q30 q101 q854 okyX9_offset ⟨Nat.le_of_ble_eq_true rfl, Nat.le_of_ble_eq_true rfl⟩ hP hG hS [0] rfl 0 rfl rfl hl.1 rfl (Nat.le_of_ble_eq_true rfl) dX9_putWord_85 ⟨Nat.zero_le _, Nat.zero_le _⟩ (fun locs hS => ?_)
          refine W.eq (g2 := F0 m 88 ls [.int (fX9_offset tI p1), .int (fX9_offset tI (t_repair_columns x23.toNatClampNeg))]) rfl ?_
          refine lv_icmp_ne (tgt := 115) hx hb dX9_putWord_88 (by decide) (fun c27 => ?_) (fun c27 => ?_)
          · have hf := if_f hf c27
            refine lv_iinc (v := (x23 + (1 : Int32))) (lv' := [(7, .int (x23 + (1 : Int32))), (9, .int ((t_repair_columns x23.toNatClampNeg) >>> ((tI 2) &&& 31))), (8, .int (t_repair_columns x23.toNatClampNeg)), (6, .int x22), (5, .int a15), (0, .ref ad_t), (1, .ref ad_p0), (2, .int p1), (3, .int p2)]) hx hb dX9_putWord_115 hl (k := 2) rfl (ii_1 _) (by decide) rfl (fun ls hl => ?_)
            refine lv_goto (tgt := 44) hx hb dX9_putWord_118 (by decide) ?_
            exact ih x22 (x23 + (1 : Int32)) g24 H locs ls (lv_sub hl [0, 3, 4, 5, 6, 7, 8] rfl) hP hD hS hf
          · have hf := if_t hf c27
            refine lv_aload_n hx hb dX9_putWord_91 rfl (lv_at hl 6 rfl) ?_
            refine lv_iload hx hb dX9_putWord_92 (lv_at hl 4 rfl) ?_
            refine lv_iload hx hb dX9_putWord_94 (lv_at hl 2 rfl) ?_
            refine lv_iload_n hx hb dX9_putWord_96 rfl (lv_at hl 8 rfl) ?_
            refine lv_iload hx hb dX9_putWord_97 (lv_at hl 0 rfl) ?_
            refine lv_iushr (v := ush p2 ((t_repair_columns x23.toNatClampNeg) >>> ((tI 2) &&& 31))) hx hb dX9_putWord_99 rfl ?_
            refine lv_iconst (v := 1) hx hb dX9_putWord_100 (by decide) ?_
            refine lv_iand hx hb dX9_putWord_101 ?_
            obtain ⟨a28, h29, hf⟩ := bn_some hf
            refine kEV (tX0_putSpareBit l G ad_p0 ad_p0_spec ad_p0_words ad_p0_spares g24 a15 x23 ((ush p2 ((t_repair_columns x23.toNatClampNeg) >>> ((tI 2) &&& 31))) &&& (1 : Int32)) a28 h29) ⟨hx, hb, hml, hown, hts⟩ q855 q856 q857 q96 q858 okyX0_putSpareBit ⟨Nat.le_of_ble_eq_true rfl, Nat.le_of_ble_eq_true rfl⟩ hP hD hG hS hA [4, 8] [0, 1, 2, 3, 5, 6, 7] rfl (wr := [(ad_t, .inr (9, [.ref ad_t_repair, .int (tI 1), .int (tI 2), .int (tI 3), .int (tI 4)])), (ad_t_repair, .inr (3, [.ref ad_t_repair_rows, .ref ad_t_repair_columns, .int (t_repairI 2), .int (t_repairI 3), .int (t_repairI 4), .int (t_repairI 5), .ref ad_t_repair_candidates, .ref ad_t_repair_left, .int (t_repairI 8)])), (ad_t_repair_rows, .inl (G.2.1 0, 4, .inl t_repair_rows)), (ad_t_repair_columns, .inl (G.2.1 0, 2, .inl t_repair_columns)), (ad_p0_spec, .inr (5, [.ref ad_p0_spec_numbers, .ref ad_p0_spec_badRows, .ref ad_p0_spec_badColumns, .ref ad_p0_spec_badBits, .int (p0_specI 4)])), (ad_p0_spec_numbers, .inl (G.2.1 0, 9, .inl p0_spec_numbers)), (ad_p0_words, .inl (G.2.1 0, 1056, .inl p0_words))]) rfl (by decide) 4 rfl rfl hl.1 rfl (Nat.le_of_ble_eq_true rfl) dX9_putWord_102 ⟨Nat.zero_le _, Nat.zero_le _⟩ (fun r w H locs hR hP hD hS => ?_)
            obtain ⟨rfl, rfl⟩ := hR
            have hP : va_P G.1 vwCl [(ad_t, .inr (9, [.ref ad_t_repair, .int (tI 1), .int (tI 2), .int (tI 3), .int (tI 4)])), (ad_t_repair, .inr (3, [.ref ad_t_repair_rows, .ref ad_t_repair_columns, .int (t_repairI 2), .int (t_repairI 3), .int (t_repairI 4), .int (t_repairI 5), .ref ad_t_repair_candidates, .ref ad_t_repair_left, .int (t_repairI 8)])), (ad_t_repair_rows, .inl (G.2.1 0, 4, .inl t_repair_rows)), (ad_t_repair_columns, .inl (G.2.1 0, 2, .inl t_repair_columns)), (ad_p0_spec, .inr (5, [.ref ad_p0_spec_numbers, .ref ad_p0_spec_badRows, .ref ad_p0_spec_badColumns, .ref ad_p0_spec_badBits, .int (p0_specI 4)])), (ad_p0_spec_numbers, .inl (G.2.1 0, 9, .inl p0_spec_numbers)), (ad_p0_words, .inl (G.2.1 0, 1056, .inl p0_words)), (ad_p0, .inr (0, [.ref ad_p0_spec, .ref ad_p0_words, .ref ad_p0_spares])), (ad_p0_spares, .inl (G.2.1 0, 33, .inl a28))] H := hP
            have hD : va_D A [(ad_t, .inr (9, [.ref ad_t_repair, .int (tI 1), .int (tI 2), .int (tI 3), .int (tI 4)])), (ad_t_repair, .inr (3, [.ref ad_t_repair_rows, .ref ad_t_repair_columns, .int (t_repairI 2), .int (t_repairI 3), .int (t_repairI 4), .int (t_repairI 5), .ref ad_t_repair_candidates, .ref ad_t_repair_left, .int (t_repairI 8)])), (ad_t_repair_rows, .inl (G.2.1 0, 4, .inl t_repair_rows)), (ad_t_repair_columns, .inl (G.2.1 0, 2, .inl t_repair_columns)), (ad_p0_spec, .inr (5, [.ref ad_p0_spec_numbers, .ref ad_p0_spec_badRows, .ref ad_p0_spec_badColumns, .ref ad_p0_spec_badBits, .int (p0_specI 4)])), (ad_p0_spec_numbers, .inl (G.2.1 0, 9, .inl p0_spec_numbers)), (ad_p0_words, .inl (G.2.1 0, 1056, .inl p0_words)), (ad_p0, .inr (0, [.ref ad_p0_spec, .ref ad_p0_words, .ref ad_p0_spares])), (ad_p0_spares, .inl (G.2.1 0, 33, .inl a28))] := hD
            refine W.eq (g2 := F0 m 105 ls []) rfl ?_
            refine lv_iload hx hb dX9_putWord_105 (lv_at hl 3 rfl) ?_
            refine lv_iload hx hb dX9_putWord_107 (lv_at hl 0 rfl) ?_
            refine lv_iconst (v := 0) hx hb dX9_putWord_109 (by decide) ?_
            refine kPS (tX0_withBit l G x22 ((t_repair_columns x23.toNatClampNeg) >>> ((tI 2) &&& 31)) (0 : Int32) _ rfl) ⟨hx, hb, hml, hown, hts⟩ q862 q860 q96 q861 okyX0_withBit ⟨Nat.le_of_ble_eq_true rfl, Nat.le_of_ble_eq_true rfl⟩ hP hG hS [] rfl hl.1 rfl (Nat.le_of_ble_eq_true rfl) dX9_putWord_110 ⟨Nat.zero_le _, Nat.zero_le _⟩ (fun locs hS => ?_)
            refine W.eq (g2 := F0 m 113 ls [.int (fX0_withBit x22 ((t_repair_columns x23.toNatClampNeg) >>> ((tI 2) &&& 31)) (0 : Int32))]) rfl ?_
            refine lv_istore (lv' := [(6, .int (fX0_withBit x22 ((t_repair_columns x23.toNatClampNeg) >>> ((tI 2) &&& 31)) (0 : Int32))), (9, .int ((t_repair_columns x23.toNatClampNeg) >>> ((tI 2) &&& 31))), (8, .int (t_repair_columns x23.toNatClampNeg)), (7, .int x23), (5, .int a15), (0, .ref ad_t), (1, .ref ad_p0), (2, .int p1), (3, .int p2)]) hx hb dX9_putWord_113 hl (by decide) rfl (fun ls hl => ?_)
            refine lv_iinc (v := (x23 + (1 : Int32))) (lv' := [(7, .int (x23 + (1 : Int32))), (6, .int (fX0_withBit x22 ((t_repair_columns x23.toNatClampNeg) >>> ((tI 2) &&& 31)) (0 : Int32))), (9, .int ((t_repair_columns x23.toNatClampNeg) >>> ((tI 2) &&& 31))), (8, .int (t_repair_columns x23.toNatClampNeg)), (5, .int a15), (0, .ref ad_t), (1, .ref ad_p0), (2, .int p1), (3, .int p2)]) hx hb dX9_putWord_115 hl (k := 3) rfl (ii_1 _) (by decide) rfl (fun ls hl => ?_)
            refine lv_goto (tgt := 44) hx hb dX9_putWord_118 (by decide) ?_
            have hP := hP.sub (ws' := [(ad_t, .inr (9, [.ref ad_t_repair, .int (tI 1), .int (tI 2), .int (tI 3), .int (tI 4)])), (ad_t_repair, .inr (3, [.ref ad_t_repair_rows, .ref ad_t_repair_columns, .int (t_repairI 2), .int (t_repairI 3), .int (t_repairI 4), .int (t_repairI 5), .ref ad_t_repair_candidates, .ref ad_t_repair_left, .int (t_repairI 8)])), (ad_t_repair_rows, .inl (G.2.1 0, 4, .inl t_repair_rows)), (ad_t_repair_columns, .inl (G.2.1 0, 2, .inl t_repair_columns)), (ad_p0, .inr (0, [.ref ad_p0_spec, .ref ad_p0_words, .ref ad_p0_spares])), (ad_p0_spec, .inr (5, [.ref ad_p0_spec_numbers, .ref ad_p0_spec_badRows, .ref ad_p0_spec_badColumns, .ref ad_p0_spec_badBits, .int (p0_specI 4)])), (ad_p0_spec_numbers, .inl (G.2.1 0, 9, .inl p0_spec_numbers)), (ad_p0_words, .inl (G.2.1 0, 1056, .inl p0_words)), (ad_p0_spares, .inl (G.2.1 0, 33, .inl a28))]) [0, 1, 2, 3, 7, 4, 5, 6, 8] rfl
            have hD := hD.sub (ws' := [(ad_t, .inr (9, [.ref ad_t_repair, .int (tI 1), .int (tI 2), .int (tI 3), .int (tI 4)])), (ad_t_repair, .inr (3, [.ref ad_t_repair_rows, .ref ad_t_repair_columns, .int (t_repairI 2), .int (t_repairI 3), .int (t_repairI 4), .int (t_repairI 5), .ref ad_t_repair_candidates, .ref ad_t_repair_left, .int (t_repairI 8)])), (ad_t_repair_rows, .inl (G.2.1 0, 4, .inl t_repair_rows)), (ad_t_repair_columns, .inl (G.2.1 0, 2, .inl t_repair_columns)), (ad_p0, .inr (0, [.ref ad_p0_spec, .ref ad_p0_words, .ref ad_p0_spares])), (ad_p0_spec, .inr (5, [.ref ad_p0_spec_numbers, .ref ad_p0_spec_badRows, .ref ad_p0_spec_badColumns, .ref ad_p0_spec_badBits, .int (p0_specI 4)])), (ad_p0_spec_numbers, .inl (G.2.1 0, 9, .inl p0_spec_numbers)), (ad_p0_words, .inl (G.2.1 0, 1056, .inl p0_words)), (ad_p0_spares, .inl (G.2.1 0, 33, .inl a28))]) [0, 1, 2, 3, 7, 4, 5, 6, 8] (by decide) rfl
            exact ih (fX0_withBit x22 ((t_repair_columns x23.toNatClampNeg) >>> ((tI 2) &&& 31)) (0 : Int32)) (x23 + (1 : Int32)) a28 H locs ls (lv_sub hl [0, 1, 4, 5, 6, 7, 8] rfl) hP hD hS hf
    exact Ly17 FU (if (p0_spec_numbers 1) < (32 : Int32) then (((1 : Int32) <<< ((p0_spec_numbers 1) &&& 31)) - (1 : Int32)) else (-1 : Int32)) (0 : Int32) p0_spares H locs ls (lv_sub hl [0, 1, 2, 4, 5, 6, 7] rfl) hP hD hS hLy17
  refine lv_icmp_lt (tgt := 33) hx hb dX9_putWord_26 (by decide) (fun c31 => ?_) (fun c31 => ?_)
  · refine lv_iconst (v := 1) hx hb dX9_putWord_33 (by decide) ?_
    refine lv_iload hx hb dX9_putWord_34 (lv_at hl 1 rfl) ?_
    refine lv_ishl hx hb dX9_putWord_36 ?_
    refine lv_iconst (v := 1) hx hb dX9_putWord_37 (by decide) ?_
    refine lv_isub hx hb dX9_putWord_38 ?_
    exact (mgT c31 J30)
  · refine lv_iconst (v := -1) hx hb dX9_putWord_29 (by decide) ?_
    refine lv_goto (tgt := 39) hx hb dX9_putWord_30 (by decide) ?_
    exact (mgF c31 J30)
