def fX4_delayOf (tI : Nat → Int32) (p0 : Int32) (p1 : Int32) : Int32 :=
  ((p0 * p1) + ((10 : Int32) * ((((tI 7) + (tI 8)) + p0) - (2 : Int32))))
set_option maxRecDepth 100000 in
set_option maxHeartbeats 4000000 in
theorem tX4_delayOf (l : Launch) (G : gG) (ad_t ad_t_sizes : Nat) (tI : Nat → Int32) (p0 : Int32) (p1 : Int32) (o : Int32) (hf : fX4_delayOf tI p0 p1 = o) : mP G l yX4_delayOf cX4_delayOf 3 (some .int) 0 0 [.ref ad_t, .int p0, .int p1] [(ad_t, .inr (4, [.ref ad_t_sizes, .int (tI 1), .int (tI 2), .int (tI 3), .int (tI 4), .int (tI 5), .int (tI 6), .int (tI 7), .int (tI 8), .int (tI 9), .int (tI 10), .int (tI 11), .int (tI 12), .int (tI 13), .int (tI 14), .int (tI 15), .int (tI 16), .int (tI 17)]))] (some (.int o)) := by
  refine mP_of (by decide) (Nat.le_of_ble_eq_true rfl) ?_
  intro p e s m below meth cd ls hx hb hml hown hts hr hlocks hl hP hG
  have hK := hG.1
  have hown : s.vm.findClass RX4 = some m.cls := hown
  have hl : lv_has ls 3 [(0, .ref ad_t), (1, .int p0), (2, .int p1)] := hl
  have hS : va_S no s.heap s.heap [] := va_S.rf
  generalize ([] : List Loc) = locs at hS ⊢
  unfold fX4_delayOf at hf
  show wG p l e 0 0 s m [.ref ad_t, .int p0, .int p1] below meth cd s.heap locs (pQ (some (.int o))) no (F0 m 0 ls [])
  refine lv_iload_n hx hb dX4_delayOf_0 rfl (lv_at hl 1 rfl) ?_
  refine lv_iload_n hx hb dX4_delayOf_1 rfl (lv_at hl 2 rfl) ?_
  refine lv_imul hx hb dX4_delayOf_2 ?_
  refine lv_bipush (v := 10) hx hb dX4_delayOf_3 (by decide) ?_
  refine lv_aload_n hx hb dX4_delayOf_5 rfl (lv_at hl 0 rfl) ?_
  refine va_get (D := G.1) (cl := vwCl) (ci := 4) (v := .int (tI 7)) (C := RX4) (T := TX4) (N := 18) hx hb hts inG4 hown hK hP 0 rfl rfl 7 (Nat.le_of_ble_eq_true rfl) (hts _ q355) (fun _ h9 => h9) rfl dX4_delayOf_6 ?_
  refine lv_aload_n hx hb dX4_delayOf_9 rfl (lv_at hl 0 rfl) ?_
  refine va_get (D := G.1) (cl := vwCl) (ci := 4) (v := .int (tI 8)) (C := RX4) (T := TX4) (N := 18) hx hb hts inG4 hown hK hP 0 rfl rfl 8 (Nat.le_of_ble_eq_true rfl) (hts _ q356) (fun _ h9 => h9) rfl dX4_delayOf_10 ?_
  refine lv_iadd hx hb dX4_delayOf_13 ?_
  refine lv_iload_n hx hb dX4_delayOf_14 rfl (lv_at hl 1 rfl) ?_
  refine lv_iadd hx hb dX4_delayOf_15 ?_
  refine lv_iconst (v := 2) hx hb dX4_delayOf_16 (by decide) ?_
  refine lv_isub hx hb dX4_delayOf_17 ?_
  refine lv_imul hx hb dX4_delayOf_18 ?_
  refine lv_iadd hx hb dX4_delayOf_19 ?_
  subst hf
  exact pRet hx hb hr hlocks hS dX4_delayOf_20

def fX4_leastTenths_l33 (x1 : Int32) : Nat → Int64 → Int32 → Option (Int64)
  | 0, _, _ => none
  | n + 1, x2, x4 =>
    (if x1 ≤ x4 then some x2 else fX4_leastTenths_l33 x1 n (x2 * (10 : Int64)) (x4 + (1 : Int32)))
def fX4_leastTenths_l72 (x1 : Int32) (x2 : Int64) (x4 : Int32) (x5 : Int32) : Nat → Int64 → Int32 → Option (Int64)
  | 0, _, _ => none
  | n + 1, x6, x8 =>
    (if x1 ≤ x8 then some x6 else (if 0 ≤ (lg_cmp x6 x2) then some x6 else fX4_leastTenths_l72 x1 x2 x4 x5 n (x6 * ((x4 + x5).toInt64)) (x8 + (1 : Int32))))
def fX4_leastTenths_l59 (x1 : Int32) (x2 : Int64) : Nat → Int32 → Int32 → Option (Int32)
  | 0, _, _ => none
  | n + 1, x4, x5 =>
    (if x5 ≤ 0 then some x4 else bn (fX4_leastTenths_l72 x1 x2 x4 x5 FU (18 : Int64) (0 : Int32)) fun y6 => fX4_leastTenths_l59 x1 x2 n (if 0 ≤ (lg_cmp y6 x2) then x4 else (x4 + x5)) (x5 / (2 : Int32)))
def fX4_leastTenths (tI : Nat → Int32) (p0 : Int32) : Option (Int32) :=
  bn (fX4_leastTenths_l33 p0 FU ((((((tI 7).toInt64) + (2 : Int64)) * (((tI 8) + (2 : Int32)).toInt64)) * ((tI 1).toInt64)) * ((tI 4).toInt64)) (0 : Int32)) fun y2 => bn (fX4_leastTenths_l59 p0 y2 FU (0 : Int32) (2048 : Int32)) fun y9 => some (y9 + (1 : Int32))
set_option maxRecDepth 100000 in
set_option maxHeartbeats 4000000 in
theorem tX4_leastTenths (l : Launch) (G : gG) (ad_t ad_t_sizes : Nat) (tI : Nat → Int32) (p0 : Int32) (o : Int32) (hf : fX4_leastTenths tI p0 = some o) : mP G l yX4_leastTenths cX4_leastTenths 9 (some .int) 0 0 [.ref ad_t, .int p0] [(ad_t, .inr (4, [.ref ad_t_sizes, .int (tI 1), .int (tI 2), .int (tI 3), .int (tI 4), .int (tI 5), .int (tI 6), .int (tI 7), .int (tI 8), .int (tI 9), .int (tI 10), .int (tI 11), .int (tI 12), .int (tI 13), .int (tI 14), .int (tI 15), .int (tI 16), .int (tI 17)]))] (some (.int o)) := by
  refine mP_of (by decide) (Nat.le_of_ble_eq_true rfl) ?_
  intro p e s m below meth cd ls hx hb hml hown hts hr hlocks hl hP hG
  have hK := hG.1
  have hown : s.vm.findClass RX4 = some m.cls := hown
  have hl : lv_has ls 9 [(0, .ref ad_t), (1, .int p0)] := hl
  have hS : va_S no s.heap s.heap [] := va_S.rf
  generalize ([] : List Loc) = locs at hS ⊢
  unfold fX4_leastTenths at hf
  show wG p l e 0 0 s m [.ref ad_t, .int p0] below meth cd s.heap locs (pQ (some (.int o))) no (F0 m 0 ls [])
  refine lv_aload_n hx hb dX4_leastTenths_0 rfl (lv_at hl 0 rfl) ?_
  refine va_get (D := G.1) (cl := vwCl) (ci := 4) (v := .int (tI 7)) (C := RX4) (T := TX4) (N := 18) hx hb hts inG4 hown hK hP 0 rfl rfl 7 (Nat.le_of_ble_eq_true rfl) (hts _ q355) (fun _ h9 => h9) rfl dX4_leastTenths_1 ?_
  refine lv_i2l (v := ((tI 7).toInt64)) hx hb dX4_leastTenths_4 rfl ?_
  refine lv_ldc2 (v := (2 : Int64)) hx hb hown (hts _ q506) dX4_leastTenths_5 ?_
  refine lv_ladd hx hb dX4_leastTenths_8 ?_
  refine lv_aload_n hx hb dX4_leastTenths_9 rfl (lv_at hl 0 rfl) ?_
  refine va_get (D := G.1) (cl := vwCl) (ci := 4) (v := .int (tI 8)) (C := RX4) (T := TX4) (N := 18) hx hb hts inG4 hown hK hP 0 rfl rfl 8 (Nat.le_of_ble_eq_true rfl) (hts _ q356) (fun _ h9 => h9) rfl dX4_leastTenths_10 ?_
  refine lv_iconst (v := 2) hx hb dX4_leastTenths_13 (by decide) ?_
  refine lv_iadd hx hb dX4_leastTenths_14 ?_
  refine lv_i2l (v := (((tI 8) + (2 : Int32)).toInt64)) hx hb dX4_leastTenths_15 rfl ?_
  refine lv_lmul hx hb dX4_leastTenths_16 ?_
  refine lv_aload_n hx hb dX4_leastTenths_17 rfl (lv_at hl 0 rfl) ?_
  refine va_get (D := G.1) (cl := vwCl) (ci := 4) (v := .int (tI 1)) (C := RX4) (T := TX4) (N := 18) hx hb hts inG4 hown hK hP 0 rfl rfl 1 (Nat.le_of_ble_eq_true rfl) (hts _ q347) (fun _ h9 => h9) rfl dX4_leastTenths_18 ?_
  refine lv_i2l (v := ((tI 1).toInt64)) hx hb dX4_leastTenths_21 rfl ?_
  refine lv_lmul hx hb dX4_leastTenths_22 ?_
  refine lv_aload_n hx hb dX4_leastTenths_23 rfl (lv_at hl 0 rfl) ?_
  refine va_get (D := G.1) (cl := vwCl) (ci := 4) (v := .int (tI 4)) (C := RX4) (T := TX4) (N := 18) hx hb hts inG4 hown hK hP 0 rfl rfl 4 (Nat.le_of_ble_eq_true rfl) (hts _ q352) (fun _ h9 => h9) rfl dX4_leastTenths_24 ?_
  refine lv_i2l (v := ((tI 4).toInt64)) hx hb dX4_leastTenths_27 rfl ?_
  refine lv_lmul hx hb dX4_leastTenths_28 ?_
  refine lv_lstore_n (lv' := [(2, .long ((((((tI 7).toInt64) + (2 : Int64)) * (((tI 8) + (2 : Int32)).toInt64)) * ((tI 1).toInt64)) * ((tI 4).toInt64))), (0, .ref ad_t), (1, .int p0)]) hx hb dX4_leastTenths_29 rfl hl (by decide) rfl (fun ls hl => ?_)
  refine lv_iconst (v := 0) hx hb dX4_leastTenths_30 (by decide) ?_
  refine lv_istore (lv' := [(4, .int (0 : Int32)), (2, .long ((((((tI 7).toInt64) + (2 : Int64)) * (((tI 8) + (2 : Int32)).toInt64)) * ((tI 1).toInt64)) * ((tI 4).toInt64))), (0, .ref ad_t), (1, .int p0)]) hx hb dX4_leastTenths_31 hl (by decide) rfl (fun ls hl => ?_)
  obtain ⟨y10, hLy10, hky10⟩ := bn_some hf
  have Ey10 : ∀  (locs : List Loc) (ls : Array Slot), lv_has ls 9 [(2, .long y10), (1, .int p0)] → va_S no s.heap s.heap locs → wG p l e 0 0 s m [.ref ad_t, .int p0] below meth cd s.heap locs (pQ (some (.int o))) no (F0 m 51 ls []) := by
    intro  locs ls hl hS
    have hf := hky10
    refine lv_iconst (v := 0) hx hb dX4_leastTenths_51 (by decide) ?_
    refine lv_istore (lv' := [(4, .int (0 : Int32)), (2, .long y10), (1, .int p0)]) hx hb dX4_leastTenths_52 hl (by decide) rfl (fun ls hl => ?_)
    refine lv_sipush (v := 2048) hx hb dX4_leastTenths_54 (by decide) ?_
    refine lv_istore (lv' := [(5, .int (2048 : Int32)), (4, .int (0 : Int32)), (2, .long y10), (1, .int p0)]) hx hb dX4_leastTenths_57 hl (by decide) rfl (fun ls hl => ?_)
    obtain ⟨y11, hLy11, hky11⟩ := bn_some hf
    have Ey11 : ∀  (locs : List Loc) (ls : Array Slot), lv_has ls 9 [(4, .int y11)] → va_S no s.heap s.heap locs → wG p l e 0 0 s m [.ref ad_t, .int p0] below meth cd s.heap locs (pQ (some (.int o))) no (F0 m 130 ls []) := by
      intro  locs ls hl hS
      have hf := hky11
      refine lv_iload hx hb dX4_leastTenths_130 (lv_at hl 0 rfl) ?_
      refine lv_iconst (v := 1) hx hb dX4_leastTenths_132 (by decide) ?_
      refine lv_iadd hx hb dX4_leastTenths_133 ?_
      have hf := Option.some.inj hf
      subst hf
      exact pRet hx hb hr hlocks hS dX4_leastTenths_134
    have Ly11 : ∀ (n : Nat), ∀ (x12 : Int32) (x13 : Int32) (locs : List Loc) (ls : Array Slot), lv_has ls 9 [(5, .int x13), (4, .int x12), (2, .long y10), (1, .int p0)] → va_S no s.heap s.heap locs → fX4_leastTenths_l59 p0 y10 n x12 x13 = some y11 → wG p l e 0 0 s m [.ref ad_t, .int p0] below meth cd s.heap locs (pQ (some (.int o))) no (F0 m 59 ls []) := by
      intro n
      induction n with
      | zero =>
        intro x12 x13 locs ls hl hS hf
        rw [fX4_leastTenths_l59] at hf
        cases hf
      | succ n ih =>
        intro x12 x13 locs ls hl hS hf
        rw [fX4_leastTenths_l59] at hf
        refine lv_iload hx hb dX4_leastTenths_59 (lv_at hl 0 rfl) ?_
        refine lv_if_le (tgt := 130) hx hb dX4_leastTenths_61 (by decide) (fun c14 => ?_) (fun c14 => ?_)
        · have hf := if_t hf c14
          have hf := Option.some.inj hf
          subst hf
          exact Ey11  locs ls (lv_sub hl [1] rfl) hS 
        · have hf := if_f hf c14
          refine lv_ldc2 (v := (18 : Int64)) hx hb hown (hts _ q508) dX4_leastTenths_64 ?_
          refine lv_lstore (lv' := [(6, .long (18 : Int64)), (5, .int x13), (4, .int x12), (2, .long y10), (1, .int p0)]) hx hb dX4_leastTenths_67 hl (by decide) rfl (fun ls hl => ?_)
          refine lv_iconst (v := 0) hx hb dX4_leastTenths_69 (by decide) ?_
          refine lv_istore (lv' := [(8, .int (0 : Int32)), (6, .long (18 : Int64)), (5, .int x13), (4, .int x12), (2, .long y10), (1, .int p0)]) hx hb dX4_leastTenths_70 hl (by decide) rfl (fun ls hl => ?_)
          obtain ⟨y15, hLy15, hky15⟩ := bn_some hf
          have Ey15 : ∀  (locs : List Loc) (ls : Array Slot), lv_has ls 9 [(6, .long y15), (5, .int x13), (4, .int x12), (2, .long y10), (1, .int p0)] → va_S no s.heap s.heap locs → wG p l e 0 0 s m [.ref ad_t, .int p0] below meth cd s.heap locs (pQ (some (.int o))) no (F0 m 102 ls []) := by
            intro  locs ls hl hS
            have hf := hky15
            refine lv_lload hx hb dX4_leastTenths_102 (lv_at hl 0 rfl) ?_
            refine lv_lload_n hx hb dX4_leastTenths_104 rfl (lv_at hl 3 rfl) ?_
            refine W.lcmp hx hb dX4_leastTenths_105 ?_
            have J16 : wG p l e 0 0 s m [.ref ad_t, .int p0] below meth cd s.heap locs (pQ (some (.int o))) no (F0 m 119 ls [.int (if 0 ≤ (lg_cmp y15 y10) then x12 else (x12 + x13))]) := by
              refine lv_istore (lv' := [(4, .int (if 0 ≤ (lg_cmp y15 y10) then x12 else (x12 + x13))), (6, .long y15), (5, .int x13), (2, .long y10), (1, .int p0)]) hx hb dX4_leastTenths_119 hl (by decide) rfl (fun ls hl => ?_)
              refine lv_iload hx hb dX4_leastTenths_121 (lv_at hl 2 rfl) ?_
              refine lv_iconst (v := 2) hx hb dX4_leastTenths_123 (by decide) ?_
              refine lv_idiv hx hb dX4_leastTenths_124 (by decide) ?_
              refine lv_istore (lv' := [(5, .int (x13 / (2 : Int32))), (4, .int (if 0 ≤ (lg_cmp y15 y10) then x12 else (x12 + x13))), (6, .long y15), (2, .long y10), (1, .int p0)]) hx hb dX4_leastTenths_125 hl (by decide) rfl (fun ls hl => ?_)
              refine lv_goto (tgt := 59) hx hb dX4_leastTenths_127 (by decide) ?_
              exact ih (if 0 ≤ (lg_cmp y15 y10) then x12 else (x12 + x13)) (x13 / (2 : Int32)) locs ls (lv_sub hl [0, 1, 3, 4] rfl) hS hf
            refine lv_if_ge (tgt := 117) hx hb dX4_leastTenths_106 (by decide) (fun c17 => ?_) (fun c17 => ?_)
            · refine lv_iload hx hb dX4_leastTenths_117 (lv_at hl 2 rfl) ?_
              exact (mgT c17 J16)
            · refine lv_iload hx hb dX4_leastTenths_109 (lv_at hl 2 rfl) ?_
              refine lv_iload hx hb dX4_leastTenths_111 (lv_at hl 1 rfl) ?_
              refine lv_iadd hx hb dX4_leastTenths_113 ?_
              refine lv_goto (tgt := 119) hx hb dX4_leastTenths_114 (by decide) ?_
              exact (mgF c17 J16)
          have Ly15 : ∀ (n : Nat), ∀ (x18 : Int64) (x19 : Int32) (locs : List Loc) (ls : Array Slot), lv_has ls 9 [(8, .int x19), (6, .long x18), (5, .int x13), (4, .int x12), (2, .long y10), (1, .int p0)] → va_S no s.heap s.heap locs → fX4_leastTenths_l72 p0 y10 x12 x13 n x18 x19 = some y15 → wG p l e 0 0 s m [.ref ad_t, .int p0] below meth cd s.heap locs (pQ (some (.int o))) no (F0 m 72 ls []) := by
            intro n
            induction n with
            | zero =>
              intro x18 x19 locs ls hl hS hf
              rw [fX4_leastTenths_l72] at hf
              cases hf
            | succ n ih =>
              intro x18 x19 locs ls hl hS hf
              rw [fX4_leastTenths_l72] at hf
              refine lv_iload hx hb dX4_leastTenths_72 (lv_at hl 0 rfl) ?_
              refine lv_iload_n hx hb dX4_leastTenths_74 rfl (lv_at hl 5 rfl) ?_
              refine lv_icmp_ge (tgt := 102) hx hb dX4_leastTenths_75 (by decide) (fun c20 => ?_) (fun c20 => ?_)
              · have hf := if_t hf c20
                have hf := Option.some.inj hf
                subst hf
                exact Ey15  locs ls (lv_sub hl [1, 2, 3, 4, 5] rfl) hS 
              · have hf := if_f hf c20
                refine lv_lload hx hb dX4_leastTenths_78 (lv_at hl 1 rfl) ?_
                refine lv_lload_n hx hb dX4_leastTenths_80 rfl (lv_at hl 4 rfl) ?_
                refine W.lcmp hx hb dX4_leastTenths_81 ?_
                refine lv_if_ge (tgt := 102) hx hb dX4_leastTenths_82 (by decide) (fun c21 => ?_) (fun c21 => ?_)
                · have hf := if_t hf c21
                  have hf := Option.some.inj hf
                  subst hf
                  exact Ey15  locs ls (lv_sub hl [1, 2, 3, 4, 5] rfl) hS 
                · have hf := if_f hf c21
                  refine lv_lload hx hb dX4_leastTenths_85 (lv_at hl 1 rfl) ?_
                  refine lv_iload hx hb dX4_leastTenths_87 (lv_at hl 3 rfl) ?_
                  refine lv_iload hx hb dX4_leastTenths_89 (lv_at hl 2 rfl) ?_
                  refine lv_iadd hx hb dX4_leastTenths_91 ?_
                  refine lv_i2l (v := ((x12 + x13).toInt64)) hx hb dX4_leastTenths_92 rfl ?_
                  refine lv_lmul hx hb dX4_leastTenths_93 ?_
                  refine lv_lstore (lv' := [(6, .long (x18 * ((x12 + x13).toInt64))), (8, .int x19), (5, .int x13), (4, .int x12), (2, .long y10), (1, .int p0)]) hx hb dX4_leastTenths_94 hl (by decide) rfl (fun ls hl => ?_)
                  refine lv_iinc (v := (x19 + (1 : Int32))) (lv' := [(8, .int (x19 + (1 : Int32))), (6, .long (x18 * ((x12 + x13).toInt64))), (5, .int x13), (4, .int x12), (2, .long y10), (1, .int p0)]) hx hb dX4_leastTenths_96 hl (k := 1) rfl (ii_1 _) (by decide) rfl (fun ls hl => ?_)
                  refine lv_goto (tgt := 72) hx hb dX4_leastTenths_99 (by decide) ?_
                  exact ih (x18 * ((x12 + x13).toInt64)) (x19 + (1 : Int32)) locs ls (lv_sub hl [0, 1, 2, 3, 4, 5] rfl) hS hf
          exact Ly15 FU (18 : Int64) (0 : Int32) locs ls (lv_sub hl [0, 1, 2, 3, 4, 5] rfl) hS hLy15
    exact Ly11 FU (0 : Int32) (2048 : Int32) locs ls (lv_sub hl [0, 1, 2, 3] rfl) hS hLy11
  have Ly10 : ∀ (n : Nat), ∀ (x22 : Int64) (x23 : Int32) (locs : List Loc) (ls : Array Slot), lv_has ls 9 [(4, .int x23), (2, .long x22), (1, .int p0)] → va_S no s.heap s.heap locs → fX4_leastTenths_l33 p0 n x22 x23 = some y10 → wG p l e 0 0 s m [.ref ad_t, .int p0] below meth cd s.heap locs (pQ (some (.int o))) no (F0 m 33 ls []) := by
    intro n
    induction n with
    | zero =>
      intro x22 x23 locs ls hl hS hf
      rw [fX4_leastTenths_l33] at hf
      cases hf
    | succ n ih =>
      intro x22 x23 locs ls hl hS hf
      rw [fX4_leastTenths_l33] at hf
      refine lv_iload hx hb dX4_leastTenths_33 (lv_at hl 0 rfl) ?_
      refine lv_iload_n hx hb dX4_leastTenths_35 rfl (lv_at hl 2 rfl) ?_
      refine lv_icmp_ge (tgt := 51) hx hb dX4_leastTenths_36 (by decide) (fun c24 => ?_) (fun c24 => ?_)
      · have hf := if_t hf c24
        have hf := Option.some.inj hf
        subst hf
        exact Ey10  locs ls (lv_sub hl [1, 2] rfl) hS 
      · have hf := if_f hf c24
        refine lv_lload_n hx hb dX4_leastTenths_39 rfl (lv_at hl 1 rfl) ?_
        refine lv_ldc2 (v := (10 : Int64)) hx hb hown (hts _ q507) dX4_leastTenths_40 ?_
        refine lv_lmul hx hb dX4_leastTenths_43 ?_
        refine lv_lstore_n (lv' := [(2, .long (x22 * (10 : Int64))), (4, .int x23), (1, .int p0)]) hx hb dX4_leastTenths_44 rfl hl (by decide) rfl (fun ls hl => ?_)
        refine lv_iinc (v := (x23 + (1 : Int32))) (lv' := [(4, .int (x23 + (1 : Int32))), (2, .long (x22 * (10 : Int64))), (1, .int p0)]) hx hb dX4_leastTenths_45 hl (k := 1) rfl (ii_1 _) (by decide) rfl (fun ls hl => ?_)
        refine lv_goto (tgt := 33) hx hb dX4_leastTenths_48 (by decide) ?_
        exact ih (x22 * (10 : Int64)) (x23 + (1 : Int32)) locs ls (lv_sub hl [0, 1, 2] rfl) hS hf
  exact Ly10 FU ((((((tI 7).toInt64) + (2 : Int64)) * (((tI 8) + (2 : Int32)).toInt64)) * ((tI 1).toInt64)) * ((tI 4).toInt64)) (0 : Int32) locs ls (lv_sub hl [0, 1, 3] rfl) hS hLy10

def fX4_sizeStages_l12 (tI : Nat → Int32) : Nat → Int32 → Int32 → (Nat → Int32) → Option ((Nat → Int32))
  | 0, _, _, _ => none
  | n + 1, x1, x2, t_sizes =>
    (if x2 < 0 then some t_sizes else (if x2 = ((tI 9) - (1 : Int32)) then bn (fX10_upward ((x1 * ((tI 8) + (2 : Int32))) * (10 : Int32)) ((3 : Int32) * (tI 10))) fun a14 => gd (gi x2 8) (gd (gi x2 8) (fX4_sizeStages_l12 tI n ((upd t_sizes x2.toNatClampNeg a14) x2.toNatClampNeg) (x2 + (-1 : Int32)) (upd t_sizes x2.toNatClampNeg a14))) else (if x2 = 0 then bn (fX10_upward (x1 * (tI 1)) ((1 : Int32) <<< ((tI 7) &&& 31))) fun a8 => bn (fX10_upward ((a8 * ((tI 7) + (2 : Int32))) * (10 : Int32)) ((3 : Int32) * (tI 10))) fun a10 => gd (gi x2 8) (gd (gi x2 8) (fX4_sizeStages_l12 tI n ((upd t_sizes x2.toNatClampNeg a10) x2.toNatClampNeg) (x2 + (-1 : Int32)) (upd t_sizes x2.toNatClampNeg a10))) else bn (fX10_upward ((x1 * ((1 : Int32) + (2 : Int32))) * (10 : Int32)) ((3 : Int32) * (tI 10))) fun a4 => gd (gi x2 8) (gd (gi x2 8) (fX4_sizeStages_l12 tI n ((upd t_sizes x2.toNatClampNeg a4) x2.toNatClampNeg) (x2 + (-1 : Int32)) (upd t_sizes x2.toNatClampNeg a4))))))
def fX4_sizeStages (tI : Nat → Int32) (t_sizes : Nat → Int32) : Option ((Nat → Int32)) :=
  bn (fX4_sizeStages_l12 tI FU (tI 4) ((tI 9) - (1 : Int32)) t_sizes) fun y18 => some y18
set_option maxRecDepth 100000 in
set_option maxHeartbeats 4000000 in
theorem tX4_sizeStages (l : Launch) (G : gG) (ad_t ad_t_sizes : Nat) (tI : Nat → Int32) (t_sizes : Nat → Int32) (o : (Nat → Int32)) (hf : fX4_sizeStages tI t_sizes = some o) : mE G l yX4_sizeStages cX4_sizeStages 4 none 1 21 0 0 [.ref ad_t] [(ad_t, .inr (4, [.ref ad_t_sizes, .int (tI 1), .int (tI 2), .int (tI 3), .int (tI 4), .int (tI 5), .int (tI 6), .int (tI 7), .int (tI 8), .int (tI 9), .int (tI 10), .int (tI 11), .int (tI 12), .int (tI 13), .int (tI 14), .int (tI 15), .int (tI 16), .int (tI 17)])), (ad_t_sizes, .inl (G.2.1 0, 8, .inl t_sizes))] (fun r w => r = none ∧ w = [(ad_t, .inr (4, [.ref ad_t_sizes, .int (tI 1), .int (tI 2), .int (tI 3), .int (tI 4), .int (tI 5), .int (tI 6), .int (tI 7), .int (tI 8), .int (tI 9), .int (tI 10), .int (tI 11), .int (tI 12), .int (tI 13), .int (tI 14), .int (tI 15), .int (tI 16), .int (tI 17)])), (ad_t_sizes, .inl (G.2.1 0, 8, .inl o))]) := by
  refine mE_of (by decide) (Nat.le_of_ble_eq_true rfl) ?_
  intro p e s m below meth cd ls A hx hb hml hown hts hr hlocks hnm hl hA hP hD hS hG
  have hK := hG.1
  have hown : s.vm.findClass RX4 = some m.cls := hown
  have hl : lv_has ls 4 [(0, .ref ad_t)] := hl
  have hS := hS
  unfold fX4_sizeStages at hf
  obtain ⟨H, locs, eH, eL⟩ : ∃ (H : Heap) (locs : List Loc), H = s.heap ∧ locs = [] := ⟨_, _, rfl, rfl⟩
  have hP : va_P G.1 vwCl [(ad_t, .inr (4, [.ref ad_t_sizes, .int (tI 1), .int (tI 2), .int (tI 3), .int (tI 4), .int (tI 5), .int (tI 6), .int (tI 7), .int (tI 8), .int (tI 9), .int (tI 10), .int (tI 11), .int (tI 12), .int (tI 13), .int (tI 14), .int (tI 15), .int (tI 16), .int (tI 17)])), (ad_t_sizes, .inl (G.2.1 0, 8, .inl t_sizes))] H := eH ▸ hP
  have hS : va_S A s.heap H locs := by rw [eH, eL]; exact hS
  suffices hgo : wG p l e 1 21 s m [.ref ad_t] below meth cd H locs (eQ G A (fun r w => r = none ∧ w = [(ad_t, .inr (4, [.ref ad_t_sizes, .int (tI 1), .int (tI 2), .int (tI 3), .int (tI 4), .int (tI 5), .int (tI 6), .int (tI 7), .int (tI 8), .int (tI 9), .int (tI 10), .int (tI 11), .int (tI 12), .int (tI 13), .int (tI 14), .int (tI 15), .int (tI 16), .int (tI 17)])), (ad_t_sizes, .inl (G.2.1 0, 8, .inl o))])) A (F0 m 0 ls []) by rw [eH, eL] at hgo; exact hgo
  clear eH eL
  refine lv_aload_n hx hb dX4_sizeStages_0 rfl (lv_at hl 0 rfl) ?_
  refine va_get (D := G.1) (cl := vwCl) (ci := 4) (v := .int (tI 4)) (C := RX4) (T := TX4) (N := 18) hx hb hts inG4 hown hK hP 0 rfl rfl 4 (Nat.le_of_ble_eq_true rfl) (hts _ q352) (fun _ h9 => h9) rfl dX4_sizeStages_1 ?_
  refine lv_istore_n (lv' := [(1, .int (tI 4)), (0, .ref ad_t)]) hx hb dX4_sizeStages_4 rfl hl (by decide) rfl (fun ls hl => ?_)
  refine lv_aload_n hx hb dX4_sizeStages_5 rfl (lv_at hl 1 rfl) ?_
  refine va_get (D := G.1) (cl := vwCl) (ci := 4) (v := .int (tI 9)) (C := RX4) (T := TX4) (N := 18) hx hb hts inG4 hown hK hP 0 rfl rfl 9 (Nat.le_of_ble_eq_true rfl) (hts _ q357) (fun _ h9 => h9) rfl dX4_sizeStages_6 ?_
  refine lv_iconst (v := 1) hx hb dX4_sizeStages_9 (by decide) ?_
  refine lv_isub hx hb dX4_sizeStages_10 ?_
  refine lv_istore_n (lv' := [(2, .int ((tI 9) - (1 : Int32))), (1, .int (tI 4)), (0, .ref ad_t)]) hx hb dX4_sizeStages_11 rfl hl (by decide) rfl (fun ls hl => ?_)
  obtain ⟨y19, hLy19, hky19⟩ := bn_some hf
  have Ey19 : ∀  (H : Heap) (locs : List Loc) (ls : Array Slot), lv_has ls 4 [] → va_P G.1 vwCl [(ad_t, .inr (4, [.ref ad_t_sizes, .int (tI 1), .int (tI 2), .int (tI 3), .int (tI 4), .int (tI 5), .int (tI 6), .int (tI 7), .int (tI 8), .int (tI 9), .int (tI 10), .int (tI 11), .int (tI 12), .int (tI 13), .int (tI 14), .int (tI 15), .int (tI 16), .int (tI 17)])), (ad_t_sizes, .inl (G.2.1 0, 8, .inl y19))] H → va_D A [(ad_t, .inr (4, [.ref ad_t_sizes, .int (tI 1), .int (tI 2), .int (tI 3), .int (tI 4), .int (tI 5), .int (tI 6), .int (tI 7), .int (tI 8), .int (tI 9), .int (tI 10), .int (tI 11), .int (tI 12), .int (tI 13), .int (tI 14), .int (tI 15), .int (tI 16), .int (tI 17)])), (ad_t_sizes, .inl (G.2.1 0, 8, .inl y19))] → va_S A s.heap H locs → wG p l e 1 21 s m [.ref ad_t] below meth cd H locs (eQ G A (fun r w => r = none ∧ w = [(ad_t, .inr (4, [.ref ad_t_sizes, .int (tI 1), .int (tI 2), .int (tI 3), .int (tI 4), .int (tI 5), .int (tI 6), .int (tI 7), .int (tI 8), .int (tI 9), .int (tI 10), .int (tI 11), .int (tI 12), .int (tI 13), .int (tI 14), .int (tI 15), .int (tI 16), .int (tI 17)])), (ad_t_sizes, .inl (G.2.1 0, 8, .inl o))])) A (F0 m 97 ls []) := by
    intro  H locs ls hl hP hD hS
    have hf := hky19
    have hf := Option.some.inj hf
    subst hf
    exact eRetV hx hb hr hlocks hP hD hS ⟨rfl, rfl⟩ dX4_sizeStages_97
  have Ly19 : ∀ (n : Nat), ∀ (x20 : Int32) (x21 : Int32) (g22 : Nat → Int32) (H : Heap) (locs : List Loc) (ls : Array Slot), lv_has ls 4 [(2, .int x21), (1, .int x20), (0, .ref ad_t)] → va_P G.1 vwCl [(ad_t, .inr (4, [.ref ad_t_sizes, .int (tI 1), .int (tI 2), .int (tI 3), .int (tI 4), .int (tI 5), .int (tI 6), .int (tI 7), .int (tI 8), .int (tI 9), .int (tI 10), .int (tI 11), .int (tI 12), .int (tI 13), .int (tI 14), .int (tI 15), .int (tI 16), .int (tI 17)])), (ad_t_sizes, .inl (G.2.1 0, 8, .inl g22))] H → va_D A [(ad_t, .inr (4, [.ref ad_t_sizes, .int (tI 1), .int (tI 2), .int (tI 3), .int (tI 4), .int (tI 5), .int (tI 6), .int (tI 7), .int (tI 8), .int (tI 9), .int (tI 10), .int (tI 11), .int (tI 12), .int (tI 13), .int (tI 14), .int (tI 15), .int (tI 16), .int (tI 17)])), (ad_t_sizes, .inl (G.2.1 0, 8, .inl g22))] → va_S A s.heap H locs → fX4_sizeStages_l12 tI n x20 x21 g22 = some y19 → wG p l e 1 21 s m [.ref ad_t] below meth cd H locs (eQ G A (fun r w => r = none ∧ w = [(ad_t, .inr (4, [.ref ad_t_sizes, .int (tI 1), .int (tI 2), .int (tI 3), .int (tI 4), .int (tI 5), .int (tI 6), .int (tI 7), .int (tI 8), .int (tI 9), .int (tI 10), .int (tI 11), .int (tI 12), .int (tI 13), .int (tI 14), .int (tI 15), .int (tI 16), .int (tI 17)])), (ad_t_sizes, .inl (G.2.1 0, 8, .inl o))])) A (F0 m 12 ls []) := by
    intro n
    induction n with
    | zero =>
      intro x20 x21 g22 H locs ls hl hP hD hS hf
      rw [fX4_sizeStages_l12] at hf
      cases hf
    | succ n ih =>
      intro x20 x21 g22 H locs ls hl hP hD hS hf
      rw [fX4_sizeStages_l12] at hf
      refine lv_iload_n hx hb dX4_sizeStages_12 rfl (lv_at hl 0 rfl) ?_
      refine lv_if_lt (tgt := 97) hx hb dX4_sizeStages_13 (by decide) (fun c23 => ?_) (fun c23 => ?_)
      · have hf := if_t hf c23
        have hf := Option.some.inj hf
        subst hf
        exact Ey19  H locs ls (lv_sub hl [] rfl) hP hD hS 
      · have hf := if_f hf c23
        refine lv_iconst (v := 1) hx hb dX4_sizeStages_16 (by decide) ?_
        refine lv_istore_n (lv' := [(3, .int (1 : Int32)), (2, .int x21), (1, .int x20), (0, .ref ad_t)]) hx hb dX4_sizeStages_17 rfl hl (by decide) rfl (fun ls hl => ?_)
        refine lv_iload_n hx hb dX4_sizeStages_18 rfl (lv_at hl 1 rfl) ?_
        refine lv_aload_n hx hb dX4_sizeStages_19 rfl (lv_at hl 3 rfl) ?_
        refine va_get (D := G.1) (cl := vwCl) (ci := 4) (v := .int (tI 9)) (C := RX4) (T := TX4) (N := 18) hx hb hts inG4 hown hK hP 0 rfl rfl 9 (Nat.le_of_ble_eq_true rfl) (hts _ q357) (fun _ h9 => h9) rfl dX4_sizeStages_20 ?_
        refine lv_iconst (v := 1) hx hb dX4_sizeStages_23 (by decide) ?_
        refine lv_isub hx hb dX4_sizeStages_24 ?_
        refine lv_icmp_ne (tgt := 36) hx hb dX4_sizeStages_25 (by decide) (fun c24 => ?_) (fun c24 => ?_)
        · have hf := if_f hf c24
          refine lv_iload_n hx hb dX4_sizeStages_36 rfl (lv_at hl 1 rfl) ?_
          refine lv_if_ne (tgt := 61) hx hb dX4_sizeStages_37 (by decide) (fun c25 => ?_) (fun c25 => ?_)
          · have hf := if_f hf c25
            refine lv_aload_n hx hb dX4_sizeStages_61 rfl (lv_at hl 3 rfl) ?_
            refine va_get (D := G.1) (cl := vwCl) (ci := 4) (v := .ref ad_t_sizes) (C := RX4) (T := TX4) (N := 18) hx hb hts inG4 hown hK hP 0 rfl rfl 0 (Nat.le_of_ble_eq_true rfl) (hts _ q345) (fun _ h9 => h9) rfl dX4_sizeStages_62 ?_
            refine lv_iload_n hx hb dX4_sizeStages_65 rfl (lv_at hl 1 rfl) ?_
            refine lv_iload_n hx hb dX4_sizeStages_66 rfl (lv_at hl 2 rfl) ?_
            refine lv_iload_n hx hb dX4_sizeStages_67 rfl (lv_at hl 0 rfl) ?_
            refine lv_iconst (v := 2) hx hb dX4_sizeStages_68 (by decide) ?_
            refine lv_iadd hx hb dX4_sizeStages_69 ?_
            refine lv_imul hx hb dX4_sizeStages_70 ?_
            refine lv_bipush (v := 10) hx hb dX4_sizeStages_71 (by decide) ?_
            refine lv_imul hx hb dX4_sizeStages_73 ?_
            refine lv_iconst (v := 3) hx hb dX4_sizeStages_74 (by decide) ?_
            refine lv_aload_n hx hb dX4_sizeStages_75 rfl (lv_at hl 3 rfl) ?_
            refine va_get (D := G.1) (cl := vwCl) (ci := 4) (v := .int (tI 10)) (C := RX4) (T := TX4) (N := 18) hx hb hts inG4 hown hK hP 0 rfl rfl 10 (Nat.le_of_ble_eq_true rfl) (hts _ q359) (fun _ h9 => h9) rfl dX4_sizeStages_76 ?_
            refine lv_imul hx hb dX4_sizeStages_79 ?_
            obtain ⟨a26, h27, hf⟩ := bn_some hf
            refine kPSN (tX10_upward l G ((x20 * ((1 : Int32) + (2 : Int32))) * (10 : Int32)) ((3 : Int32) * (tI 10)) a26 h27) ⟨hx, hb, hml, hown, hts⟩ n_mn_X4_75 q500 q94 q501 okyX10_upward ⟨Nat.le_of_ble_eq_true rfl, Nat.le_of_ble_eq_true rfl⟩ hP hG hS [] rfl hl.1 rfl (Nat.le_of_ble_eq_true rfl) dX4_sizeStages_80 ⟨Nat.zero_le _, Nat.zero_le _⟩ (fun locs hS => ?_)
            refine W.eq (g2 := F0 m 83 ls [.int a26, .int x21, .ref ad_t_sizes]) rfl ?_
            obtain ⟨h28, hf⟩ := gd_some hf
            refine va_iast (D := G.1) (cl := vwCl) hx hb hK hP hD hS 1 0 rfl rfl (gi_in h28) dX4_sizeStages_83 (fun H locs hP hD hS => ?_)
            have hP : va_P G.1 vwCl [(ad_t, .inr (4, [.ref ad_t_sizes, .int (tI 1), .int (tI 2), .int (tI 3), .int (tI 4), .int (tI 5), .int (tI 6), .int (tI 7), .int (tI 8), .int (tI 9), .int (tI 10), .int (tI 11), .int (tI 12), .int (tI 13), .int (tI 14), .int (tI 15), .int (tI 16), .int (tI 17)])), (ad_t_sizes, .inl (G.2.1 0, 8, .inl (upd g22 x21.toNatClampNeg a26)))] H := hP
            have hD : va_D A [(ad_t, .inr (4, [.ref ad_t_sizes, .int (tI 1), .int (tI 2), .int (tI 3), .int (tI 4), .int (tI 5), .int (tI 6), .int (tI 7), .int (tI 8), .int (tI 9), .int (tI 10), .int (tI 11), .int (tI 12), .int (tI 13), .int (tI 14), .int (tI 15), .int (tI 16), .int (tI 17)])), (ad_t_sizes, .inl (G.2.1 0, 8, .inl (upd g22 x21.toNatClampNeg a26)))] := hD
            refine lv_aload_n hx hb dX4_sizeStages_84 rfl (lv_at hl 3 rfl) ?_
            refine va_get (D := G.1) (cl := vwCl) (ci := 4) (v := .ref ad_t_sizes) (C := RX4) (T := TX4) (N := 18) hx hb hts inG4 hown hK hP 0 rfl rfl 0 (Nat.le_of_ble_eq_true rfl) (hts _ q345) (fun _ h9 => h9) rfl dX4_sizeStages_85 ?_
            refine lv_iload_n hx hb dX4_sizeStages_88 rfl (lv_at hl 1 rfl) ?_
            obtain ⟨h29, hf⟩ := gd_some hf
            refine va_iald (D := G.1) (cl := vwCl) hx hb hK hP 1 0 rfl rfl (gi_in h29) dX4_sizeStages_89 ?_
            refine lv_istore_n (lv' := [(1, .int ((upd g22 x21.toNatClampNeg a26) x21.toNatClampNeg)), (3, .int (1 : Int32)), (2, .int x21), (0, .ref ad_t)]) hx hb dX4_sizeStages_90 rfl hl (by decide) rfl (fun ls hl => ?_)
            refine lv_iinc (v := (x21 + (-1 : Int32))) (lv' := [(2, .int (x21 + (-1 : Int32))), (1, .int ((upd g22 x21.toNatClampNeg a26) x21.toNatClampNeg)), (3, .int (1 : Int32)), (0, .ref ad_t)]) hx hb dX4_sizeStages_91 hl (k := 2) rfl (ii_m1 _) (by decide) rfl (fun ls hl => ?_)
            refine lv_goto (tgt := 12) hx hb dX4_sizeStages_94 (by decide) ?_
            exact ih ((upd g22 x21.toNatClampNeg a26) x21.toNatClampNeg) (x21 + (-1 : Int32)) (upd g22 x21.toNatClampNeg a26) H locs ls (lv_sub hl [0, 1, 3] rfl) hP hD hS hf
          · have hf := if_t hf c25
            refine lv_aload_n hx hb dX4_sizeStages_40 rfl (lv_at hl 3 rfl) ?_
            refine va_get (D := G.1) (cl := vwCl) (ci := 4) (v := .int (tI 7)) (C := RX4) (T := TX4) (N := 18) hx hb hts inG4 hown hK hP 0 rfl rfl 7 (Nat.le_of_ble_eq_true rfl) (hts _ q355) (fun _ h9 => h9) rfl dX4_sizeStages_41 ?_
            refine lv_istore_n (lv' := [(3, .int (tI 7)), (2, .int x21), (1, .int x20), (0, .ref ad_t)]) hx hb dX4_sizeStages_44 rfl hl (by decide) rfl (fun ls hl => ?_)
            refine lv_iload_n hx hb dX4_sizeStages_45 rfl (lv_at hl 2 rfl) ?_
            refine lv_aload_n hx hb dX4_sizeStages_46 rfl (lv_at hl 3 rfl) ?_
            refine va_get (D := G.1) (cl := vwCl) (ci := 4) (v := .int (tI 1)) (C := RX4) (T := TX4) (N := 18) hx hb hts inG4 hown hK hP 0 rfl rfl 1 (Nat.le_of_ble_eq_true rfl) (hts _ q347) (fun _ h9 => h9) rfl dX4_sizeStages_47 ?_
            refine lv_imul hx hb dX4_sizeStages_50 ?_
            refine lv_iconst (v := 1) hx hb dX4_sizeStages_51 (by decide) ?_
            refine lv_aload_n hx hb dX4_sizeStages_52 rfl (lv_at hl 3 rfl) ?_
            refine va_get (D := G.1) (cl := vwCl) (ci := 4) (v := .int (tI 7)) (C := RX4) (T := TX4) (N := 18) hx hb hts inG4 hown hK hP 0 rfl rfl 7 (Nat.le_of_ble_eq_true rfl) (hts _ q355) (fun _ h9 => h9) rfl dX4_sizeStages_53 ?_
            refine lv_ishl hx hb dX4_sizeStages_56 ?_
            obtain ⟨a30, h31, hf⟩ := bn_some hf
            refine kPSN (tX10_upward l G (x20 * (tI 1)) ((1 : Int32) <<< ((tI 7) &&& 31)) a30 h31) ⟨hx, hb, hml, hown, hts⟩ n_mn_X4_75 q500 q94 q501 okyX10_upward ⟨Nat.le_of_ble_eq_true rfl, Nat.le_of_ble_eq_true rfl⟩ hP hG hS [] rfl hl.1 rfl (Nat.le_of_ble_eq_true rfl) dX4_sizeStages_57 ⟨Nat.zero_le _, Nat.zero_le _⟩ (fun locs hS => ?_)
            refine W.eq (g2 := F0 m 60 ls [.int a30]) rfl ?_
            refine lv_istore_n (lv' := [(1, .int a30), (3, .int (tI 7)), (2, .int x21), (0, .ref ad_t)]) hx hb dX4_sizeStages_60 rfl hl (by decide) rfl (fun ls hl => ?_)
            refine lv_aload_n hx hb dX4_sizeStages_61 rfl (lv_at hl 3 rfl) ?_
            refine va_get (D := G.1) (cl := vwCl) (ci := 4) (v := .ref ad_t_sizes) (C := RX4) (T := TX4) (N := 18) hx hb hts inG4 hown hK hP 0 rfl rfl 0 (Nat.le_of_ble_eq_true rfl) (hts _ q345) (fun _ h9 => h9) rfl dX4_sizeStages_62 ?_
            refine lv_iload_n hx hb dX4_sizeStages_65 rfl (lv_at hl 2 rfl) ?_
            refine lv_iload_n hx hb dX4_sizeStages_66 rfl (lv_at hl 0 rfl) ?_
            refine lv_iload_n hx hb dX4_sizeStages_67 rfl (lv_at hl 1 rfl) ?_
            refine lv_iconst (v := 2) hx hb dX4_sizeStages_68 (by decide) ?_
            refine lv_iadd hx hb dX4_sizeStages_69 ?_
            refine lv_imul hx hb dX4_sizeStages_70 ?_
            refine lv_bipush (v := 10) hx hb dX4_sizeStages_71 (by decide) ?_
            refine lv_imul hx hb dX4_sizeStages_73 ?_
            refine lv_iconst (v := 3) hx hb dX4_sizeStages_74 (by decide) ?_
            refine lv_aload_n hx hb dX4_sizeStages_75 rfl (lv_at hl 3 rfl) ?_
            refine va_get (D := G.1) (cl := vwCl) (ci := 4) (v := .int (tI 10)) (C := RX4) (T := TX4) (N := 18) hx hb hts inG4 hown hK hP 0 rfl rfl 10 (Nat.le_of_ble_eq_true rfl) (hts _ q359) (fun _ h9 => h9) rfl dX4_sizeStages_76 ?_
            refine lv_imul hx hb dX4_sizeStages_79 ?_
            obtain ⟨a32, h33, hf⟩ := bn_some hf
            refine kPSN (tX10_upward l G ((a30 * ((tI 7) + (2 : Int32))) * (10 : Int32)) ((3 : Int32) * (tI 10)) a32 h33) ⟨hx, hb, hml, hown, hts⟩ n_mn_X4_75 q500 q94 q501 okyX10_upward ⟨Nat.le_of_ble_eq_true rfl, Nat.le_of_ble_eq_true rfl⟩ hP hG hS [] rfl hl.1 rfl (Nat.le_of_ble_eq_true rfl) dX4_sizeStages_80 ⟨Nat.zero_le _, Nat.zero_le _⟩ (fun locs hS => ?_)
            refine W.eq (g2 := F0 m 83 ls [.int a32, .int x21, .ref ad_t_sizes]) rfl ?_
            obtain ⟨h34, hf⟩ := gd_some hf
            refine va_iast (D := G.1) (cl := vwCl) hx hb hK hP hD hS 1 0 rfl rfl (gi_in h34) dX4_sizeStages_83 (fun H locs hP hD hS => ?_)
            have hP : va_P G.1 vwCl [(ad_t, .inr (4, [.ref ad_t_sizes, .int (tI 1), .int (tI 2), .int (tI 3), .int (tI 4), .int (tI 5), .int (tI 6), .int (tI 7), .int (tI 8), .int (tI 9), .int (tI 10), .int (tI 11), .int (tI 12), .int (tI 13), .int (tI 14), .int (tI 15), .int (tI 16), .int (tI 17)])), (ad_t_sizes, .inl (G.2.1 0, 8, .inl (upd g22 x21.toNatClampNeg a32)))] H := hP
            have hD : va_D A [(ad_t, .inr (4, [.ref ad_t_sizes, .int (tI 1), .int (tI 2), .int (tI 3), .int (tI 4), .int (tI 5), .int (tI 6), .int (tI 7), .int (tI 8), .int (tI 9), .int (tI 10), .int (tI 11), .int (tI 12), .int (tI 13), .int (tI 14), .int (tI 15), .int (tI 16), .int (tI 17)])), (ad_t_sizes, .inl (G.2.1 0, 8, .inl (upd g22 x21.toNatClampNeg a32)))] := hD
            refine lv_aload_n hx hb dX4_sizeStages_84 rfl (lv_at hl 3 rfl) ?_
            refine va_get (D := G.1) (cl := vwCl) (ci := 4) (v := .ref ad_t_sizes) (C := RX4) (T := TX4) (N := 18) hx hb hts inG4 hown hK hP 0 rfl rfl 0 (Nat.le_of_ble_eq_true rfl) (hts _ q345) (fun _ h9 => h9) rfl dX4_sizeStages_85 ?_
            refine lv_iload_n hx hb dX4_sizeStages_88 rfl (lv_at hl 2 rfl) ?_
            obtain ⟨h35, hf⟩ := gd_some hf
            refine va_iald (D := G.1) (cl := vwCl) hx hb hK hP 1 0 rfl rfl (gi_in h35) dX4_sizeStages_89 ?_
            refine lv_istore_n (lv' := [(1, .int ((upd g22 x21.toNatClampNeg a32) x21.toNatClampNeg)), (3, .int (tI 7)), (2, .int x21), (0, .ref ad_t)]) hx hb dX4_sizeStages_90 rfl hl (by decide) rfl (fun ls hl => ?_)
            refine lv_iinc (v := (x21 + (-1 : Int32))) (lv' := [(2, .int (x21 + (-1 : Int32))), (1, .int ((upd g22 x21.toNatClampNeg a32) x21.toNatClampNeg)), (3, .int (tI 7)), (0, .ref ad_t)]) hx hb dX4_sizeStages_91 hl (k := 2) rfl (ii_m1 _) (by decide) rfl (fun ls hl => ?_)
            refine lv_goto (tgt := 12) hx hb dX4_sizeStages_94 (by decide) ?_
            exact ih ((upd g22 x21.toNatClampNeg a32) x21.toNatClampNeg) (x21 + (-1 : Int32)) (upd g22 x21.toNatClampNeg a32) H locs ls (lv_sub hl [0, 1, 3] rfl) hP hD hS hf
        · have hf := if_t hf c24
          refine lv_aload_n hx hb dX4_sizeStages_28 rfl (lv_at hl 3 rfl) ?_
          refine va_get (D := G.1) (cl := vwCl) (ci := 4) (v := .int (tI 8)) (C := RX4) (T := TX4) (N := 18) hx hb hts inG4 hown hK hP 0 rfl rfl 8 (Nat.le_of_ble_eq_true rfl) (hts _ q356) (fun _ h9 => h9) rfl dX4_sizeStages_29 ?_
          refine lv_istore_n (lv' := [(3, .int (tI 8)), (2, .int x21), (1, .int x20), (0, .ref ad_t)]) hx hb dX4_sizeStages_32 rfl hl (by decide) rfl (fun ls hl => ?_)
          refine lv_goto (tgt := 61) hx hb dX4_sizeStages_33 (by decide) ?_
          refine lv_aload_n hx hb dX4_sizeStages_61 rfl (lv_at hl 3 rfl) ?_
          refine va_get (D := G.1) (cl := vwCl) (ci := 4) (v := .ref ad_t_sizes) (C := RX4) (T := TX4) (N := 18) hx hb hts inG4 hown hK hP 0 rfl rfl 0 (Nat.le_of_ble_eq_true rfl) (hts _ q345) (fun _ h9 => h9) rfl dX4_sizeStages_62 ?_
          refine lv_iload_n hx hb dX4_sizeStages_65 rfl (lv_at hl 1 rfl) ?_
          refine lv_iload_n hx hb dX4_sizeStages_66 rfl (lv_at hl 2 rfl) ?_
          refine lv_iload_n hx hb dX4_sizeStages_67 rfl (lv_at hl 0 rfl) ?_
          refine lv_iconst (v := 2) hx hb dX4_sizeStages_68 (by decide) ?_
          refine lv_iadd hx hb dX4_sizeStages_69 ?_
          refine lv_imul hx hb dX4_sizeStages_70 ?_
          refine lv_bipush (v := 10) hx hb dX4_sizeStages_71 (by decide) ?_
          refine lv_imul hx hb dX4_sizeStages_73 ?_
          refine lv_iconst (v := 3) hx hb dX4_sizeStages_74 (by decide) ?_
          refine lv_aload_n hx hb dX4_sizeStages_75 rfl (lv_at hl 3 rfl) ?_
          refine va_get (D := G.1) (cl := vwCl) (ci := 4) (v := .int (tI 10)) (C := RX4) (T := TX4) (N := 18) hx hb hts inG4 hown hK hP 0 rfl rfl 10 (Nat.le_of_ble_eq_true rfl) (hts _ q359) (fun _ h9 => h9) rfl dX4_sizeStages_76 ?_
          refine lv_imul hx hb dX4_sizeStages_79 ?_
          obtain ⟨a36, h37, hf⟩ := bn_some hf
          refine kPSN (tX10_upward l G ((x20 * ((tI 8) + (2 : Int32))) * (10 : Int32)) ((3 : Int32) * (tI 10)) a36 h37) ⟨hx, hb, hml, hown, hts⟩ n_mn_X4_75 q500 q94 q501 okyX10_upward ⟨Nat.le_of_ble_eq_true rfl, Nat.le_of_ble_eq_true rfl⟩ hP hG hS [] rfl hl.1 rfl (Nat.le_of_ble_eq_true rfl) dX4_sizeStages_80 ⟨Nat.zero_le _, Nat.zero_le _⟩ (fun locs hS => ?_)
          refine W.eq (g2 := F0 m 83 ls [.int a36, .int x21, .ref ad_t_sizes]) rfl ?_
          obtain ⟨h38, hf⟩ := gd_some hf
          refine va_iast (D := G.1) (cl := vwCl) hx hb hK hP hD hS 1 0 rfl rfl (gi_in h38) dX4_sizeStages_83 (fun H locs hP hD hS => ?_)
          have hP : va_P G.1 vwCl [(ad_t, .inr (4, [.ref ad_t_sizes, .int (tI 1), .int (tI 2), .int (tI 3), .int (tI 4), .int (tI 5), .int (tI 6), .int (tI 7), .int (tI 8), .int (tI 9), .int (tI 10), .int (tI 11), .int (tI 12), .int (tI 13), .int (tI 14), .int (tI 15), .int (tI 16), .int (tI 17)])), (ad_t_sizes, .inl (G.2.1 0, 8, .inl (upd g22 x21.toNatClampNeg a36)))] H := hP
          have hD : va_D A [(ad_t, .inr (4, [.ref ad_t_sizes, .int (tI 1), .int (tI 2), .int (tI 3), .int (tI 4), .int (tI 5), .int (tI 6), .int (tI 7), .int (tI 8), .int (tI 9), .int (tI 10), .int (tI 11), .int (tI 12), .int (tI 13), .int (tI 14), .int (tI 15), .int (tI 16), .int (tI 17)])), (ad_t_sizes, .inl (G.2.1 0, 8, .inl (upd g22 x21.toNatClampNeg a36)))] := hD
          refine lv_aload_n hx hb dX4_sizeStages_84 rfl (lv_at hl 3 rfl) ?_
          refine va_get (D := G.1) (cl := vwCl) (ci := 4) (v := .ref ad_t_sizes) (C := RX4) (T := TX4) (N := 18) hx hb hts inG4 hown hK hP 0 rfl rfl 0 (Nat.le_of_ble_eq_true rfl) (hts _ q345) (fun _ h9 => h9) rfl dX4_sizeStages_85 ?_
          refine lv_iload_n hx hb dX4_sizeStages_88 rfl (lv_at hl 1 rfl) ?_
          obtain ⟨h39, hf⟩ := gd_some hf
          refine va_iald (D := G.1) (cl := vwCl) hx hb hK hP 1 0 rfl rfl (gi_in h39) dX4_sizeStages_89 ?_
          refine lv_istore_n (lv' := [(1, .int ((upd g22 x21.toNatClampNeg a36) x21.toNatClampNeg)), (3, .int (tI 8)), (2, .int x21), (0, .ref ad_t)]) hx hb dX4_sizeStages_90 rfl hl (by decide) rfl (fun ls hl => ?_)
          refine lv_iinc (v := (x21 + (-1 : Int32))) (lv' := [(2, .int (x21 + (-1 : Int32))), (1, .int ((upd g22 x21.toNatClampNeg a36) x21.toNatClampNeg)), (3, .int (tI 8)), (0, .ref ad_t)]) hx hb dX4_sizeStages_91 hl (k := 2) rfl (ii_m1 _) (by decide) rfl (fun ls hl => ?_)
          refine lv_goto (tgt := 12) hx hb dX4_sizeStages_94 (by decide) ?_
          exact ih ((upd g22 x21.toNatClampNeg a36) x21.toNatClampNeg) (x21 + (-1 : Int32)) (upd g22 x21.toNatClampNeg a36) H locs ls (lv_sub hl [0, 1, 3] rfl) hP hD hS hf
  exact Ly19 FU (tI 4) ((tI 9) - (1 : Int32)) t_sizes H locs ls (lv_sub hl [0, 1, 2] rfl) hP hD hS hLy19

def fX4_mostPulls_l3 (x1 : Int32) (tI : Nat → Int32) : Nat → Int32 → Option ((Unit) ⊕ (Int32))
  | 0, _ => none
  | n + 1, x2 =>
    (if x2 ≤ (1 : Int32) then some (.inl ()) else gd (nz x2) ((if (((40 : Int32) + (((30 : Int32) * (tI 3)) / x2)) * (100 : Int32)) < ((tI 15) * ((100 : Int32) + x1)) then fX4_mostPulls_l3 x1 tI n (x2 + (-1 : Int32)) else some (.inr x2))))
def fX4_mostPulls (tI : Nat → Int32) (p0 : Int32) : Option (Int32) :=
  (bn (fX4_mostPulls_l3 p0 tI FU (16 : Int32)) fun y4 => match y4 with | .inl y4z => some (1 : Int32) | .inr y4o => some y4o)
set_option maxRecDepth 100000 in
set_option maxHeartbeats 4000000 in
theorem tX4_mostPulls (l : Launch) (G : gG) (ad_t ad_t_sizes : Nat) (tI : Nat → Int32) (p0 : Int32) (o : Int32) (hf : fX4_mostPulls tI p0 = some o) : mP G l yX4_mostPulls cX4_mostPulls 3 (some .int) 0 0 [.ref ad_t, .int p0] [(ad_t, .inr (4, [.ref ad_t_sizes, .int (tI 1), .int (tI 2), .int (tI 3), .int (tI 4), .int (tI 5), .int (tI 6), .int (tI 7), .int (tI 8), .int (tI 9), .int (tI 10), .int (tI 11), .int (tI 12), .int (tI 13), .int (tI 14), .int (tI 15), .int (tI 16), .int (tI 17)]))] (some (.int o)) := by
  refine mP_of (by decide) (Nat.le_of_ble_eq_true rfl) ?_
  intro p e s m below meth cd ls hx hb hml hown hts hr hlocks hl hP hG
  have hK := hG.1
  have hown : s.vm.findClass RX4 = some m.cls := hown
  have hl : lv_has ls 3 [(0, .ref ad_t), (1, .int p0)] := hl
  have hS : va_S no s.heap s.heap [] := va_S.rf
  generalize ([] : List Loc) = locs at hS ⊢
  unfold fX4_mostPulls at hf
  show wG p l e 0 0 s m [.ref ad_t, .int p0] below meth cd s.heap locs (pQ (some (.int o))) no (F0 m 0 ls [])
  refine lv_bipush (v := 16) hx hb dX4_mostPulls_0 (by decide) ?_
  refine lv_istore_n (lv' := [(2, .int (16 : Int32)), (0, .ref ad_t), (1, .int p0)]) hx hb dX4_mostPulls_2 rfl hl (by decide) rfl (fun ls hl => ?_)
  obtain ⟨y5, hLy5, hky5⟩ := bn_some hf
  have Ey5 : ∀ y5z, y5 = .inl y5z → ∀  (locs : List Loc) (ls : Array Slot), lv_has ls 3 [] → va_S no s.heap s.heap locs → wG p l e 0 0 s m [.ref ad_t, .int p0] below meth cd s.heap locs (pQ (some (.int o))) no (F0 m 43 ls []) := by
    intro y5z ez
    intro  locs ls hl hS
    subst ez
    have hf := hky5
    (try dsimp only at hf)
    refine lv_iconst (v := 1) hx hb dX4_mostPulls_43 (by decide) ?_
    have hf := Option.some.inj hf
    subst hf
    exact pRet hx hb hr hlocks hS dX4_mostPulls_44
  have Ly5 : ∀ (n : Nat), ∀ (x6 : Int32) (locs : List Loc) (ls : Array Slot), lv_has ls 3 [(2, .int x6), (0, .ref ad_t), (1, .int p0)] → va_S no s.heap s.heap locs → fX4_mostPulls_l3 p0 tI n x6 = some y5 → wG p l e 0 0 s m [.ref ad_t, .int p0] below meth cd s.heap locs (pQ (some (.int o))) no (F0 m 3 ls []) := by
    intro n
    induction n with
    | zero =>
      intro x6 locs ls hl hS hf
      rw [fX4_mostPulls_l3] at hf
      cases hf
    | succ n ih =>
      intro x6 locs ls hl hS hf
      rw [fX4_mostPulls_l3] at hf
      refine lv_iload_n hx hb dX4_mostPulls_3 rfl (lv_at hl 0 rfl) ?_
      refine lv_iconst (v := 1) hx hb dX4_mostPulls_4 (by decide) ?_
      refine lv_icmp_le (tgt := 43) hx hb dX4_mostPulls_5 (by decide) (fun c7 => ?_) (fun c7 => ?_)
      · have hf := if_t hf c7
        have hf := Option.some.inj hf
        subst hf
        exact Ey5 _ rfl locs ls (lv_sub hl [] rfl) hS 
      · have hf := if_f hf c7
        refine lv_bipush (v := 40) hx hb dX4_mostPulls_8 (by decide) ?_
        refine lv_bipush (v := 30) hx hb dX4_mostPulls_10 (by decide) ?_
        refine lv_aload_n hx hb dX4_mostPulls_12 rfl (lv_at hl 1 rfl) ?_
        refine va_get (D := G.1) (cl := vwCl) (ci := 4) (v := .int (tI 3)) (C := RX4) (T := TX4) (N := 18) hx hb hts inG4 hown hK hP 0 rfl rfl 3 (Nat.le_of_ble_eq_true rfl) (hts _ q351) (fun _ h9 => h9) rfl dX4_mostPulls_13 ?_
        refine lv_imul hx hb dX4_mostPulls_16 ?_
        refine lv_iload_n hx hb dX4_mostPulls_17 rfl (lv_at hl 0 rfl) ?_
        obtain ⟨h8, hf⟩ := gd_some hf
        refine lv_idiv hx hb dX4_mostPulls_18 (nz_ne h8) ?_
        refine lv_iadd hx hb dX4_mostPulls_19 ?_
        refine lv_bipush (v := 100) hx hb dX4_mostPulls_20 (by decide) ?_
        refine lv_imul hx hb dX4_mostPulls_22 ?_
        refine lv_aload_n hx hb dX4_mostPulls_23 rfl (lv_at hl 1 rfl) ?_
        refine va_get (D := G.1) (cl := vwCl) (ci := 4) (v := .int (tI 15)) (C := RX4) (T := TX4) (N := 18) hx hb hts inG4 hown hK hP 0 rfl rfl 15 (Nat.le_of_ble_eq_true rfl) (hts _ q368) (fun _ h9 => h9) rfl dX4_mostPulls_24 ?_
        refine lv_bipush (v := 100) hx hb dX4_mostPulls_27 (by decide) ?_
        refine lv_iload_n hx hb dX4_mostPulls_29 rfl (lv_at hl 2 rfl) ?_
        refine lv_iadd hx hb dX4_mostPulls_30 ?_
        refine lv_imul hx hb dX4_mostPulls_31 ?_
        refine lv_icmp_lt (tgt := 37) hx hb dX4_mostPulls_32 (by decide) (fun c9 => ?_) (fun c9 => ?_)
        · have hf := if_t hf c9
          refine lv_iinc (v := (x6 + (-1 : Int32))) (lv' := [(2, .int (x6 + (-1 : Int32))), (0, .ref ad_t), (1, .int p0)]) hx hb dX4_mostPulls_37 hl (k := 0) rfl (ii_m1 _) (by decide) rfl (fun ls hl => ?_)
          refine lv_goto (tgt := 3) hx hb dX4_mostPulls_40 (by decide) ?_
          exact ih (x6 + (-1 : Int32)) locs ls (lv_sub hl [0, 1, 2] rfl) hS hf
        · have hf := if_f hf c9
          refine lv_iload_n hx hb dX4_mostPulls_35 rfl (lv_at hl 0 rfl) ?_
          have hf := Option.some.inj hf
          subst hf
          have hf := hky5
          (try dsimp only at hf)
          have hf := Option.some.inj hf
          subst hf
          exact pRet hx hb hr hlocks hS dX4_mostPulls_36
  exact Ly5 FU (16 : Int32) locs ls (lv_sub hl [0, 1, 2] rfl) hS hLy5

def fX4_area (tI : Nat → Int32) : Int32 :=
  ((tI 12) * (tI 13))
set_option maxRecDepth 100000 in
set_option maxHeartbeats 4000000 in
theorem tX4_area (l : Launch) (G : gG) (ad_t ad_t_sizes : Nat) (tI : Nat → Int32) (o : Int32) (hf : fX4_area tI = o) : mP G l yX4_area cX4_area 1 (some .int) 0 0 [.ref ad_t] [(ad_t, .inr (4, [.ref ad_t_sizes, .int (tI 1), .int (tI 2), .int (tI 3), .int (tI 4), .int (tI 5), .int (tI 6), .int (tI 7), .int (tI 8), .int (tI 9), .int (tI 10), .int (tI 11), .int (tI 12), .int (tI 13), .int (tI 14), .int (tI 15), .int (tI 16), .int (tI 17)]))] (some (.int o)) := by
  refine mP_of (by decide) (Nat.le_of_ble_eq_true rfl) ?_
  intro p e s m below meth cd ls hx hb hml hown hts hr hlocks hl hP hG
  have hK := hG.1
  have hown : s.vm.findClass RX4 = some m.cls := hown
  have hl : lv_has ls 1 [(0, .ref ad_t)] := hl
  have hS : va_S no s.heap s.heap [] := va_S.rf
  generalize ([] : List Loc) = locs at hS ⊢
  unfold fX4_area at hf
  show wG p l e 0 0 s m [.ref ad_t] below meth cd s.heap locs (pQ (some (.int o))) no (F0 m 0 ls [])
  refine lv_aload_n hx hb dX4_area_0 rfl (lv_at hl 0 rfl) ?_
  refine va_get (D := G.1) (cl := vwCl) (ci := 4) (v := .int (tI 12)) (C := RX4) (T := TX4) (N := 18) hx hb hts inG4 hown hK hP 0 rfl rfl 12 (Nat.le_of_ble_eq_true rfl) (hts _ q361) (fun _ h9 => h9) rfl dX4_area_1 ?_
  refine lv_aload_n hx hb dX4_area_4 rfl (lv_at hl 0 rfl) ?_
  refine va_get (D := G.1) (cl := vwCl) (ci := 4) (v := .int (tI 13)) (C := RX4) (T := TX4) (N := 18) hx hb hts inG4 hown hK hP 0 rfl rfl 13 (Nat.le_of_ble_eq_true rfl) (hts _ q364) (fun _ h9 => h9) rfl dX4_area_5 ?_
  refine lv_imul hx hb dX4_area_8 ?_
  subst hf
  exact pRet hx hb hr hlocks hS dX4_area_9

def fX4_readTime (tI : Nat → Int32) : Int32 :=
  ((((tI 11) + (tI 14)) + (tI 15)) + (tI 16))
set_option maxRecDepth 100000 in
set_option maxHeartbeats 4000000 in
theorem tX4_readTime (l : Launch) (G : gG) (ad_t ad_t_sizes : Nat) (tI : Nat → Int32) (o : Int32) (hf : fX4_readTime tI = o) : mP G l yX4_readTime cX4_readTime 1 (some .int) 0 0 [.ref ad_t] [(ad_t, .inr (4, [.ref ad_t_sizes, .int (tI 1), .int (tI 2), .int (tI 3), .int (tI 4), .int (tI 5), .int (tI 6), .int (tI 7), .int (tI 8), .int (tI 9), .int (tI 10), .int (tI 11), .int (tI 12), .int (tI 13), .int (tI 14), .int (tI 15), .int (tI 16), .int (tI 17)]))] (some (.int o)) := by
  refine mP_of (by decide) (Nat.le_of_ble_eq_true rfl) ?_
  intro p e s m below meth cd ls hx hb hml hown hts hr hlocks hl hP hG
  have hK := hG.1
  have hown : s.vm.findClass RX4 = some m.cls := hown
  have hl : lv_has ls 1 [(0, .ref ad_t)] := hl
  have hS : va_S no s.heap s.heap [] := va_S.rf
  generalize ([] : List Loc) = locs at hS ⊢
  unfold fX4_readTime at hf
  show wG p l e 0 0 s m [.ref ad_t] below meth cd s.heap locs (pQ (some (.int o))) no (F0 m 0 ls [])
  refine lv_aload_n hx hb dX4_readTime_0 rfl (lv_at hl 0 rfl) ?_
  refine va_get (D := G.1) (cl := vwCl) (ci := 4) (v := .int (tI 11)) (C := RX4) (T := TX4) (N := 18) hx hb hts inG4 hown hK hP 0 rfl rfl 11 (Nat.le_of_ble_eq_true rfl) (hts _ q360) (fun _ h9 => h9) rfl dX4_readTime_1 ?_
  refine lv_aload_n hx hb dX4_readTime_4 rfl (lv_at hl 0 rfl) ?_
  refine va_get (D := G.1) (cl := vwCl) (ci := 4) (v := .int (tI 14)) (C := RX4) (T := TX4) (N := 18) hx hb hts inG4 hown hK hP 0 rfl rfl 14 (Nat.le_of_ble_eq_true rfl) (hts _ q367) (fun _ h9 => h9) rfl dX4_readTime_5 ?_
  refine lv_iadd hx hb dX4_readTime_8 ?_
  refine lv_aload_n hx hb dX4_readTime_9 rfl (lv_at hl 0 rfl) ?_
  refine va_get (D := G.1) (cl := vwCl) (ci := 4) (v := .int (tI 15)) (C := RX4) (T := TX4) (N := 18) hx hb hts inG4 hown hK hP 0 rfl rfl 15 (Nat.le_of_ble_eq_true rfl) (hts _ q368) (fun _ h9 => h9) rfl dX4_readTime_10 ?_
  refine lv_iadd hx hb dX4_readTime_13 ?_
  refine lv_aload_n hx hb dX4_readTime_14 rfl (lv_at hl 0 rfl) ?_
  refine va_get (D := G.1) (cl := vwCl) (ci := 4) (v := .int (tI 16)) (C := RX4) (T := TX4) (N := 18) hx hb hts inG4 hown hK hP 0 rfl rfl 16 (Nat.le_of_ble_eq_true rfl) (hts _ q369) (fun _ h9 => h9) rfl dX4_readTime_15 ?_
  refine lv_iadd hx hb dX4_readTime_18 ?_
  subst hf
  exact pRet hx hb hr hlocks hS dX4_readTime_19

def fX4_cycle (tI : Nat → Int32) : Option (Int32) :=
  (if (1 : Int32) ≤ (tI 17) then gd (nz (tI 17)) (some (((((tI 11) + (tI 14)) + (tI 16)) + (40 : Int32)) + (((30 : Int32) * (tI 3)) / (tI 17)))) else some (((((tI 11) + (tI 14)) + (tI 16)) + (40 : Int32)) + (0 : Int32)))
set_option maxRecDepth 100000 in
set_option maxHeartbeats 4000000 in
theorem tX4_cycle (l : Launch) (G : gG) (ad_t ad_t_sizes : Nat) (tI : Nat → Int32) (o : Int32) (hf : fX4_cycle tI = some o) : mP G l yX4_cycle cX4_cycle 2 (some .int) 0 0 [.ref ad_t] [(ad_t, .inr (4, [.ref ad_t_sizes, .int (tI 1), .int (tI 2), .int (tI 3), .int (tI 4), .int (tI 5), .int (tI 6), .int (tI 7), .int (tI 8), .int (tI 9), .int (tI 10), .int (tI 11), .int (tI 12), .int (tI 13), .int (tI 14), .int (tI 15), .int (tI 16), .int (tI 17)]))] (some (.int o)) := by
  refine mP_of (by decide) (Nat.le_of_ble_eq_true rfl) ?_
  intro p e s m below meth cd ls hx hb hml hown hts hr hlocks hl hP hG
  have hK := hG.1
  have hown : s.vm.findClass RX4 = some m.cls := hown
  have hl : lv_has ls 2 [(0, .ref ad_t)] := hl
  have hS : va_S no s.heap s.heap [] := va_S.rf
  generalize ([] : List Loc) = locs at hS ⊢
  unfold fX4_cycle at hf
  show wG p l e 0 0 s m [.ref ad_t] below meth cd s.heap locs (pQ (some (.int o))) no (F0 m 0 ls [])
  refine lv_aload_n hx hb dX4_cycle_0 rfl (lv_at hl 0 rfl) ?_
  refine va_get (D := G.1) (cl := vwCl) (ci := 4) (v := .int (tI 17)) (C := RX4) (T := TX4) (N := 18) hx hb hts inG4 hown hK hP 0 rfl rfl 17 (Nat.le_of_ble_eq_true rfl) (hts _ q370) (fun _ h9 => h9) rfl dX4_cycle_1 ?_
  refine lv_iconst (v := 1) hx hb dX4_cycle_4 (by decide) ?_
  refine lv_icmp_ge (tgt := 12) hx hb dX4_cycle_5 (by decide) (fun c5 => ?_) (fun c5 => ?_)
  · have hf := if_t hf c5
    refine lv_bipush (v := 30) hx hb dX4_cycle_12 (by decide) ?_
    refine lv_aload_n hx hb dX4_cycle_14 rfl (lv_at hl 0 rfl) ?_
    refine va_get (D := G.1) (cl := vwCl) (ci := 4) (v := .int (tI 3)) (C := RX4) (T := TX4) (N := 18) hx hb hts inG4 hown hK hP 0 rfl rfl 3 (Nat.le_of_ble_eq_true rfl) (hts _ q351) (fun _ h9 => h9) rfl dX4_cycle_15 ?_
    refine lv_imul hx hb dX4_cycle_18 ?_
    refine lv_aload_n hx hb dX4_cycle_19 rfl (lv_at hl 0 rfl) ?_
    refine va_get (D := G.1) (cl := vwCl) (ci := 4) (v := .int (tI 17)) (C := RX4) (T := TX4) (N := 18) hx hb hts inG4 hown hK hP 0 rfl rfl 17 (Nat.le_of_ble_eq_true rfl) (hts _ q370) (fun _ h9 => h9) rfl dX4_cycle_20 ?_
    obtain ⟨h6, hf⟩ := gd_some hf
    refine lv_idiv hx hb dX4_cycle_23 (nz_ne h6) ?_
    refine lv_istore_n (lv' := [(1, .int (((30 : Int32) * (tI 3)) / (tI 17))), (0, .ref ad_t)]) hx hb dX4_cycle_24 rfl hl (by decide) rfl (fun ls hl => ?_)
    refine lv_aload_n hx hb dX4_cycle_25 rfl (lv_at hl 1 rfl) ?_
    refine va_get (D := G.1) (cl := vwCl) (ci := 4) (v := .int (tI 11)) (C := RX4) (T := TX4) (N := 18) hx hb hts inG4 hown hK hP 0 rfl rfl 11 (Nat.le_of_ble_eq_true rfl) (hts _ q360) (fun _ h9 => h9) rfl dX4_cycle_26 ?_
    refine lv_aload_n hx hb dX4_cycle_29 rfl (lv_at hl 1 rfl) ?_
    refine va_get (D := G.1) (cl := vwCl) (ci := 4) (v := .int (tI 14)) (C := RX4) (T := TX4) (N := 18) hx hb hts inG4 hown hK hP 0 rfl rfl 14 (Nat.le_of_ble_eq_true rfl) (hts _ q367) (fun _ h9 => h9) rfl dX4_cycle_30 ?_
    refine lv_iadd hx hb dX4_cycle_33 ?_
    refine lv_aload_n hx hb dX4_cycle_34 rfl (lv_at hl 1 rfl) ?_
    refine va_get (D := G.1) (cl := vwCl) (ci := 4) (v := .int (tI 16)) (C := RX4) (T := TX4) (N := 18) hx hb hts inG4 hown hK hP 0 rfl rfl 16 (Nat.le_of_ble_eq_true rfl) (hts _ q369) (fun _ h9 => h9) rfl dX4_cycle_35 ?_
    refine lv_iadd hx hb dX4_cycle_38 ?_
    refine lv_bipush (v := 40) hx hb dX4_cycle_39 (by decide) ?_
    refine lv_iadd hx hb dX4_cycle_41 ?_
    refine lv_iload_n hx hb dX4_cycle_42 rfl (lv_at hl 0 rfl) ?_
    refine lv_iadd hx hb dX4_cycle_43 ?_
    have hf := Option.some.inj hf
    subst hf
    exact pRet hx hb hr hlocks hS dX4_cycle_44
  · have hf := if_f hf c5
    refine lv_iconst (v := 0) hx hb dX4_cycle_8 (by decide) ?_
    refine lv_goto (tgt := 24) hx hb dX4_cycle_9 (by decide) ?_
    refine lv_istore_n (lv' := [(1, .int (0 : Int32)), (0, .ref ad_t)]) hx hb dX4_cycle_24 rfl hl (by decide) rfl (fun ls hl => ?_)
    refine lv_aload_n hx hb dX4_cycle_25 rfl (lv_at hl 1 rfl) ?_
    refine va_get (D := G.1) (cl := vwCl) (ci := 4) (v := .int (tI 11)) (C := RX4) (T := TX4) (N := 18) hx hb hts inG4 hown hK hP 0 rfl rfl 11 (Nat.le_of_ble_eq_true rfl) (hts _ q360) (fun _ h9 => h9) rfl dX4_cycle_26 ?_
    refine lv_aload_n hx hb dX4_cycle_29 rfl (lv_at hl 1 rfl) ?_
    refine va_get (D := G.1) (cl := vwCl) (ci := 4) (v := .int (tI 14)) (C := RX4) (T := TX4) (N := 18) hx hb hts inG4 hown hK hP 0 rfl rfl 14 (Nat.le_of_ble_eq_true rfl) (hts _ q367) (fun _ h9 => h9) rfl dX4_cycle_30 ?_
    refine lv_iadd hx hb dX4_cycle_33 ?_
    refine lv_aload_n hx hb dX4_cycle_34 rfl (lv_at hl 1 rfl) ?_
    refine va_get (D := G.1) (cl := vwCl) (ci := 4) (v := .int (tI 16)) (C := RX4) (T := TX4) (N := 18) hx hb hts inG4 hown hK hP 0 rfl rfl 16 (Nat.le_of_ble_eq_true rfl) (hts _ q369) (fun _ h9 => h9) rfl dX4_cycle_35 ?_
    refine lv_iadd hx hb dX4_cycle_38 ?_
    refine lv_bipush (v := 40) hx hb dX4_cycle_39 (by decide) ?_
    refine lv_iadd hx hb dX4_cycle_41 ?_
    refine lv_iload_n hx hb dX4_cycle_42 rfl (lv_at hl 0 rfl) ?_
    refine lv_iadd hx hb dX4_cycle_43 ?_
    have hf := Option.some.inj hf
    subst hf
    exact pRet hx hb hr hlocks hS dX4_cycle_44

def fX4_tell (tI : Nat → Int32) (t_sizes : Nat → Int32) (p0 : Int32) : Option (Int32) :=
  (if p0 = (0 : Int32) then some (tI 1) else (if p0 = (1 : Int32) then some (tI 2) else (if p0 = (2 : Int32) then some (tI 12) else (if p0 = (3 : Int32) then some (tI 13) else (if p0 = (4 : Int32) then some (fX4_area tI) else (if p0 = (5 : Int32) then some (fX4_readTime tI) else (if p0 = (6 : Int32) then bn (fX4_cycle tI) fun a8 => some a8 else (if p0 = (7 : Int32) then some (tI 9) else (if p0 = (8 : Int32) then some (tI 10) else (if p0 = (9 : Int32) then some (tI 11) else (if p0 = (10 : Int32) then some (tI 17) else (if p0 = (11 : Int32) then some (tI 14) else (if p0 = (12 : Int32) then some (tI 15) else (if p0 < (20 : Int32) then some (-1 : Int32) else (if ((20 : Int32) + (tI 9)) ≤ p0 then some (-1 : Int32) else gd (gi (p0 - (20 : Int32)) 8) (some (t_sizes (p0 - (20 : Int32)).toNatClampNeg)))))))))))))))))
set_option maxRecDepth 100000 in
set_option maxHeartbeats 4000000 in
theorem tX4_tell (l : Launch) (G : gG) (ad_t ad_t_sizes : Nat) (tI : Nat → Int32) (t_sizes : Nat → Int32) (p0 : Int32) (o : Int32) (hf : fX4_tell tI t_sizes p0 = some o) : mP G l yX4_tell cX4_tell 2 (some .int) 1 21 [.ref ad_t, .int p0] [(ad_t, .inr (4, [.ref ad_t_sizes, .int (tI 1), .int (tI 2), .int (tI 3), .int (tI 4), .int (tI 5), .int (tI 6), .int (tI 7), .int (tI 8), .int (tI 9), .int (tI 10), .int (tI 11), .int (tI 12), .int (tI 13), .int (tI 14), .int (tI 15), .int (tI 16), .int (tI 17)])), (ad_t_sizes, .inl (G.2.1 0, 8, .inl t_sizes))] (some (.int o)) := by
  refine mP_of (by decide) (Nat.le_of_ble_eq_true rfl) ?_
  intro p e s m below meth cd ls hx hb hml hown hts hr hlocks hl hP hG
  have hK := hG.1
  have hown : s.vm.findClass RX4 = some m.cls := hown
  have hl : lv_has ls 2 [(0, .ref ad_t), (1, .int p0)] := hl
  have hS : va_S no s.heap s.heap [] := va_S.rf
  generalize ([] : List Loc) = locs at hS ⊢
  unfold fX4_tell at hf
  show wG p l e 1 21 s m [.ref ad_t, .int p0] below meth cd s.heap locs (pQ (some (.int o))) no (F0 m 0 ls [])
  refine lv_iload_n hx hb dX4_tell_0 rfl (lv_at hl 1 rfl) ?_
  by_cases c19 : p0 = (0 : Int32)
  · have hf := if_t hf c19
    refine lv_tableIn (off := 67) (tgt := 68) hx hb dX4_tell_1 (by rw [c19]; decide) (by rw [c19]; decide) (by rw [c19]; decide) (by decide) ?_
    refine lv_aload_n hx hb dX4_tell_68 rfl (lv_at hl 0 rfl) ?_
    refine va_get (D := G.1) (cl := vwCl) (ci := 4) (v := .int (tI 1)) (C := RX4) (T := TX4) (N := 18) hx hb hts inG4 hown hK hP 0 rfl rfl 1 (Nat.le_of_ble_eq_true rfl) (hts _ q347) (fun _ h9 => h9) rfl dX4_tell_69 ?_
    have hf := Option.some.inj hf
    subst hf
    exact pRet hx hb hr hlocks hS dX4_tell_72
  · have hf := if_f hf c19
    by_cases c20 : p0 = (1 : Int32)
    · have hf := if_t hf c20
      refine lv_tableIn (off := 72) (tgt := 73) hx hb dX4_tell_1 (by rw [c20]; decide) (by rw [c20]; decide) (by rw [c20]; decide) (by decide) ?_
      refine lv_aload_n hx hb dX4_tell_73 rfl (lv_at hl 0 rfl) ?_
      refine va_get (D := G.1) (cl := vwCl) (ci := 4) (v := .int (tI 2)) (C := RX4) (T := TX4) (N := 18) hx hb hts inG4 hown hK hP 0 rfl rfl 2 (Nat.le_of_ble_eq_true rfl) (hts _ q349) (fun _ h9 => h9) rfl dX4_tell_74 ?_
      have hf := Option.some.inj hf
      subst hf
      exact pRet hx hb hr hlocks hS dX4_tell_77
    · have hf := if_f hf c20
      by_cases c21 : p0 = (2 : Int32)
      · have hf := if_t hf c21
        refine lv_tableIn (off := 77) (tgt := 78) hx hb dX4_tell_1 (by rw [c21]; decide) (by rw [c21]; decide) (by rw [c21]; decide) (by decide) ?_
        refine lv_aload_n hx hb dX4_tell_78 rfl (lv_at hl 0 rfl) ?_
        refine va_get (D := G.1) (cl := vwCl) (ci := 4) (v := .int (tI 12)) (C := RX4) (T := TX4) (N := 18) hx hb hts inG4 hown hK hP 0 rfl rfl 12 (Nat.le_of_ble_eq_true rfl) (hts _ q361) (fun _ h9 => h9) rfl dX4_tell_79 ?_
        have hf := Option.some.inj hf
        subst hf
        exact pRet hx hb hr hlocks hS dX4_tell_82
      · have hf := if_f hf c21
        by_cases c22 : p0 = (3 : Int32)
        · have hf := if_t hf c22
          refine lv_tableIn (off := 82) (tgt := 83) hx hb dX4_tell_1 (by rw [c22]; decide) (by rw [c22]; decide) (by rw [c22]; decide) (by decide) ?_
          refine lv_aload_n hx hb dX4_tell_83 rfl (lv_at hl 0 rfl) ?_
          refine va_get (D := G.1) (cl := vwCl) (ci := 4) (v := .int (tI 13)) (C := RX4) (T := TX4) (N := 18) hx hb hts inG4 hown hK hP 0 rfl rfl 13 (Nat.le_of_ble_eq_true rfl) (hts _ q364) (fun _ h9 => h9) rfl dX4_tell_84 ?_
          have hf := Option.some.inj hf
          subst hf
          exact pRet hx hb hr hlocks hS dX4_tell_87
        · have hf := if_f hf c22
          by_cases c23 : p0 = (4 : Int32)
          · have hf := if_t hf c23
            refine lv_tableIn (off := 87) (tgt := 88) hx hb dX4_tell_1 (by rw [c23]; decide) (by rw [c23]; decide) (by rw [c23]; decide) (by decide) ?_
            refine lv_aload_n hx hb dX4_tell_88 rfl (lv_at hl 0 rfl) ?_
            refine kPV (tX4_area l G ad_t ad_t_sizes tI _ rfl) ⟨hx, hb, hml, hown, hts⟩ q525 q526 q527 q103 q528 okyX4_area ⟨Nat.le_of_ble_eq_true rfl, Nat.le_of_ble_eq_true rfl⟩ hP hG hS [0] rfl 0 rfl rfl hl.1 rfl (Nat.le_of_ble_eq_true rfl) dX4_tell_89 ⟨Nat.zero_le _, Nat.zero_le _⟩ (fun locs hS => ?_)
            refine W.eq (g2 := F0 m 92 ls [.int (fX4_area tI)]) rfl ?_
            have hf := Option.some.inj hf
            subst hf
            exact pRet hx hb hr hlocks hS dX4_tell_92
          · have hf := if_f hf c23
            by_cases c24 : p0 = (5 : Int32)
            · have hf := if_t hf c24
              refine lv_tableIn (off := 92) (tgt := 93) hx hb dX4_tell_1 (by rw [c24]; decide) (by rw [c24]; decide) (by rw [c24]; decide) (by decide) ?_
              refine lv_aload_n hx hb dX4_tell_93 rfl (lv_at hl 0 rfl) ?_
              refine kPV (tX4_readTime l G ad_t ad_t_sizes tI _ rfl) ⟨hx, hb, hml, hown, hts⟩ q917 q918 q919 q103 q920 okyX4_readTime ⟨Nat.le_of_ble_eq_true rfl, Nat.le_of_ble_eq_true rfl⟩ hP hG hS [0] rfl 0 rfl rfl hl.1 rfl (Nat.le_of_ble_eq_true rfl) dX4_tell_94 ⟨Nat.zero_le _, Nat.zero_le _⟩ (fun locs hS => ?_)
              refine W.eq (g2 := F0 m 97 ls [.int (fX4_readTime tI)]) rfl ?_
              have hf := Option.some.inj hf
              subst hf
              exact pRet hx hb hr hlocks hS dX4_tell_97
            · have hf := if_f hf c24
              by_cases c25 : p0 = (6 : Int32)
              · have hf := if_t hf c25
                refine lv_tableIn (off := 97) (tgt := 98) hx hb dX4_tell_1 (by rw [c25]; decide) (by rw [c25]; decide) (by rw [c25]; decide) (by decide) ?_
                refine lv_aload_n hx hb dX4_tell_98 rfl (lv_at hl 0 rfl) ?_
                obtain ⟨a26, h27, hf⟩ := bn_some hf
                refine kPV (tX4_cycle l G ad_t ad_t_sizes tI a26 h27) ⟨hx, hb, hml, hown, hts⟩ q529 q530 q531 q103 q532 okyX4_cycle ⟨Nat.le_of_ble_eq_true rfl, Nat.le_of_ble_eq_true rfl⟩ hP hG hS [0] rfl 0 rfl rfl hl.1 rfl (Nat.le_of_ble_eq_true rfl) dX4_tell_99 ⟨Nat.zero_le _, Nat.zero_le _⟩ (fun locs hS => ?_)
                refine W.eq (g2 := F0 m 102 ls [.int a26]) rfl ?_
                have hf := Option.some.inj hf
                subst hf
                exact pRet hx hb hr hlocks hS dX4_tell_102
              · have hf := if_f hf c25
                by_cases c28 : p0 = (7 : Int32)
                · have hf := if_t hf c28
                  refine lv_tableIn (off := 102) (tgt := 103) hx hb dX4_tell_1 (by rw [c28]; decide) (by rw [c28]; decide) (by rw [c28]; decide) (by decide) ?_
                  refine lv_aload_n hx hb dX4_tell_103 rfl (lv_at hl 0 rfl) ?_
                  refine va_get (D := G.1) (cl := vwCl) (ci := 4) (v := .int (tI 9)) (C := RX4) (T := TX4) (N := 18) hx hb hts inG4 hown hK hP 0 rfl rfl 9 (Nat.le_of_ble_eq_true rfl) (hts _ q357) (fun _ h9 => h9) rfl dX4_tell_104 ?_
                  have hf := Option.some.inj hf
                  subst hf
                  exact pRet hx hb hr hlocks hS dX4_tell_107
                · have hf := if_f hf c28
                  by_cases c29 : p0 = (8 : Int32)
                  · have hf := if_t hf c29
                    refine lv_tableIn (off := 107) (tgt := 108) hx hb dX4_tell_1 (by rw [c29]; decide) (by rw [c29]; decide) (by rw [c29]; decide) (by decide) ?_
                    refine lv_aload_n hx hb dX4_tell_108 rfl (lv_at hl 0 rfl) ?_
                    refine va_get (D := G.1) (cl := vwCl) (ci := 4) (v := .int (tI 10)) (C := RX4) (T := TX4) (N := 18) hx hb hts inG4 hown hK hP 0 rfl rfl 10 (Nat.le_of_ble_eq_true rfl) (hts _ q359) (fun _ h9 => h9) rfl dX4_tell_109 ?_
                    have hf := Option.some.inj hf
                    subst hf
                    exact pRet hx hb hr hlocks hS dX4_tell_112
                  · have hf := if_f hf c29
                    by_cases c30 : p0 = (9 : Int32)
                    · have hf := if_t hf c30
                      refine lv_tableIn (off := 112) (tgt := 113) hx hb dX4_tell_1 (by rw [c30]; decide) (by rw [c30]; decide) (by rw [c30]; decide) (by decide) ?_
                      refine lv_aload_n hx hb dX4_tell_113 rfl (lv_at hl 0 rfl) ?_
                      refine va_get (D := G.1) (cl := vwCl) (ci := 4) (v := .int (tI 11)) (C := RX4) (T := TX4) (N := 18) hx hb hts inG4 hown hK hP 0 rfl rfl 11 (Nat.le_of_ble_eq_true rfl) (hts _ q360) (fun _ h9 => h9) rfl dX4_tell_114 ?_
                      have hf := Option.some.inj hf
                      subst hf
                      exact pRet hx hb hr hlocks hS dX4_tell_117
                    · have hf := if_f hf c30
                      by_cases c31 : p0 = (10 : Int32)
                      · have hf := if_t hf c31
                        refine lv_tableIn (off := 117) (tgt := 118) hx hb dX4_tell_1 (by rw [c31]; decide) (by rw [c31]; decide) (by rw [c31]; decide) (by decide) ?_
                        refine lv_aload_n hx hb dX4_tell_118 rfl (lv_at hl 0 rfl) ?_
                        refine va_get (D := G.1) (cl := vwCl) (ci := 4) (v := .int (tI 17)) (C := RX4) (T := TX4) (N := 18) hx hb hts inG4 hown hK hP 0 rfl rfl 17 (Nat.le_of_ble_eq_true rfl) (hts _ q370) (fun _ h9 => h9) rfl dX4_tell_119 ?_
                        have hf := Option.some.inj hf
                        subst hf
                        exact pRet hx hb hr hlocks hS dX4_tell_122
                      · have hf := if_f hf c31
                        by_cases c32 : p0 = (11 : Int32)
                        · have hf := if_t hf c32
                          refine lv_tableIn (off := 122) (tgt := 123) hx hb dX4_tell_1 (by rw [c32]; decide) (by rw [c32]; decide) (by rw [c32]; decide) (by decide) ?_
                          refine lv_aload_n hx hb dX4_tell_123 rfl (lv_at hl 0 rfl) ?_
                          refine va_get (D := G.1) (cl := vwCl) (ci := 4) (v := .int (tI 14)) (C := RX4) (T := TX4) (N := 18) hx hb hts inG4 hown hK hP 0 rfl rfl 14 (Nat.le_of_ble_eq_true rfl) (hts _ q367) (fun _ h9 => h9) rfl dX4_tell_124 ?_
                          have hf := Option.some.inj hf
                          subst hf
                          exact pRet hx hb hr hlocks hS dX4_tell_127
                        · have hf := if_f hf c32
                          by_cases c33 : p0 = (12 : Int32)
                          · have hf := if_t hf c33
                            refine lv_tableIn (off := 127) (tgt := 128) hx hb dX4_tell_1 (by rw [c33]; decide) (by rw [c33]; decide) (by rw [c33]; decide) (by decide) ?_
                            refine lv_aload_n hx hb dX4_tell_128 rfl (lv_at hl 0 rfl) ?_
                            refine va_get (D := G.1) (cl := vwCl) (ci := 4) (v := .int (tI 15)) (C := RX4) (T := TX4) (N := 18) hx hb hts inG4 hown hK hP 0 rfl rfl 15 (Nat.le_of_ble_eq_true rfl) (hts _ q368) (fun _ h9 => h9) rfl dX4_tell_129 ?_
                            have hf := Option.some.inj hf
                            subst hf
                            exact pRet hx hb hr hlocks hS dX4_tell_132
                          · have hf := if_f hf c33
                            refine lv_tableOut (tgt := 133) hx hb dX4_tell_1 (by have ec19 := sw_ne (k := 0) (by decide) (by decide) c19; have ec20 := sw_ne (k := 1) (by decide) (by decide) c20; have ec21 := sw_ne (k := 2) (by decide) (by decide) c21; have ec22 := sw_ne (k := 3) (by decide) (by decide) c22; have ec23 := sw_ne (k := 4) (by decide) (by decide) c23; have ec24 := sw_ne (k := 5) (by decide) (by decide) c24; have ec25 := sw_ne (k := 6) (by decide) (by decide) c25; have ec28 := sw_ne (k := 7) (by decide) (by decide) c28; have ec29 := sw_ne (k := 8) (by decide) (by decide) c29; have ec30 := sw_ne (k := 9) (by decide) (by decide) c30; have ec31 := sw_ne (k := 10) (by decide) (by decide) c31; have ec32 := sw_ne (k := 11) (by decide) (by decide) c32; have ec33 := sw_ne (k := 12) (by decide) (by decide) c33; omega) (by decide) ?_
                            refine lv_iload_n hx hb dX4_tell_133 rfl (lv_at hl 1 rfl) ?_
                            refine lv_bipush (v := 20) hx hb dX4_tell_134 (by decide) ?_
                            refine lv_icmp_lt (tgt := 162) hx hb dX4_tell_136 (by decide) (fun c34 => ?_) (fun c34 => ?_)
                            · have hf := if_t hf c34
                              refine lv_iconst (v := -1) hx hb dX4_tell_162 (by decide) ?_
                              have hf := Option.some.inj hf
                              subst hf
                              exact pRet hx hb hr hlocks hS dX4_tell_163
                            · have hf := if_f hf c34
                              refine lv_iload_n hx hb dX4_tell_139 rfl (lv_at hl 1 rfl) ?_
                              refine lv_bipush (v := 20) hx hb dX4_tell_140 (by decide) ?_
                              refine lv_aload_n hx hb dX4_tell_142 rfl (lv_at hl 0 rfl) ?_
                              refine va_get (D := G.1) (cl := vwCl) (ci := 4) (v := .int (tI 9)) (C := RX4) (T := TX4) (N := 18) hx hb hts inG4 hown hK hP 0 rfl rfl 9 (Nat.le_of_ble_eq_true rfl) (hts _ q357) (fun _ h9 => h9) rfl dX4_tell_143 ?_
                              refine lv_iadd hx hb dX4_tell_146 ?_
                              refine lv_icmp_ge (tgt := 162) hx hb dX4_tell_147 (by decide) (fun c35 => ?_) (fun c35 => ?_)
                              · have hf := if_t hf c35
                                refine lv_iconst (v := -1) hx hb dX4_tell_162 (by decide) ?_
                                have hf := Option.some.inj hf
                                subst hf
                                exact pRet hx hb hr hlocks hS dX4_tell_163
                              · have hf := if_f hf c35
                                refine lv_aload_n hx hb dX4_tell_150 rfl (lv_at hl 0 rfl) ?_
                                refine va_get (D := G.1) (cl := vwCl) (ci := 4) (v := .ref ad_t_sizes) (C := RX4) (T := TX4) (N := 18) hx hb hts inG4 hown hK hP 0 rfl rfl 0 (Nat.le_of_ble_eq_true rfl) (hts _ q345) (fun _ h9 => h9) rfl dX4_tell_151 ?_
                                refine lv_iload_n hx hb dX4_tell_154 rfl (lv_at hl 1 rfl) ?_
                                refine lv_bipush (v := 20) hx hb dX4_tell_155 (by decide) ?_
                                refine lv_isub hx hb dX4_tell_157 ?_
                                obtain ⟨h36, hf⟩ := gd_some hf
                                refine va_iald (D := G.1) (cl := vwCl) hx hb hK hP 1 0 rfl rfl (gi_in h36) dX4_tell_158 ?_
                                refine lv_goto (tgt := 163) hx hb dX4_tell_159 (by decide) ?_
                                have hf := Option.some.inj hf
                                subst hf
                                exact pRet hx hb hr hlocks hS dX4_tell_163
