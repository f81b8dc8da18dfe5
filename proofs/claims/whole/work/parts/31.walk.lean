def fX9_wrong_l5 (x2 : Int32) (t_repairI : Nat → Int32) (p0I : Nat → Int32) (p0_badBits : Nat → Int32) : Nat → Int32 → Int32 → Option (Int32)
  | 0, _, _ => none
  | n + 1, x3, x4 =>
    (if (p0I 4) ≤ x4 then some x3 else (if (t_repairI 4) = 0 then gd (gi x4 12) ((if (p0_badBits x4.toNatClampNeg) = x2 then fX9_wrong_l5 x2 t_repairI p0I p0_badBits n x3 (x4 + (1 : Int32)) else fX9_wrong_l5 x2 t_repairI p0I p0_badBits n (x3 + (1 : Int32)) (x4 + (1 : Int32)))) else some x3))
def fX9_wrong (t_repairI : Nat → Int32) (p0I : Nat → Int32) (p0_badBits : Nat → Int32) (p1 : Int32) : Option (Int32) :=
  bn (fX9_wrong_l5 p1 t_repairI p0I p0_badBits FU (0 : Int32) (0 : Int32)) fun y5 => some y5
set_option maxRecDepth 100000 in
set_option maxHeartbeats 4000000 in
theorem tX9_wrong (l : Launch) (G : gG) (ad_t ad_t_repair ad_t_repair_rows ad_t_repair_columns ad_t_repair_candidates ad_t_repair_left ad_p0 ad_p0_numbers ad_p0_badRows ad_p0_badColumns ad_p0_badBits : Nat) (tI : Nat → Int32) (t_repairI : Nat → Int32) (p0I : Nat → Int32) (p0_badBits : Nat → Int32) (p1 : Int32) (o : Int32) (hf : fX9_wrong t_repairI p0I p0_badBits p1 = some o) : mP G l yX9_wrong cX9_wrong 5 (some .int) 0 0 [.ref ad_t, .ref ad_p0, .int p1] [(ad_t, .inr (9, [.ref ad_t_repair, .int (tI 1), .int (tI 2), .int (tI 3), .int (tI 4)])), (ad_t_repair, .inr (3, [.ref ad_t_repair_rows, .ref ad_t_repair_columns, .int (t_repairI 2), .int (t_repairI 3), .int (t_repairI 4), .int (t_repairI 5), .ref ad_t_repair_candidates, .ref ad_t_repair_left, .int (t_repairI 8)])), (ad_p0, .inr (5, [.ref ad_p0_numbers, .ref ad_p0_badRows, .ref ad_p0_badColumns, .ref ad_p0_badBits, .int (p0I 4)])), (ad_p0_badBits, .inl (G.2.1 0, 12, .inl p0_badBits))] (some (.int o)) := by
  refine mP_of (by decide) (Nat.le_of_ble_eq_true rfl) ?_
  intro p e s m below meth cd ls hx hb hml hown hts hr hlocks hl hP hG
  have hK := hG.1
  have hown : s.vm.findClass RX9 = some m.cls := hown
  have hl : lv_has ls 5 [(0, .ref ad_t), (1, .ref ad_p0), (2, .int p1)] := hl
  have hS : va_S no s.heap s.heap [] := va_S.rf
  generalize ([] : List Loc) = locs at hS ⊢
  unfold fX9_wrong at hf
  show wG p l e 0 0 s m [.ref ad_t, .ref ad_p0, .int p1] below meth cd s.heap locs (pQ (some (.int o))) no (F0 m 0 ls [])
  refine lv_iconst (v := 0) hx hb dX9_wrong_0 (by decide) ?_
  refine lv_istore_n (lv' := [(3, .int (0 : Int32)), (0, .ref ad_t), (1, .ref ad_p0), (2, .int p1)]) hx hb dX9_wrong_1 rfl hl (by decide) rfl (fun ls hl => ?_)
  refine lv_iconst (v := 0) hx hb dX9_wrong_2 (by decide) ?_
  refine lv_istore (lv' := [(4, .int (0 : Int32)), (3, .int (0 : Int32)), (0, .ref ad_t), (1, .ref ad_p0), (2, .int p1)]) hx hb dX9_wrong_3 hl (by decide) rfl (fun ls hl => ?_)
  obtain ⟨y6, hLy6, hky6⟩ := bn_some hf
  have Ey6 : ∀  (locs : List Loc) (ls : Array Slot), lv_has ls 5 [(3, .int y6)] → va_S no s.heap s.heap locs → wG p l e 0 0 s m [.ref ad_t, .ref ad_p0, .int p1] below meth cd s.heap locs (pQ (some (.int o))) no (F0 m 44 ls []) := by
    intro  locs ls hl hS
    have hf := hky6
    refine lv_iload_n hx hb dX9_wrong_44 rfl (lv_at hl 0 rfl) ?_
    have hf := Option.some.inj hf
    subst hf
    exact pRet hx hb hr hlocks hS dX9_wrong_45
  have Ly6 : ∀ (n : Nat), ∀ (x7 : Int32) (x8 : Int32) (locs : List Loc) (ls : Array Slot), lv_has ls 5 [(4, .int x8), (3, .int x7), (0, .ref ad_t), (1, .ref ad_p0), (2, .int p1)] → va_S no s.heap s.heap locs → fX9_wrong_l5 p1 t_repairI p0I p0_badBits n x7 x8 = some y6 → wG p l e 0 0 s m [.ref ad_t, .ref ad_p0, .int p1] below meth cd s.heap locs (pQ (some (.int o))) no (F0 m 5 ls []) := by
    intro n
    induction n with
    | zero =>
      intro x7 x8 locs ls hl hS hf
      rw [fX9_wrong_l5] at hf
      cases hf
    | succ n ih =>
      intro x7 x8 locs ls hl hS hf
      rw [fX9_wrong_l5] at hf
      refine lv_iload hx hb dX9_wrong_5 (lv_at hl 0 rfl) ?_
      refine lv_aload_n hx hb dX9_wrong_7 rfl (lv_at hl 3 rfl) ?_
      refine va_get (D := G.1) (cl := vwCl) (ci := 5) (v := .int (p0I 4)) (C := RX5) (T := TX5) (N := 5) hx hb hts inG5 hown hK hP 2 rfl rfl 4 (Nat.le_of_ble_eq_true rfl) (hts _ q174) (fun _ h9 => h9) rfl dX9_wrong_8 ?_
      refine lv_icmp_ge (tgt := 44) hx hb dX9_wrong_11 (by decide) (fun c9 => ?_) (fun c9 => ?_)
      · have hf := if_t hf c9
        have hf := Option.some.inj hf
        subst hf
        exact Ey6  locs ls (lv_sub hl [1] rfl) hS 
      · have hf := if_f hf c9
        refine lv_aload_n hx hb dX9_wrong_14 rfl (lv_at hl 2 rfl) ?_
        refine va_get (D := G.1) (cl := vwCl) (ci := 9) (v := .ref ad_t_repair) (C := RX9) (T := TX9) (N := 5) hx hb hts inG9 hown hK hP 0 rfl rfl 0 (Nat.le_of_ble_eq_true rfl) (hts _ q319) (fun _ h9 => h9) rfl dX9_wrong_15 ?_
        refine va_get (D := G.1) (cl := vwCl) (ci := 3) (v := .int (t_repairI 4)) (C := RX3) (T := TX3) (N := 9) hx hb hts inG3 hown hK hP 1 rfl rfl 4 (Nat.le_of_ble_eq_true rfl) (hts _ q293) (fun _ h9 => h9) rfl dX9_wrong_18 ?_
        refine lv_if_ne (tgt := 44) hx hb dX9_wrong_21 (by decide) (fun c10 => ?_) (fun c10 => ?_)
        · have hf := if_f hf c10
          have hf := Option.some.inj hf
          subst hf
          exact Ey6  locs ls (lv_sub hl [1] rfl) hS 
        · have hf := if_t hf c10
          refine lv_aload_n hx hb dX9_wrong_24 rfl (lv_at hl 3 rfl) ?_
          refine va_get (D := G.1) (cl := vwCl) (ci := 5) (v := .ref ad_p0_badBits) (C := RX5) (T := TX5) (N := 5) hx hb hts inG5 hown hK hP 2 rfl rfl 3 (Nat.le_of_ble_eq_true rfl) (hts _ q167) (fun _ h9 => h9) rfl dX9_wrong_25 ?_
          refine lv_iload hx hb dX9_wrong_28 (lv_at hl 0 rfl) ?_
          obtain ⟨h11, hf⟩ := gd_some hf
          refine va_iald (D := G.1) (cl := vwCl) hx hb hK hP 3 0 rfl rfl (gi_in h11) dX9_wrong_30 ?_
          refine lv_iload_n hx hb dX9_wrong_31 rfl (lv_at hl 4 rfl) ?_
          refine lv_icmp_eq (tgt := 38) hx hb dX9_wrong_32 (by decide) (fun c12 => ?_) (fun c12 => ?_)
          · have hf := if_t hf c12
            refine lv_iinc (v := (x8 + (1 : Int32))) (lv' := [(4, .int (x8 + (1 : Int32))), (3, .int x7), (0, .ref ad_t), (1, .ref ad_p0), (2, .int p1)]) hx hb dX9_wrong_38 hl (k := 0) rfl (ii_1 _) (by decide) rfl (fun ls hl => ?_)
            refine lv_goto (tgt := 5) hx hb dX9_wrong_41 (by decide) ?_
            exact ih x7 (x8 + (1 : Int32)) locs ls (lv_sub hl [0, 1, 2, 3, 4] rfl) hS hf
          · have hf := if_f hf c12
            refine lv_iinc (v := (x7 + (1 : Int32))) (lv' := [(3, .int (x7 + (1 : Int32))), (4, .int x8), (0, .ref ad_t), (1, .ref ad_p0), (2, .int p1)]) hx hb dX9_wrong_35 hl (k := 1) rfl (ii_1 _) (by decide) rfl (fun ls hl => ?_)
            refine lv_iinc (v := (x8 + (1 : Int32))) (lv' := [(4, .int (x8 + (1 : Int32))), (3, .int (x7 + (1 : Int32))), (0, .ref ad_t), (1, .ref ad_p0), (2, .int p1)]) hx hb dX9_wrong_38 hl (k := 1) rfl (ii_1 _) (by decide) rfl (fun ls hl => ?_)
            refine lv_goto (tgt := 5) hx hb dX9_wrong_41 (by decide) ?_
            exact ih (x7 + (1 : Int32)) (x8 + (1 : Int32)) locs ls (lv_sub hl [0, 1, 2, 3, 4] rfl) hS hf
  exact Ly6 FU (0 : Int32) (0 : Int32) locs ls (lv_sub hl [0, 1, 2, 3, 4] rfl) hS hLy6

def fJ6_bitCount_0f7a4 (p0 : Int32) : Int32 :=
  ((((((((p0 - ((ush p0 (1 : Int32)) &&& (1431655765 : Int32))) &&& (858993459 : Int32)) + ((ush (p0 - ((ush p0 (1 : Int32)) &&& (1431655765 : Int32))) (2 : Int32)) &&& (858993459 : Int32))) + (ush (((p0 - ((ush p0 (1 : Int32)) &&& (1431655765 : Int32))) &&& (858993459 : Int32)) + ((ush (p0 - ((ush p0 (1 : Int32)) &&& (1431655765 : Int32))) (2 : Int32)) &&& (858993459 : Int32))) (4 : Int32))) &&& (252645135 : Int32)) + (ush (((((p0 - ((ush p0 (1 : Int32)) &&& (1431655765 : Int32))) &&& (858993459 : Int32)) + ((ush (p0 - ((ush p0 (1 : Int32)) &&& (1431655765 : Int32))) (2 : Int32)) &&& (858993459 : Int32))) + (ush (((p0 - ((ush p0 (1 : Int32)) &&& (1431655765 : Int32))) &&& (858993459 : Int32)) + ((ush (p0 - ((ush p0 (1 : Int32)) &&& (1431655765 : Int32))) (2 : Int32)) &&& (858993459 : Int32))) (4 : Int32))) &&& (252645135 : Int32)) (8 : Int32))) + (ush ((((((p0 - ((ush p0 (1 : Int32)) &&& (1431655765 : Int32))) &&& (858993459 : Int32)) + ((ush (p0 - ((ush p0 (1 : Int32)) &&& (1431655765 : Int32))) (2 : Int32)) &&& (858993459 : Int32))) + (ush (((p0 - ((ush p0 (1 : Int32)) &&& (1431655765 : Int32))) &&& (858993459 : Int32)) + ((ush (p0 - ((ush p0 (1 : Int32)) &&& (1431655765 : Int32))) (2 : Int32)) &&& (858993459 : Int32))) (4 : Int32))) &&& (252645135 : Int32)) + (ush (((((p0 - ((ush p0 (1 : Int32)) &&& (1431655765 : Int32))) &&& (858993459 : Int32)) + ((ush (p0 - ((ush p0 (1 : Int32)) &&& (1431655765 : Int32))) (2 : Int32)) &&& (858993459 : Int32))) + (ush (((p0 - ((ush p0 (1 : Int32)) &&& (1431655765 : Int32))) &&& (858993459 : Int32)) + ((ush (p0 - ((ush p0 (1 : Int32)) &&& (1431655765 : Int32))) (2 : Int32)) &&& (858993459 : Int32))) (4 : Int32))) &&& (252645135 : Int32)) (8 : Int32))) (16 : Int32))) &&& (63 : Int32))
set_option maxRecDepth 100000 in
set_option maxHeartbeats 4000000 in
theorem tJ6_bitCount_0f7a4 (l : Launch) (G : gG) (p0 : Int32) (o : Int32) (hf : fJ6_bitCount_0f7a4 p0 = o) : mP G l yJ6_bitCount_0f7a4 cJ6_bitCount_0f7a4 1 (some .int) 0 0 [.int p0] [] (some (.int o)) := by
  refine mP_of (by decide) (Nat.le_of_ble_eq_true rfl) ?_
  intro p e s m below meth cd ls hx hb hml hown hts hr hlocks hl hP hG
  have hK := hG.1
  have hown : s.vm.findClass RJ6 = some m.cls := hown
  have hl : lv_has ls 1 [(0, .int p0)] := hl
  have hS : va_S no s.heap s.heap [] := va_S.rf
  generalize ([] : List Loc) = locs at hS ⊢
  unfold fJ6_bitCount_0f7a4 at hf
  show wG p l e 0 0 s m [.int p0] below meth cd s.heap locs (pQ (some (.int o))) no (F0 m 0 ls [])
  refine lv_iload_n hx hb dJ6_bitCount_0f7a4_0 rfl (lv_at hl 0 rfl) ?_
  refine lv_iload_n hx hb dJ6_bitCount_0f7a4_1 rfl (lv_at hl 0 rfl) ?_
  refine lv_iconst (v := 1) hx hb dJ6_bitCount_0f7a4_2 (by decide) ?_
  refine lv_iushr (v := ush p0 (1 : Int32)) hx hb dJ6_bitCount_0f7a4_3 rfl ?_
  refine lv_ldcw (v := 1431655765) hx hb hown (hts _ q492) dJ6_bitCount_0f7a4_4 ?_
  refine lv_iand hx hb dJ6_bitCount_0f7a4_7 ?_
  refine lv_isub hx hb dJ6_bitCount_0f7a4_8 ?_
  refine lv_istore_n (lv' := [(0, .int (p0 - ((ush p0 (1 : Int32)) &&& (1431655765 : Int32))))]) hx hb dJ6_bitCount_0f7a4_9 rfl hl (by decide) rfl (fun ls hl => ?_)
  refine lv_iload_n hx hb dJ6_bitCount_0f7a4_10 rfl (lv_at hl 0 rfl) ?_
  refine lv_ldcw (v := 858993459) hx hb hown (hts _ q493) dJ6_bitCount_0f7a4_11 ?_
  refine lv_iand hx hb dJ6_bitCount_0f7a4_14 ?_
  refine lv_iload_n hx hb dJ6_bitCount_0f7a4_15 rfl (lv_at hl 0 rfl) ?_
  refine lv_iconst (v := 2) hx hb dJ6_bitCount_0f7a4_16 (by decide) ?_
  refine lv_iushr (v := ush (p0 - ((ush p0 (1 : Int32)) &&& (1431655765 : Int32))) (2 : Int32)) hx hb dJ6_bitCount_0f7a4_17 rfl ?_
  refine lv_ldcw (v := 858993459) hx hb hown (hts _ q493) dJ6_bitCount_0f7a4_18 ?_
  refine lv_iand hx hb dJ6_bitCount_0f7a4_21 ?_
  refine lv_iadd hx hb dJ6_bitCount_0f7a4_22 ?_
  refine lv_istore_n (lv' := [(0, .int (((p0 - ((ush p0 (1 : Int32)) &&& (1431655765 : Int32))) &&& (858993459 : Int32)) + ((ush (p0 - ((ush p0 (1 : Int32)) &&& (1431655765 : Int32))) (2 : Int32)) &&& (858993459 : Int32))))]) hx hb dJ6_bitCount_0f7a4_23 rfl hl (by decide) rfl (fun ls hl => ?_)
  refine lv_iload_n hx hb dJ6_bitCount_0f7a4_24 rfl (lv_at hl 0 rfl) ?_
  refine lv_iload_n hx hb dJ6_bitCount_0f7a4_25 rfl (lv_at hl 0 rfl) ?_
  refine lv_iconst (v := 4) hx hb dJ6_bitCount_0f7a4_26 (by decide) ?_
  refine lv_iushr (v := ush (((p0 - ((ush p0 (1 : Int32)) &&& (1431655765 : Int32))) &&& (858993459 : Int32)) + ((ush (p0 - ((ush p0 (1 : Int32)) &&& (1431655765 : Int32))) (2 : Int32)) &&& (858993459 : Int32))) (4 : Int32)) hx hb dJ6_bitCount_0f7a4_27 rfl ?_
  refine lv_iadd hx hb dJ6_bitCount_0f7a4_28 ?_
  refine lv_ldcw (v := 252645135) hx hb hown (hts _ q494) dJ6_bitCount_0f7a4_29 ?_
  refine lv_iand hx hb dJ6_bitCount_0f7a4_32 ?_
  refine lv_istore_n (lv' := [(0, .int (((((p0 - ((ush p0 (1 : Int32)) &&& (1431655765 : Int32))) &&& (858993459 : Int32)) + ((ush (p0 - ((ush p0 (1 : Int32)) &&& (1431655765 : Int32))) (2 : Int32)) &&& (858993459 : Int32))) + (ush (((p0 - ((ush p0 (1 : Int32)) &&& (1431655765 : Int32))) &&& (858993459 : Int32)) + ((ush (p0 - ((ush p0 (1 : Int32)) &&& (1431655765 : Int32))) (2 : Int32)) &&& (858993459 : Int32))) (4 : Int32))) &&& (252645135 : Int32)))]) hx hb dJ6_bitCount_0f7a4_33 rfl hl (by decide) rfl (fun ls hl => ?_)
  refine lv_iload_n hx hb dJ6_bitCount_0f7a4_34 rfl (lv_at hl 0 rfl) ?_
  refine lv_iload_n hx hb dJ6_bitCount_0f7a4_35 rfl (lv_at hl 0 rfl) ?_
  refine lv_bipush (v := 8) hx hb dJ6_bitCount_0f7a4_36 (by decide) ?_
  refine lv_iushr (v := ush (((((p0 - ((ush p0 (1 : Int32)) &&& (1431655765 : Int32))) &&& (858993459 : Int32)) + ((ush (p0 - ((ush p0 (1 : Int32)) &&& (1431655765 : Int32))) (2 : Int32)) &&& (858993459 : Int32))) + (ush (((p0 - ((ush p0 (1 : Int32)) &&& (1431655765 : Int32))) &&& (858993459 : Int32)) + ((ush (p0 - ((ush p0 (1 : Int32)) &&& (1431655765 : Int32))) (2 : Int32)) &&& (858993459 : Int32))) (4 : Int32))) &&& (252645135 : Int32)) (8 : Int32)) hx hb dJ6_bitCount_0f7a4_38 rfl ?_
  refine lv_iadd hx hb dJ6_bitCount_0f7a4_39 ?_
  refine lv_istore_n (lv' := [(0, .int ((((((p0 - ((ush p0 (1 : Int32)) &&& (1431655765 : Int32))) &&& (858993459 : Int32)) + ((ush (p0 - ((ush p0 (1 : Int32)) &&& (1431655765 : Int32))) (2 : Int32)) &&& (858993459 : Int32))) + (ush (((p0 - ((ush p0 (1 : Int32)) &&& (1431655765 : Int32))) &&& (858993459 : Int32)) + ((ush (p0 - ((ush p0 (1 : Int32)) &&& (1431655765 : Int32))) (2 : Int32)) &&& (858993459 : Int32))) (4 : Int32))) &&& (252645135 : Int32)) + (ush (((((p0 - ((ush p0 (1 : Int32)) &&& (1431655765 : Int32))) &&& (858993459 : Int32)) + ((ush (p0 - ((ush p0 (1 : Int32)) &&& (1431655765 : Int32))) (2 : Int32)) &&& (858993459 : Int32))) + (ush (((p0 - ((ush p0 (1 : Int32)) &&& (1431655765 : Int32))) &&& (858993459 : Int32)) + ((ush (p0 - ((ush p0 (1 : Int32)) &&& (1431655765 : Int32))) (2 : Int32)) &&& (858993459 : Int32))) (4 : Int32))) &&& (252645135 : Int32)) (8 : Int32))))]) hx hb dJ6_bitCount_0f7a4_40 rfl hl (by decide) rfl (fun ls hl => ?_)
  refine lv_iload_n hx hb dJ6_bitCount_0f7a4_41 rfl (lv_at hl 0 rfl) ?_
  refine lv_iload_n hx hb dJ6_bitCount_0f7a4_42 rfl (lv_at hl 0 rfl) ?_
  refine lv_bipush (v := 16) hx hb dJ6_bitCount_0f7a4_43 (by decide) ?_
  refine lv_iushr (v := ush ((((((p0 - ((ush p0 (1 : Int32)) &&& (1431655765 : Int32))) &&& (858993459 : Int32)) + ((ush (p0 - ((ush p0 (1 : Int32)) &&& (1431655765 : Int32))) (2 : Int32)) &&& (858993459 : Int32))) + (ush (((p0 - ((ush p0 (1 : Int32)) &&& (1431655765 : Int32))) &&& (858993459 : Int32)) + ((ush (p0 - ((ush p0 (1 : Int32)) &&& (1431655765 : Int32))) (2 : Int32)) &&& (858993459 : Int32))) (4 : Int32))) &&& (252645135 : Int32)) + (ush (((((p0 - ((ush p0 (1 : Int32)) &&& (1431655765 : Int32))) &&& (858993459 : Int32)) + ((ush (p0 - ((ush p0 (1 : Int32)) &&& (1431655765 : Int32))) (2 : Int32)) &&& (858993459 : Int32))) + (ush (((p0 - ((ush p0 (1 : Int32)) &&& (1431655765 : Int32))) &&& (858993459 : Int32)) + ((ush (p0 - ((ush p0 (1 : Int32)) &&& (1431655765 : Int32))) (2 : Int32)) &&& (858993459 : Int32))) (4 : Int32))) &&& (252645135 : Int32)) (8 : Int32))) (16 : Int32)) hx hb dJ6_bitCount_0f7a4_45 rfl ?_
  refine lv_iadd hx hb dJ6_bitCount_0f7a4_46 ?_
  refine lv_istore_n (lv' := [(0, .int (((((((p0 - ((ush p0 (1 : Int32)) &&& (1431655765 : Int32))) &&& (858993459 : Int32)) + ((ush (p0 - ((ush p0 (1 : Int32)) &&& (1431655765 : Int32))) (2 : Int32)) &&& (858993459 : Int32))) + (ush (((p0 - ((ush p0 (1 : Int32)) &&& (1431655765 : Int32))) &&& (858993459 : Int32)) + ((ush (p0 - ((ush p0 (1 : Int32)) &&& (1431655765 : Int32))) (2 : Int32)) &&& (858993459 : Int32))) (4 : Int32))) &&& (252645135 : Int32)) + (ush (((((p0 - ((ush p0 (1 : Int32)) &&& (1431655765 : Int32))) &&& (858993459 : Int32)) + ((ush (p0 - ((ush p0 (1 : Int32)) &&& (1431655765 : Int32))) (2 : Int32)) &&& (858993459 : Int32))) + (ush (((p0 - ((ush p0 (1 : Int32)) &&& (1431655765 : Int32))) &&& (858993459 : Int32)) + ((ush (p0 - ((ush p0 (1 : Int32)) &&& (1431655765 : Int32))) (2 : Int32)) &&& (858993459 : Int32))) (4 : Int32))) &&& (252645135 : Int32)) (8 : Int32))) + (ush ((((((p0 - ((ush p0 (1 : Int32)) &&& (1431655765 : Int32))) &&& (858993459 : Int32)) + ((ush (p0 - ((ush p0 (1 : Int32)) &&& (1431655765 : Int32))) (2 : Int32)) &&& (858993459 : Int32))) + (ush (((p0 - ((ush p0 (1 : Int32)) &&& (1431655765 : Int32))) &&& (858993459 : Int32)) + ((ush (p0 - ((ush p0 (1 : Int32)) &&& (1431655765 : Int32))) (2 : Int32)) &&& (858993459 : Int32))) (4 : Int32))) &&& (252645135 : Int32)) + (ush (((((p0 - ((ush p0 (1 : Int32)) &&& (1431655765 : Int32))) &&& (858993459 : Int32)) + ((ush (p0 - ((ush p0 (1 : Int32)) &&& (1431655765 : Int32))) (2 : Int32)) &&& (858993459 : Int32))) + (ush (((p0 - ((ush p0 (1 : Int32)) &&& (1431655765 : Int32))) &&& (858993459 : Int32)) + ((ush (p0 - ((ush p0 (1 : Int32)) &&& (1431655765 : Int32))) (2 : Int32)) &&& (858993459 : Int32))) (4 : Int32))) &&& (252645135 : Int32)) (8 : Int32))) (16 : Int32))))]) hx hb dJ6_bitCount_0f7a4_47 rfl hl (by decide) rfl (fun ls hl => ?_)
  refine lv_iload_n hx hb dJ6_bitCount_0f7a4_48 rfl (lv_at hl 0 rfl) ?_
  refine lv_bipush (v := 63) hx hb dJ6_bitCount_0f7a4_49 (by decide) ?_
  refine lv_iand hx hb dJ6_bitCount_0f7a4_51 ?_
  subst hf
  exact pRet hx hb hr hlocks hS dJ6_bitCount_0f7a4_52

def fJ7_fill_53178_l5 (x1 : Int32) (x3 : Int32) (k0 : Nat) : Nat → Int32 → (Nat → Int32) → Option ((Nat → Int32))
  | 0, _, _ => none
  | n + 1, x2, p0 =>
    (if x3 ≤ x2 then some p0 else gd (gi x2 k0) (fJ7_fill_53178_l5 x1 x3 k0 n (x2 + (1 : Int32)) (upd p0 x2.toNatClampNeg x1)))
def fJ7_fill_53178 (k0 : Nat) (p0 : Nat → Int32) (p1 : Int32) : Option ((Nat → Int32)) :=
  bn (fJ7_fill_53178_l5 p1 (Int32.ofNat k0) k0 FU (0 : Int32) p0) fun y3 => some y3
set_option maxRecDepth 100000 in
set_option maxHeartbeats 4000000 in
theorem tJ7_fill_53178 (l : Launch) (G : gG) (k0 : Nat) (ad_p0 : Nat) (p0 : Nat → Int32) (p1 : Int32) (o : (Nat → Int32)) (hf : fJ7_fill_53178 k0 p0 p1 = some o) : mE G l yJ7_fill_53178 cJ7_fill_53178 4 none 0 0 0 0 [.ref ad_p0, .int p1] [(ad_p0, .inl (G.2.1 0, k0, .inl p0))] (fun r w => r = none ∧ w = [(ad_p0, .inl (G.2.1 0, k0, .inl o))]) := by
  refine mE_of (by decide) (Nat.le_of_ble_eq_true rfl) ?_
  intro p e s m below meth cd ls A hx hb hml hown hts hr hlocks hnm hl hA hP hD hS hG
  have hK := hG.1
  have hown : s.vm.findClass RJ7 = some m.cls := hown
  have hl : lv_has ls 4 [(0, .ref ad_p0), (1, .int p1)] := hl
  have hS := hS
  unfold fJ7_fill_53178 at hf
  obtain ⟨H, locs, eH, eL⟩ : ∃ (H : Heap) (locs : List Loc), H = s.heap ∧ locs = [] := ⟨_, _, rfl, rfl⟩
  have hP : va_P G.1 vwCl [(ad_p0, .inl (G.2.1 0, k0, .inl p0))] H := eH ▸ hP
  have hS : va_S A s.heap H locs := by rw [eH, eL]; exact hS
  suffices hgo : wG p l e 0 0 s m [.ref ad_p0, .int p1] below meth cd H locs (eQ G A (fun r w => r = none ∧ w = [(ad_p0, .inl (G.2.1 0, k0, .inl o))])) A (F0 m 0 ls []) by rw [eH, eL] at hgo; exact hgo
  clear eH eL
  refine lv_iconst (v := 0) hx hb dJ7_fill_53178_0 (by decide) ?_
  refine lv_istore_n (lv' := [(2, .int (0 : Int32)), (0, .ref ad_p0), (1, .int p1)]) hx hb dJ7_fill_53178_1 rfl hl (by decide) rfl (fun ls hl => ?_)
  refine lv_aload_n hx hb dJ7_fill_53178_2 rfl (lv_at hl 1 rfl) ?_
  refine va_alen (D := G.1) (cl := vwCl) (v := (Int32.ofNat k0)) hx hb hK hP 0 0 rfl rfl rfl dJ7_fill_53178_3 ?_
  refine lv_istore_n (lv' := [(3, .int (Int32.ofNat k0)), (2, .int (0 : Int32)), (0, .ref ad_p0), (1, .int p1)]) hx hb dJ7_fill_53178_4 rfl hl (by decide) rfl (fun ls hl => ?_)
  obtain ⟨y4, hLy4, hky4⟩ := bn_some hf
  have Ey4 : ∀  (H : Heap) (locs : List Loc) (ls : Array Slot), lv_has ls 4 [] → va_P G.1 vwCl [(ad_p0, .inl (G.2.1 0, k0, .inl y4))] H → va_D A [(ad_p0, .inl (G.2.1 0, k0, .inl y4))] → va_S A s.heap H locs → wG p l e 0 0 s m [.ref ad_p0, .int p1] below meth cd H locs (eQ G A (fun r w => r = none ∧ w = [(ad_p0, .inl (G.2.1 0, k0, .inl o))])) A (F0 m 20 ls []) := by
    intro  H locs ls hl hP hD hS
    have hf := hky4
    have hf := Option.some.inj hf
    subst hf
    exact eRetV hx hb hr hlocks hP hD hS ⟨rfl, rfl⟩ dJ7_fill_53178_20
  have Ly4 : ∀ (n : Nat), ∀ (x5 : Int32) (g6 : Nat → Int32) (H : Heap) (locs : List Loc) (ls : Array Slot), lv_has ls 4 [(3, .int (Int32.ofNat k0)), (2, .int x5), (0, .ref ad_p0), (1, .int p1)] → va_P G.1 vwCl [(ad_p0, .inl (G.2.1 0, k0, .inl g6))] H → va_D A [(ad_p0, .inl (G.2.1 0, k0, .inl g6))] → va_S A s.heap H locs → fJ7_fill_53178_l5 p1 (Int32.ofNat k0) k0 n x5 g6 = some y4 → wG p l e 0 0 s m [.ref ad_p0, .int p1] below meth cd H locs (eQ G A (fun r w => r = none ∧ w = [(ad_p0, .inl (G.2.1 0, k0, .inl o))])) A (F0 m 5 ls []) := by
    intro n
    induction n with
    | zero =>
      intro x5 g6 H locs ls hl hP hD hS hf
      rw [fJ7_fill_53178_l5] at hf
      cases hf
    | succ n ih =>
      intro x5 g6 H locs ls hl hP hD hS hf
      rw [fJ7_fill_53178_l5] at hf
      refine lv_iload_n hx hb dJ7_fill_53178_5 rfl (lv_at hl 1 rfl) ?_
      refine lv_iload_n hx hb dJ7_fill_53178_6 rfl (lv_at hl 0 rfl) ?_
      refine lv_icmp_ge (tgt := 20) hx hb dJ7_fill_53178_7 (by decide) (fun c7 => ?_) (fun c7 => ?_)
      · have hf := if_t hf c7
        have hf := Option.some.inj hf
        subst hf
        exact Ey4  H locs ls (lv_sub hl [] rfl) hP hD hS 
      · have hf := if_f hf c7
        refine lv_aload_n hx hb dJ7_fill_53178_10 rfl (lv_at hl 2 rfl) ?_
        refine lv_iload_n hx hb dJ7_fill_53178_11 rfl (lv_at hl 1 rfl) ?_
        refine lv_iload_n hx hb dJ7_fill_53178_12 rfl (lv_at hl 3 rfl) ?_
        obtain ⟨h8, hf⟩ := gd_some hf
        refine va_iast (D := G.1) (cl := vwCl) hx hb hK hP hD hS 0 0 rfl rfl (gi_in h8) dJ7_fill_53178_13 (fun H locs hP hD hS => ?_)
        have hP : va_P G.1 vwCl [(ad_p0, .inl (G.2.1 0, k0, .inl (upd g6 x5.toNatClampNeg p1)))] H := hP
        have hD : va_D A [(ad_p0, .inl (G.2.1 0, k0, .inl (upd g6 x5.toNatClampNeg p1)))] := hD
        refine lv_iinc (v := (x5 + (1 : Int32))) (lv' := [(2, .int (x5 + (1 : Int32))), (3, .int (Int32.ofNat k0)), (0, .ref ad_p0), (1, .int p1)]) hx hb dJ7_fill_53178_14 hl (k := 1) rfl (ii_1 _) (by decide) rfl (fun ls hl => ?_)
        refine lv_goto (tgt := 5) hx hb dJ7_fill_53178_17 (by decide) ?_
        exact ih (x5 + (1 : Int32)) (upd g6 x5.toNatClampNeg p1) H locs ls (lv_sub hl [1, 0, 2, 3] rfl) hP hD hS hf
  exact Ly4 FU (0 : Int32) p0 H locs ls (lv_sub hl [0, 1, 2, 3] rfl) hP hD hS hLy4

def fX10_feed (t_now_tapeI : Nat → Int32) (t_now_tape_bytes : Nat → Int32) (p0 : Int32) (p1 : Int32) (p2 : Int32) (p3 : Int32) (p4 : Int32) : Option (Int32 × (Nat → Int32) × (Nat → Int32)) :=
  (if (bi (fX7_hasRoom t_now_tapeI (20 : Int32))) = 0 then some ((-1 : Int32), t_now_tapeI, t_now_tape_bytes) else bn (fX7_append t_now_tapeI t_now_tape_bytes p0) fun a2 => bn (fX7_append a2.1 a2.2 p1) fun a4 => bn (fX7_append a4.1 a4.2 p2) fun a6 => bn (fX7_append a6.1 a6.2 p3) fun a8 => bn (fX7_append a8.1 a8.2 p4) fun a10 => some ((a10.1 1), a10.1, a10.2))
set_option maxRecDepth 100000 in
set_option maxHeartbeats 4000000 in
theorem tX10_feed (l : Launch) (G : gG) (ad_t ad_t_now ad_t_images ad_t_past ad_t_wiring ad_t_form ad_t_trial ad_t_reader ad_t_text ad_t_now_memory ad_t_now_tape ad_t_now_tape_bytes : Nat) (t_nowI : Nat → Int32) (t_now_tapeI : Nat → Int32) (t_now_tape_bytes : Nat → Int32) (p0 : Int32) (p1 : Int32) (p2 : Int32) (p3 : Int32) (p4 : Int32) (o : Int32 × (Nat → Int32) × (Nat → Int32)) (hf : fX10_feed t_now_tapeI t_now_tape_bytes p0 p1 p2 p3 p4 = some o) : mE G l yX10_feed cX10_feed 7 (some .int) 2 43 0 0 [.ref ad_t, .int p0, .int p1, .int p2, .int p3, .int p4] [(ad_t, .inr (10, [.ref ad_t_now, .ref ad_t_images, .ref ad_t_past, .ref ad_t_wiring, .ref ad_t_form, .ref ad_t_trial, .ref ad_t_reader, .ref ad_t_text])), (ad_t_now, .inr (6, [.ref ad_t_now_memory, .ref ad_t_now_tape, .int (t_nowI 2), .int (t_nowI 3), .int (t_nowI 4), .int (t_nowI 5), .int (t_nowI 6)])), (ad_t_now_tape, .inr (7, [.ref ad_t_now_tape_bytes, .int (t_now_tapeI 1)])), (ad_t_now_tape_bytes, .inl (G.2.1 1, 300, .inl t_now_tape_bytes))] (fun r w => r = (some (.int o.1)) ∧ w = [(ad_t, .inr (10, [.ref ad_t_now, .ref ad_t_images, .ref ad_t_past, .ref ad_t_wiring, .ref ad_t_form, .ref ad_t_trial, .ref ad_t_reader, .ref ad_t_text])), (ad_t_now, .inr (6, [.ref ad_t_now_memory, .ref ad_t_now_tape, .int (t_nowI 2), .int (t_nowI 3), .int (t_nowI 4), .int (t_nowI 5), .int (t_nowI 6)])), (ad_t_now_tape, .inr (7, [.ref ad_t_now_tape_bytes, .int (o.2.1 1)])), (ad_t_now_tape_bytes, .inl (G.2.1 1, 300, .inl o.2.2))]) := by
  refine mE_of (by decide) (Nat.le_of_ble_eq_true rfl) ?_
  intro p e s m below meth cd ls A hx hb hml hown hts hr hlocks hnm hl hA hP hD hS hG
  have hK := hG.1
  have hown : s.vm.findClass RX10 = some m.cls := hown
  have hl : lv_has ls 7 [(0, .ref ad_t), (1, .int p0), (2, .int p1), (3, .int p2), (4, .int p3), (5, .int p4)] := hl
  have hS := hS
  unfold fX10_feed at hf
  obtain ⟨H, locs, eH, eL⟩ : ∃ (H : Heap) (locs : List Loc), H = s.heap ∧ locs = [] := ⟨_, _, rfl, rfl⟩
  have hP : va_P G.1 vwCl [(ad_t, .inr (10, [.ref ad_t_now, .ref ad_t_images, .ref ad_t_past, .ref ad_t_wiring, .ref ad_t_form, .ref ad_t_trial, .ref ad_t_reader, .ref ad_t_text])), (ad_t_now, .inr (6, [.ref ad_t_now_memory, .ref ad_t_now_tape, .int (t_nowI 2), .int (t_nowI 3), .int (t_nowI 4), .int (t_nowI 5), .int (t_nowI 6)])), (ad_t_now_tape, .inr (7, [.ref ad_t_now_tape_bytes, .int (t_now_tapeI 1)])), (ad_t_now_tape_bytes, .inl (G.2.1 1, 300, .inl t_now_tape_bytes))] H := eH ▸ hP
  have hS : va_S A s.heap H locs := by rw [eH, eL]; exact hS
  suffices hgo : wG p l e 2 43 s m [.ref ad_t, .int p0, .int p1, .int p2, .int p3, .int p4] below meth cd H locs (eQ G A (fun r w => r = (some (.int o.1)) ∧ w = [(ad_t, .inr (10, [.ref ad_t_now, .ref ad_t_images, .ref ad_t_past, .ref ad_t_wiring, .ref ad_t_form, .ref ad_t_trial, .ref ad_t_reader, .ref ad_t_text])), (ad_t_now, .inr (6, [.ref ad_t_now_memory, .ref ad_t_now_tape, .int (t_nowI 2), .int (t_nowI 3), .int (t_nowI 4), .int (t_nowI 5), .int (t_nowI 6)])), (ad_t_now_tape, .inr (7, [.ref ad_t_now_tape_bytes, .int (o.2.1 1)])), (ad_t_now_tape_bytes, .inl (G.2.1 1, 300, .inl o.2.2))])) A (F0 m 0 ls []) by rw [eH, eL] at hgo; exact hgo
  clear eH eL
  refine lv_aload_n hx hb dX10_feed_0 rfl (lv_at hl 0 rfl) ?_
  refine va_get (D := G.1) (cl := vwCl) (ci := 10) (v := .ref ad_t_now) (C := RX10) (T := TX10) (N := 8) hx hb hts inG10 hown hK hP 0 rfl rfl 0 (Nat.le_of_ble_eq_true rfl) (hts _ q560) (fun _ h9 => h9) rfl dX10_feed_1 ?_
  refine va_get (D := G.1) (cl := vwCl) (ci := 6) (v := .ref ad_t_now_tape) (C := RX6) (T := TX6) (N := 7) hx hb hts inG6 hown hK hP 1 rfl rfl 1 (Nat.le_of_ble_eq_true rfl) (hts _ q220) (fun _ h9 => h9) rfl dX10_feed_4 ?_
  refine lv_astore (lv' := [(6, .ref ad_t_now_tape), (0, .ref ad_t), (1, .int p0), (2, .int p1), (3, .int p2), (4, .int p3), (5, .int p4)]) hx hb dX10_feed_7 hl (by decide) rfl (fun ls hl => ?_)
  refine lv_aload hx hb dX10_feed_9 (lv_at hl 0 rfl) ?_
  refine lv_bipush (v := 20) hx hb dX10_feed_11 (by decide) ?_
  refine kPV (tX7_hasRoom l G ad_t_now_tape ad_t_now_tape_bytes t_now_tapeI (20 : Int32) _ rfl) ⟨hx, hb, hml, hown, hts⟩ q589 q590 q591 q99 q592 okyX7_hasRoom ⟨Nat.le_of_ble_eq_true rfl, Nat.le_of_ble_eq_true rfl⟩ hP hG hS [2] rfl 2 rfl rfl hl.1 rfl (Nat.le_of_ble_eq_true rfl) dX10_feed_13 ⟨Nat.zero_le _, Nat.zero_le _⟩ (fun locs hS => ?_)
  refine W.eq (g2 := F0 m 16 ls [.int (bi (fX7_hasRoom t_now_tapeI (20 : Int32)))]) rfl ?_
  refine lv_if_ne (tgt := 21) hx hb dX10_feed_16 (by decide) (fun c12 => ?_) (fun c12 => ?_)
  · have hf := if_f hf c12
    refine lv_aload hx hb dX10_feed_21 (lv_at hl 0 rfl) ?_
    refine lv_iload_n hx hb dX10_feed_23 rfl (lv_at hl 2 rfl) ?_
    obtain ⟨a13, h14, hf⟩ := bn_some hf
    refine kEV (tX7_append l G ad_t_now_tape ad_t_now_tape_bytes t_now_tapeI t_now_tape_bytes p0 a13 h14) ⟨hx, hb, hml, hown, hts⟩ q593 q594 q595 q99 q596 okyX7_append ⟨Nat.le_of_ble_eq_true rfl, Nat.le_of_ble_eq_true rfl⟩ hP hD hG hS hA [2, 3] [0, 1] rfl (wr := [(ad_t, .inr (10, [.ref ad_t_now, .ref ad_t_images, .ref ad_t_past, .ref ad_t_wiring, .ref ad_t_form, .ref ad_t_trial, .ref ad_t_reader, .ref ad_t_text])), (ad_t_now, .inr (6, [.ref ad_t_now_memory, .ref ad_t_now_tape, .int (t_nowI 2), .int (t_nowI 3), .int (t_nowI 4), .int (t_nowI 5), .int (t_nowI 6)]))]) rfl (by decide) 2 rfl rfl hl.1 rfl (Nat.le_of_ble_eq_true rfl) dX10_feed_24 ⟨Nat.zero_le _, Nat.zero_le _⟩ (fun r w H locs hR hP hD hS => ?_)
    obtain ⟨rfl, rfl⟩ := hR
    have hP : va_P G.1 vwCl [(ad_t, .inr (10, [.ref ad_t_now, .ref ad_t_images, .ref ad_t_past, .ref ad_t_wiring, .ref ad_t_form, .ref ad_t_trial, .ref ad_t_reader, .ref ad_t_text])), (ad_t_now, .inr (6, [.ref ad_t_now_memory, .ref ad_t_now_tape, .int (t_nowI 2), .int (t_nowI 3), .int (t_nowI 4), .int (t_nowI 5), .int (t_nowI 6)])), (ad_t_now_tape, .inr (7, [.ref ad_t_now_tape_bytes, .int (a13.1 1)])), (ad_t_now_tape_bytes, .inl (G.2.1 1, 300, .inl a13.2))] H := hP
    have hD : va_D A [(ad_t, .inr (10, [.ref ad_t_now, .ref ad_t_images, .ref ad_t_past, .ref ad_t_wiring, .ref ad_t_form, .ref ad_t_trial, .ref ad_t_reader, .ref ad_t_text])), (ad_t_now, .inr (6, [.ref ad_t_now_memory, .ref ad_t_now_tape, .int (t_nowI 2), .int (t_nowI 3), .int (t_nowI 4), .int (t_nowI 5), .int (t_nowI 6)])), (ad_t_now_tape, .inr (7, [.ref ad_t_now_tape_bytes, .int (a13.1 1)])), (ad_t_now_tape_bytes, .inl (G.2.1 1, 300, .inl a13.2))] := hD
    refine W.eq (g2 := F0 m 27 ls []) rfl ?_
    refine lv_aload hx hb dX10_feed_27 (lv_at hl 0 rfl) ?_
    refine lv_iload_n hx hb dX10_feed_29 rfl (lv_at hl 3 rfl) ?_
    obtain ⟨a15, h16, hf⟩ := bn_some hf
    refine kEV (tX7_append l G ad_t_now_tape ad_t_now_tape_bytes a13.1 a13.2 p1 a15 h16) ⟨hx, hb, hml, hown, hts⟩ q593 q594 q595 q99 q596 okyX7_append ⟨Nat.le_of_ble_eq_true rfl, Nat.le_of_ble_eq_true rfl⟩ hP hD hG hS hA [2, 3] [0, 1] rfl (wr := [(ad_t, .inr (10, [.ref ad_t_now, .ref ad_t_images, .ref ad_t_past, .ref ad_t_wiring, .ref ad_t_form, .ref ad_t_trial, .ref ad_t_reader, .ref ad_t_text])), (ad_t_now, .inr (6, [.ref ad_t_now_memory, .ref ad_t_now_tape, .int (t_nowI 2), .int (t_nowI 3), .int (t_nowI 4), .int (t_nowI 5), .int (t_nowI 6)]))]) rfl (by decide) 2 rfl rfl hl.1 rfl (Nat.le_of_ble_eq_true rfl) dX10_feed_30 ⟨Nat.zero_le _, Nat.zero_le _⟩ (fun r w H locs hR hP hD hS => ?_)
    obtain ⟨rfl, rfl⟩ := hR
    have hP : va_P G.1 vwCl [(ad_t, .inr (10, [.ref ad_t_now, .ref ad_t_images, .ref ad_t_past, .ref ad_t_wiring, .ref ad_t_form, .ref ad_t_trial, .ref ad_t_reader, .ref ad_t_text])), (ad_t_now, .inr (6, [.ref ad_t_now_memory, .ref ad_t_now_tape, .int (t_nowI 2), .int (t_nowI 3), .int (t_nowI 4), .int (t_nowI 5), .int (t_nowI 6)])), (ad_t_now_tape, .inr (7, [.ref ad_t_now_tape_bytes, .int (a15.1 1)])), (ad_t_now_tape_bytes, .inl (G.2.1 1, 300, .inl a15.2))] H := hP
    have hD : va_D A [(ad_t, .inr (10, [.ref ad_t_now, .ref ad_t_images, .ref ad_t_past, .ref ad_t_wiring, .ref ad_t_form, .ref ad_t_trial, .ref ad_t_reader, .ref ad_t_text])), (ad_t_now, .inr (6, [.ref ad_t_now_memory, .ref ad_t_now_tape, .int (t_nowI 2), .int (t_nowI 3), .int (t_nowI 4), .int (t_nowI 5), .int (t_nowI 6)])), (ad_t_now_tape, .inr (7, [.ref ad_t_now_tape_bytes, .int (a15.1 1)])), (ad_t_now_tape_bytes, .inl (G.2.1 1, 300, .inl a15.2))] := hD
    refine W.eq (g2 := F0 m 33 ls []) rfl ?_
    refine lv_aload hx hb dX10_feed_33 (lv_at hl 0 rfl) ?_
    refine lv_iload_n hx hb dX10_feed_35 rfl (lv_at hl 4 rfl) ?_
    obtain ⟨a17, h18, hf⟩ := bn_some hf
    refine kEV (tX7_append l G ad_t_now_tape ad_t_now_tape_bytes a15.1 a15.2 p2 a17 h18) ⟨hx, hb, hml, hown, hts⟩ q593 q594 q595 q99 q596 okyX7_append ⟨Nat.le_of_ble_eq_true rfl, Nat.le_of_ble_eq_true rfl⟩ hP hD hG hS hA [2, 3] [0, 1] rfl (wr := [(ad_t, .inr (10, [.ref ad_t_now, .ref ad_t_images, .ref ad_t_past, .ref ad_t_wiring, .ref ad_t_form, .ref ad_t_trial, .ref ad_t_reader, .ref ad_t_text])), (ad_t_now, .inr (6, [.ref ad_t_now_memory, .ref ad_t_now_tape, .int (t_nowI 2), .int (t_nowI 3), .int (t_nowI 4), .int (t_nowI 5), .int (t_nowI 6)]))]) rfl (by decide) 2 rfl rfl hl.1 rfl (Nat.le_of_ble_eq_true rfl) dX10_feed_36 ⟨Nat.zero_le _, Nat.zero_le _⟩ (fun r w H locs hR hP hD hS => ?_)
    obtain ⟨rfl, rfl⟩ := hR
    have hP : va_P G.1 vwCl [(ad_t, .inr (10, [.ref ad_t_now, .ref ad_t_images, .ref ad_t_past, .ref ad_t_wiring, .ref ad_t_form, .ref ad_t_trial, .ref ad_t_reader, .ref ad_t_text])), (ad_t_now, .inr (6, [.ref ad_t_now_memory, .ref ad_t_now_tape, .int (t_nowI 2), .int (t_nowI 3), .int (t_nowI 4), .int (t_nowI 5), .int (t_nowI 6)])), (ad_t_now_tape, .inr (7, [.ref ad_t_now_tape_bytes, .int (a17.1 1)])), (ad_t_now_tape_bytes, .inl (G.2.1 1, 300, .inl a17.2))] H := hP
    have hD : va_D A [(ad_t, .inr (10, [.ref ad_t_now, .ref ad_t_images, .ref ad_t_past, .ref ad_t_wiring, .ref ad_t_form, .ref ad_t_trial, .ref ad_t_reader, .ref ad_t_text])), (ad_t_now, .inr (6, [.ref ad_t_now_memory, .ref ad_t_now_tape, .int (t_nowI 2), .int (t_nowI 3), .int (t_nowI 4), .int (t_nowI 5), .int (t_nowI 6)])), (ad_t_now_tape, .inr (7, [.ref ad_t_now_tape_bytes, .int (a17.1 1)])), (ad_t_now_tape_bytes, .inl (G.2.1 1, 300, .inl a17.2))] := hD
    refine W.eq (g2 := F0 m 39 ls []) rfl ?_
    refine lv_aload hx hb dX10_feed_39 (lv_at hl 0 rfl) ?_
    refine lv_iload hx hb dX10_feed_41 (lv_at hl 5 rfl) ?_
    obtain ⟨a19, h20, hf⟩ := bn_some hf
    refine kEV (tX7_append l G ad_t_now_tape ad_t_now_tape_bytes a17.1 a17.2 p3 a19 h20) ⟨hx, hb, hml, hown, hts⟩ q593 q594 q595 q99 q596 okyX7_append ⟨Nat.le_of_ble_eq_true rfl, Nat.le_of_ble_eq_true rfl⟩ hP hD hG hS hA [2, 3] [0, 1] rfl (wr := [(ad_t, .inr (10, [.ref ad_t_now, .ref ad_t_images, .ref ad_t_past, .ref ad_t_wiring, .ref ad_t_form, .ref ad_t_trial, .ref ad_t_reader, .ref ad_t_text])), (ad_t_now, .inr (6, [.ref ad_t_now_memory, .ref ad_t_now_tape, .int (t_nowI 2), .int (t_nowI 3), .int (t_nowI 4), .int (t_nowI 5), .int (t_nowI 6)]))]) rfl (by decide) 2 rfl rfl hl.1 rfl (Nat.le_of_ble_eq_true rfl) dX10_feed_43 ⟨Nat.zero_le _, Nat.zero_le _⟩ (fun r w H locs hR hP hD hS => ?_)
    obtain ⟨rfl, rfl⟩ := hR
    have hP : va_P G.1 vwCl [(ad_t, .inr (10, [.ref ad_t_now, .ref ad_t_images, .ref ad_t_past, .ref ad_t_wiring, .ref ad_t_form, .ref ad_t_trial, .ref ad_t_reader, .ref ad_t_text])), (ad_t_now, .inr (6, [.ref ad_t_now_memory, .ref ad_t_now_tape, .int (t_nowI 2), .int (t_nowI 3), .int (t_nowI 4), .int (t_nowI 5), .int (t_nowI 6)])), (ad_t_now_tape, .inr (7, [.ref ad_t_now_tape_bytes, .int (a19.1 1)])), (ad_t_now_tape_bytes, .inl (G.2.1 1, 300, .inl a19.2))] H := hP
    have hD : va_D A [(ad_t, .inr (10, [.ref ad_t_now, .ref ad_t_images, .ref ad_t_past, .ref ad_t_wiring, .ref ad_t_form, .ref ad_t_trial, .ref ad_t_reader, .ref ad_t_text])), (ad_t_now, .inr (6, [.ref ad_t_now_memory, .ref ad_t_now_tape, .int (t_nowI 2), .int (t_nowI 3), .int (t_nowI 4), .int (t_nowI 5), .int (t_nowI 6)])), (ad_t_now_tape, .inr (7, [.ref ad_t_now_tape_bytes, .int (a19.1 1)])), (ad_t_now_tape_bytes, .inl (G.2.1 1, 300, .inl a19.2))] := hD
    refine W.eq (g2 := F0 m 46 ls []) rfl ?_
    refine lv_aload hx hb dX10_feed_46 (lv_at hl 0 rfl) ?_
    refine lv_iload hx hb dX10_feed_48 (lv_at hl 6 rfl) ?_
    obtain ⟨a21, h22, hf⟩ := bn_some hf
    refine kEV (tX7_append l G ad_t_now_tape ad_t_now_tape_bytes a19.1 a19.2 p4 a21 h22) ⟨hx, hb, hml, hown, hts⟩ q593 q594 q595 q99 q596 okyX7_append ⟨Nat.le_of_ble_eq_true rfl, Nat.le_of_ble_eq_true rfl⟩ hP hD hG hS hA [2, 3] [0, 1] rfl (wr := [(ad_t, .inr (10, [.ref ad_t_now, .ref ad_t_images, .ref ad_t_past, .ref ad_t_wiring, .ref ad_t_form, .ref ad_t_trial, .ref ad_t_reader, .ref ad_t_text])), (ad_t_now, .inr (6, [.ref ad_t_now_memory, .ref ad_t_now_tape, .int (t_nowI 2), .int (t_nowI 3), .int (t_nowI 4), .int (t_nowI 5), .int (t_nowI 6)]))]) rfl (by decide) 2 rfl rfl hl.1 rfl (Nat.le_of_ble_eq_true rfl) dX10_feed_50 ⟨Nat.zero_le _, Nat.zero_le _⟩ (fun r w H locs hR hP hD hS => ?_)
    obtain ⟨rfl, rfl⟩ := hR
    have hP : va_P G.1 vwCl [(ad_t, .inr (10, [.ref ad_t_now, .ref ad_t_images, .ref ad_t_past, .ref ad_t_wiring, .ref ad_t_form, .ref ad_t_trial, .ref ad_t_reader, .ref ad_t_text])), (ad_t_now, .inr (6, [.ref ad_t_now_memory, .ref ad_t_now_tape, .int (t_nowI 2), .int (t_nowI 3), .int (t_nowI 4), .int (t_nowI 5), .int (t_nowI 6)])), (ad_t_now_tape, .inr (7, [.ref ad_t_now_tape_bytes, .int (a21.1 1)])), (ad_t_now_tape_bytes, .inl (G.2.1 1, 300, .inl a21.2))] H := hP
    have hD : va_D A [(ad_t, .inr (10, [.ref ad_t_now, .ref ad_t_images, .ref ad_t_past, .ref ad_t_wiring, .ref ad_t_form, .ref ad_t_trial, .ref ad_t_reader, .ref ad_t_text])), (ad_t_now, .inr (6, [.ref ad_t_now_memory, .ref ad_t_now_tape, .int (t_nowI 2), .int (t_nowI 3), .int (t_nowI 4), .int (t_nowI 5), .int (t_nowI 6)])), (ad_t_now_tape, .inr (7, [.ref ad_t_now_tape_bytes, .int (a21.1 1)])), (ad_t_now_tape_bytes, .inl (G.2.1 1, 300, .inl a21.2))] := hD
    refine W.eq (g2 := F0 m 53 ls []) rfl ?_
    refine lv_aload hx hb dX10_feed_53 (lv_at hl 0 rfl) ?_
    refine va_get (D := G.1) (cl := vwCl) (ci := 7) (v := .int (a21.1 1)) (C := RX7) (T := TX7) (N := 2) hx hb hts inG7 hown hK hP 2 rfl rfl 1 (Nat.le_of_ble_eq_true rfl) (hts _ q209) (fun _ h9 => h9) rfl dX10_feed_55 ?_
    have hf := Option.some.inj hf
    subst hf
    exact eRet hx hb hr hlocks hP hD hS ⟨rfl, rfl⟩ dX10_feed_58
  · have hf := if_t hf c12
    refine lv_iconst (v := -1) hx hb dX10_feed_19 (by decide) ?_
    have hf := Option.some.inj hf
    subst hf
    exact eRet hx hb hr hlocks hP hD hS ⟨rfl, rfl⟩ dX10_feed_20

def fX10_test (t_now_memory_specI : Nat → Int32) (t_now_memory_spec_badBits : Nat → Int32) (t_wiring_repairI : Nat → Int32) (p0 : Int32) : Option (Int32) :=
  bn (fX9_wrong t_wiring_repairI t_now_memory_specI t_now_memory_spec_badBits (if p0 = 0 then (0 : Int32) else (1 : Int32))) fun a1 => some a1
set_option maxRecDepth 100000 in
set_option maxHeartbeats 4000000 in
theorem tX10_test (l : Launch) (G : gG) (ad_t ad_t_now ad_t_images ad_t_past ad_t_wiring ad_t_form ad_t_trial ad_t_reader ad_t_text ad_t_now_memory ad_t_now_tape ad_t_now_memory_spec ad_t_now_memory_words ad_t_now_memory_spares ad_t_now_memory_spec_numbers ad_t_now_memory_spec_badRows ad_t_now_memory_spec_badColumns ad_t_now_memory_spec_badBits ad_t_wiring_repair ad_t_wiring_repair_rows ad_t_wiring_repair_columns ad_t_wiring_repair_candidates ad_t_wiring_repair_left : Nat) (t_nowI : Nat → Int32) (t_now_memory_specI : Nat → Int32) (t_now_memory_spec_badBits : Nat → Int32) (t_wiringI : Nat → Int32) (t_wiring_repairI : Nat → Int32) (p0 : Int32) (o : Int32) (hf : fX10_test t_now_memory_specI t_now_memory_spec_badBits t_wiring_repairI p0 = some o) : mP G l yX10_test cX10_test 2 (some .int) 1 24 [.ref ad_t, .int p0] [(ad_t, .inr (10, [.ref ad_t_now, .ref ad_t_images, .ref ad_t_past, .ref ad_t_wiring, .ref ad_t_form, .ref ad_t_trial, .ref ad_t_reader, .ref ad_t_text])), (ad_t_now, .inr (6, [.ref ad_t_now_memory, .ref ad_t_now_tape, .int (t_nowI 2), .int (t_nowI 3), .int (t_nowI 4), .int (t_nowI 5), .int (t_nowI 6)])), (ad_t_now_memory, .inr (0, [.ref ad_t_now_memory_spec, .ref ad_t_now_memory_words, .ref ad_t_now_memory_spares])), (ad_t_now_memory_spec, .inr (5, [.ref ad_t_now_memory_spec_numbers, .ref ad_t_now_memory_spec_badRows, .ref ad_t_now_memory_spec_badColumns, .ref ad_t_now_memory_spec_badBits, .int (t_now_memory_specI 4)])), (ad_t_now_memory_spec_badBits, .inl (G.2.1 0, 12, .inl t_now_memory_spec_badBits)), (ad_t_wiring, .inr (9, [.ref ad_t_wiring_repair, .int (t_wiringI 1), .int (t_wiringI 2), .int (t_wiringI 3), .int (t_wiringI 4)])), (ad_t_wiring_repair, .inr (3, [.ref ad_t_wiring_repair_rows, .ref ad_t_wiring_repair_columns, .int (t_wiring_repairI 2), .int (t_wiring_repairI 3), .int (t_wiring_repairI 4), .int (t_wiring_repairI 5), .ref ad_t_wiring_repair_candidates, .ref ad_t_wiring_repair_left, .int (t_wiring_repairI 8)]))] (some (.int o)) := by
  refine mP_of (by decide) (Nat.le_of_ble_eq_true rfl) ?_
  intro p e s m below meth cd ls hx hb hml hown hts hr hlocks hl hP hG
  have hK := hG.1
  have hown : s.vm.findClass RX10 = some m.cls := hown
  have hl : lv_has ls 2 [(0, .ref ad_t), (1, .int p0)] := hl
  have hS : va_S no s.heap s.heap [] := va_S.rf
  generalize ([] : List Loc) = locs at hS ⊢
  unfold fX10_test at hf
  show wG p l e 1 24 s m [.ref ad_t, .int p0] below meth cd s.heap locs (pQ (some (.int o))) no (F0 m 0 ls [])
  refine lv_aload_n hx hb dX10_test_0 rfl (lv_at hl 0 rfl) ?_
  refine va_get (D := G.1) (cl := vwCl) (ci := 10) (v := .ref ad_t_wiring) (C := RX10) (T := TX10) (N := 8) hx hb hts inG10 hown hK hP 0 rfl rfl 3 (Nat.le_of_ble_eq_true rfl) (hts _ q563) (fun _ h9 => h9) rfl dX10_test_1 ?_
  refine lv_aload_n hx hb dX10_test_4 rfl (lv_at hl 0 rfl) ?_
  refine va_get (D := G.1) (cl := vwCl) (ci := 10) (v := .ref ad_t_now) (C := RX10) (T := TX10) (N := 8) hx hb hts inG10 hown hK hP 0 rfl rfl 0 (Nat.le_of_ble_eq_true rfl) (hts _ q560) (fun _ h9 => h9) rfl dX10_test_5 ?_
  refine va_get (D := G.1) (cl := vwCl) (ci := 6) (v := .ref ad_t_now_memory) (C := RX6) (T := TX6) (N := 7) hx hb hts inG6 hown hK hP 1 rfl rfl 0 (Nat.le_of_ble_eq_true rfl) (hts _ q218) (fun _ h9 => h9) rfl dX10_test_8 ?_
  refine va_get (D := G.1) (cl := vwCl) (ci := 0) (v := .ref ad_t_now_memory_spec) (C := RX0) (T := TX0) (N := 3) hx hb hts inG0 hown hK hP 2 rfl rfl 0 (Nat.le_of_ble_eq_true rfl) (hts _ q188) (fun _ h9 => h9) rfl dX10_test_11 ?_
  refine lv_iload_n hx hb dX10_test_14 rfl (lv_at hl 1 rfl) ?_
  have J7 : wG p l e 1 24 s m [.ref ad_t, .int p0] below meth cd s.heap locs (pQ (some (.int o))) no (F0 m 23 ls [.int (if p0 = 0 then (0 : Int32) else (1 : Int32)), .ref ad_t_now_memory_spec, .ref ad_t_wiring]) := by
    obtain ⟨a5, h6, hf⟩ := bn_some hf
    refine kPV (tX9_wrong l G ad_t_wiring ad_t_wiring_repair ad_t_wiring_repair_rows ad_t_wiring_repair_columns ad_t_wiring_repair_candidates ad_t_wiring_repair_left ad_t_now_memory_spec ad_t_now_memory_spec_numbers ad_t_now_memory_spec_badRows ad_t_now_memory_spec_badColumns ad_t_now_memory_spec_badBits t_wiringI t_wiring_repairI t_now_memory_specI t_now_memory_spec_badBits (if p0 = 0 then (0 : Int32) else (1 : Int32)) a5 h6) ⟨hx, hb, hml, hown, hts⟩ q904 q905 q906 q101 q907 okyX9_wrong ⟨Nat.le_of_ble_eq_true rfl, Nat.le_of_ble_eq_true rfl⟩ hP hG hS [5, 6, 3, 4] rfl 5 rfl rfl hl.1 rfl (Nat.le_of_ble_eq_true rfl) dX10_test_23 ⟨Nat.zero_le _, Nat.zero_le _⟩ (fun locs hS => ?_)
    refine W.eq (g2 := F0 m 26 ls [.int a5]) rfl ?_
    have hf := Option.some.inj hf
    subst hf
    exact pRet hx hb hr hlocks hS dX10_test_26
  refine lv_if_eq (tgt := 22) hx hb dX10_test_15 (by decide) (fun c8 => ?_) (fun c8 => ?_)
  · refine lv_iconst (v := 0) hx hb dX10_test_22 (by decide) ?_
    exact (mgT c8 J7)
  · refine lv_iconst (v := 1) hx hb dX10_test_18 (by decide) ?_
    refine lv_goto (tgt := 23) hx hb dX10_test_19 (by decide) ?_
    exact (mgF c8 J7)

def fX10_log (p0 : Int32) : Int32 :=
  (fJ6_bitCount_0f7a4 (p0 - (1 : Int32)))
set_option maxRecDepth 100000 in
set_option maxHeartbeats 4000000 in
theorem tX10_log (l : Launch) (G : gG) (p0 : Int32) (o : Int32) (hf : fX10_log p0 = o) : mP G l yX10_log cX10_log 1 (some .int) 1 20 [.int p0] [] (some (.int o)) := by
  refine mP_of (by decide) (Nat.le_of_ble_eq_true rfl) ?_
  intro p e s m below meth cd ls hx hb hml hown hts hr hlocks hl hP hG
  have hK := hG.1
  have hown : s.vm.findClass RX10 = some m.cls := hown
  have hl : lv_has ls 1 [(0, .int p0)] := hl
  have hS : va_S no s.heap s.heap [] := va_S.rf
  generalize ([] : List Loc) = locs at hS ⊢
  unfold fX10_log at hf
  show wG p l e 1 20 s m [.int p0] below meth cd s.heap locs (pQ (some (.int o))) no (F0 m 0 ls [])
  refine lv_iload_n hx hb dX10_log_0 rfl (lv_at hl 0 rfl) ?_
  refine lv_iconst (v := 1) hx hb dX10_log_1 (by decide) ?_
  refine lv_isub hx hb dX10_log_2 ?_
  refine kPS (tJ6_bitCount_0f7a4 l G (p0 - (1 : Int32)) _ rfl) ⟨hx, hb, hml, hown, hts⟩ q489 q490 q106 q491 okyJ6_bitCount_0f7a4 ⟨Nat.le_of_ble_eq_true rfl, Nat.le_of_ble_eq_true rfl⟩ hP hG hS [] rfl hl.1 rfl (Nat.le_of_ble_eq_true rfl) dX10_log_3 ⟨Nat.zero_le _, Nat.zero_le _⟩ (fun locs hS => ?_)
  refine W.eq (g2 := F0 m 6 ls [.int (fJ6_bitCount_0f7a4 (p0 - (1 : Int32)))]) rfl ?_
  subst hf
  exact pRet hx hb hr hlocks hS dX10_log_6

def fX11_needs_l64 (x4 : Int32) (tI : Nat → Int32) (t_newRow : Nat → Int32) : Nat → Int32 → Int32 → Option (Int32)
  | 0, _, _ => none
  | n + 1, x6, x7 =>
    (if (tI 13) ≤ x7 then some x6 else (if x6 = 0 then gd (gi x7 13) ((if (t_newRow x7.toNatClampNeg) = x4 then fX11_needs_l64 x4 tI t_newRow n (1 : Int32) (x7 + (1 : Int32)) else fX11_needs_l64 x4 tI t_newRow n (0 : Int32) (x7 + (1 : Int32)))) else fX11_needs_l64 x4 tI t_newRow n (1 : Int32) (x7 + (1 : Int32))))
def fX11_needs_l117 (x4 : Int32) : Nat → Int32 → (Nat → Int32) → Option (Int32 × (Nat → Int32))
  | 0, _, _ => none
  | n + 1, x7, t_newRow =>
    (if x7 ≤ 0 then some (x7, t_newRow) else gd (gi (x7 - (1 : Int32)) 13) ((if (t_newRow (x7 - (1 : Int32)).toNatClampNeg) ≤ x4 then some (x7, t_newRow) else gd (gi (x7 - (1 : Int32)) 13) (gd (gi x7 13) (fX11_needs_l117 x4 n (x7 + (-1 : Int32)) (upd t_newRow x7.toNatClampNeg (t_newRow (x7 - (1 : Int32)).toNatClampNeg)))))))
def fX11_needs_l7 (x1 : Int32) (x2 : Int32) (t_all : Nat → Int32) : Nat → Int32 → (Nat → Int32) → (Nat → Int32) → Option ((Nat → Int32) × (Nat → Int32))
  | 0, _, _, _ => none
  | n + 1, x3, tI, t_newRow =>
    (if (t_all 9) ≤ x3 then some (tI, t_newRow) else gd (gi (fX11_badAt x3) 43047) (gd (gi ((fX11_badAt x3) + (1 : Int32)) 43047) (bn (fX11_needs_l64 (t_all (fX11_badAt x3).toNatClampNeg) tI t_newRow FU (if (t_all ((fX11_badAt x3) + (1 : Int32)).toNatClampNeg) = x1 then (1 : Int32) else (if (t_all ((fX11_badAt x3) + (1 : Int32)).toNatClampNeg) = x2 then (1 : Int32) else (0 : Int32))) (0 : Int32)) fun y8 => (if y8 = 0 then bn (fX11_needs_l117 (t_all (fX11_badAt x3).toNatClampNeg) FU (tI 13) t_newRow) fun y15 => gd (gi y15.1 13) (fX11_needs_l7 x1 x2 t_all n (x3 + (1 : Int32)) (upd tI 13 ((tI 13) + (1 : Int32))) (upd y15.2 y15.1.toNatClampNeg (t_all (fX11_badAt x3).toNatClampNeg))) else fX11_needs_l7 x1 x2 t_all n (x3 + (1 : Int32)) tI t_newRow))))
def fX11_needs (tI : Nat → Int32) (t_all : Nat → Int32) (t_newRow : Nat → Int32) (p0 : Int32) (p1 : Int32) : Option ((Nat → Int32) × (Nat → Int32)) :=
  bn (fX11_needs_l7 p0 p1 t_all FU (0 : Int32) (upd tI 13 (0 : Int32)) t_newRow) fun y20 => some (y20.1, y20.2)
set_option maxRecDepth 100000 in
set_option maxHeartbeats 4000000 in
theorem tX11_needs (l : Launch) (G : gG) (ad_t ad_t_all ad_t_tape ad_t_isImage ad_t_size ad_t_givenRow ad_t_givenColumn ad_t_newRow ad_t_view : Nat) (tI : Nat → Int32) (t_value : Int64) (t_all : Nat → Int32) (t_newRow : Nat → Int32) (p0 : Int32) (p1 : Int32) (o : (Nat → Int32) × (Nat → Int32)) (hf : fX11_needs tI t_all t_newRow p0 p1 = some o) : mE G l yX11_needs cX11_needs 8 none 2 41 0 0 [.ref ad_t, .int p0, .int p1] [(ad_t, .inr (11, [.ref ad_t_all, .ref ad_t_tape, .ref ad_t_isImage, .int (tI 3), .int (tI 4), .int (tI 5), .int (tI 6), .ref ad_t_size, .ref ad_t_givenRow, .ref ad_t_givenColumn, .ref ad_t_newRow, .int (tI 11), .int (tI 12), .int (tI 13), .int (tI 14), .int (tI 15), .int (tI 16), .int (tI 17), .int (tI 18), .int (tI 19), .ref ad_t_view, .int (tI 21), .int (tI 22), .int (tI 23), .int (tI 24), .int (tI 25), .long t_value, .int (tI 27), .int (tI 28)])), (ad_t_all, .inl (G.2.1 0, 43047, .inl t_all)), (ad_t_newRow, .inl (G.2.1 0, 13, .inl t_newRow))] (fun r w => r = none ∧ w = [(ad_t, .inr (11, [.ref ad_t_all, .ref ad_t_tape, .ref ad_t_isImage, .int (o.1 3), .int (o.1 4), .int (o.1 5), .int (o.1 6), .ref ad_t_size, .ref ad_t_givenRow, .ref ad_t_givenColumn, .ref ad_t_newRow, .int (o.1 11), .int (o.1 12), .int (o.1 13), .int (o.1 14), .int (o.1 15), .int (o.1 16), .int (o.1 17), .int (o.1 18), .int (o.1 19), .ref ad_t_view, .int (o.1 21), .int (o.1 22), .int (o.1 23), .int (o.1 24), .int (o.1 25), .long t_value, .int (o.1 27), .int (o.1 28)])), (ad_t_all, .inl (G.2.1 0, 43047, .inl t_all)), (ad_t_newRow, .inl (G.2.1 0, 13, .inl o.2))]) := by
  refine mE_of (by decide) (Nat.le_of_ble_eq_true rfl) ?_
  intro p e s m below meth cd ls A hx hb hml hown hts hr hlocks hnm hl hA hP hD hS hG
  have hK := hG.1
  have hown : s.vm.findClass RX11 = some m.cls := hown
  have hl : lv_has ls 8 [(0, .ref ad_t), (1, .int p0), (2, .int p1)] := hl
  have hS := hS
  unfold fX11_needs at hf
  obtain ⟨H, locs, eH, eL⟩ : ∃ (H : Heap) (locs : List Loc), H = s.heap ∧ locs = [] := ⟨_, _, rfl, rfl⟩
  have hP : va_P G.1 vwCl [(ad_t, .inr (11, [.ref ad_t_all, .ref ad_t_tape, .ref ad_t_isImage, .int (tI 3), .int (tI 4), .int (tI 5), .int (tI 6), .ref ad_t_size, .ref ad_t_givenRow, .ref ad_t_givenColumn, .ref ad_t_newRow, .int (tI 11), .int (tI 12), .int (tI 13), .int (tI 14), .int (tI 15), .int (tI 16), .int (tI 17), .int (tI 18), .int (tI 19), .ref ad_t_view, .int (tI 21), .int (tI 22), .int (tI 23), .int (tI 24), .int (tI 25), .long t_value, .int (tI 27), .int (tI 28)])), (ad_t_all, .inl (G.2.1 0, 43047, .inl t_all)), (ad_t_newRow, .inl (G.2.1 0, 13, .inl t_newRow))] H := eH ▸ hP
  have hS : va_S A s.heap H locs := by rw [eH, eL]; exact hS
  suffices hgo : wG p l e 2 41 s m [.ref ad_t, .int p0, .int p1] below meth cd H locs (eQ G A (fun r w => r = none ∧ w = [(ad_t, .inr (11, [.ref ad_t_all, .ref ad_t_tape, .ref ad_t_isImage, .int (o.1 3), .int (o.1 4), .int (o.1 5), .int (o.1 6), .ref ad_t_size, .ref ad_t_givenRow, .ref ad_t_givenColumn, .ref ad_t_newRow, .int (o.1 11), .int (o.1 12), .int (o.1 13), .int (o.1 14), .int (o.1 15), .int (o.1 16), .int (o.1 17), .int (o.1 18), .int (o.1 19), .ref ad_t_view, .int (o.1 21), .int (o.1 22), .int (o.1 23), .int (o.1 24), .int (o.1 25), .long t_value, .int (o.1 27), .int (o.1 28)])), (ad_t_all, .inl (G.2.1 0, 43047, .inl t_all)), (ad_t_newRow, .inl (G.2.1 0, 13, .inl o.2))])) A (F0 m 0 ls []) by rw [eH, eL] at hgo; exact hgo
  clear eH eL
  refine lv_aload_n hx hb dX11_needs_0 rfl (lv_at hl 0 rfl) ?_
  refine lv_iconst (v := 0) hx hb dX11_needs_1 (by decide) ?_
  refine va_put (D := G.1) (cl := vwCl) (ci := 11) (v := .int (0 : Int32)) (ty := .int) (C := RX11) (T := TX11) (N := 29) hx hb hts inG11 tyX11 tyX11_ok nmX11 hown hK hP hD hS 0 rfl rfl 13 (Nat.le_of_ble_eq_true rfl) (hts _ q1054) (fun _ h9 => h9) rfl (tyX11_ok 13 (Nat.le_of_ble_eq_true rfl)) rfl rfl (Nat.le_of_ble_eq_true rfl) dX11_needs_2 (fun H locs hP hD hS => ?_)
  have hP : va_P G.1 vwCl [(ad_t, .inr (11, [.ref ad_t_all, .ref ad_t_tape, .ref ad_t_isImage, .int (tI 3), .int (tI 4), .int (tI 5), .int (tI 6), .ref ad_t_size, .ref ad_t_givenRow, .ref ad_t_givenColumn, .ref ad_t_newRow, .int (tI 11), .int (tI 12), .int (0 : Int32), .int (tI 14), .int (tI 15), .int (tI 16), .int (tI 17), .int (tI 18), .int (tI 19), .ref ad_t_view, .int (tI 21), .int (tI 22), .int (tI 23), .int (tI 24), .int (tI 25), .long t_value, .int (tI 27), .int (tI 28)])), (ad_t_all, .inl (G.2.1 0, 43047, .inl t_all)), (ad_t_newRow, .inl (G.2.1 0, 13, .inl t_newRow))] H := hP
  have hD : va_D A [(ad_t, .inr (11, [.ref ad_t_all, .ref ad_t_tape, .ref ad_t_isImage, .int (tI 3), .int (tI 4), .int (tI 5), .int (tI 6), .ref ad_t_size, .ref ad_t_givenRow, .ref ad_t_givenColumn, .ref ad_t_newRow, .int (tI 11), .int (tI 12), .int (0 : Int32), .int (tI 14), .int (tI 15), .int (tI 16), .int (tI 17), .int (tI 18), .int (tI 19), .ref ad_t_view, .int (tI 21), .int (tI 22), .int (tI 23), .int (tI 24), .int (tI 25), .long t_value, .int (tI 27), .int (tI 28)])), (ad_t_all, .inl (G.2.1 0, 43047, .inl t_all)), (ad_t_newRow, .inl (G.2.1 0, 13, .inl t_newRow))] := hD
  refine lv_iconst (v := 0) hx hb dX11_needs_5 (by decide) ?_
  refine lv_istore_n (lv' := [(3, .int (0 : Int32)), (0, .ref ad_t), (1, .int p0), (2, .int p1)]) hx hb dX11_needs_6 rfl hl (by decide) rfl (fun ls hl => ?_)
  obtain ⟨y21, hLy21, hky21⟩ := bn_some hf
  have Ey21 : ∀  (H : Heap) (locs : List Loc) (ls : Array Slot), lv_has ls 8 [] → va_P G.1 vwCl [(ad_t, .inr (11, [.ref ad_t_all, .ref ad_t_tape, .ref ad_t_isImage, .int (y21.1 3), .int (y21.1 4), .int (y21.1 5), .int (y21.1 6), .ref ad_t_size, .ref ad_t_givenRow, .ref ad_t_givenColumn, .ref ad_t_newRow, .int (y21.1 11), .int (y21.1 12), .int (y21.1 13), .int (y21.1 14), .int (y21.1 15), .int (y21.1 16), .int (y21.1 17), .int (y21.1 18), .int (y21.1 19), .ref ad_t_view, .int (y21.1 21), .int (y21.1 22), .int (y21.1 23), .int (y21.1 24), .int (y21.1 25), .long t_value, .int (y21.1 27), .int (y21.1 28)])), (ad_t_all, .inl (G.2.1 0, 43047, .inl t_all)), (ad_t_newRow, .inl (G.2.1 0, 13, .inl y21.2))] H → va_D A [(ad_t, .inr (11, [.ref ad_t_all, .ref ad_t_tape, .ref ad_t_isImage, .int (y21.1 3), .int (y21.1 4), .int (y21.1 5), .int (y21.1 6), .ref ad_t_size, .ref ad_t_givenRow, .ref ad_t_givenColumn, .ref ad_t_newRow, .int (y21.1 11), .int (y21.1 12), .int (y21.1 13), .int (y21.1 14), .int (y21.1 15), .int (y21.1 16), .int (y21.1 17), .int (y21.1 18), .int (y21.1 19), .ref ad_t_view, .int (y21.1 21), .int (y21.1 22), .int (y21.1 23), .int (y21.1 24), .int (y21.1 25), .long t_value, .int (y21.1 27), .int (y21.1 28)])), (ad_t_all, .inl (G.2.1 0, 43047, .inl t_all)), (ad_t_newRow, .inl (G.2.1 0, 13, .inl y21.2))] → va_S A s.heap H locs → wG p l e 2 41 s m [.ref ad_t, .int p0, .int p1] below meth cd H locs (eQ G A (fun r w => r = none ∧ w = [(ad_t, .inr (11, [.ref ad_t_all, .ref ad_t_tape, .ref ad_t_isImage, .int (o.1 3), .int (o.1 4), .int (o.1 5), .int (o.1 6), .ref ad_t_size, .ref ad_t_givenRow, .ref ad_t_givenColumn, .ref ad_t_newRow, .int (o.1 11), .int (o.1 12), .int (o.1 13), .int (o.1 14), .int (o.1 15), .int (o.1 16), .int (o.1 17), .int (o.1 18), .int (o.1 19), .ref ad_t_view, .int (o.1 21), .int (o.1 22), .int (o.1 23), .int (o.1 24), .int (o.1 25), .long t_value, .int (o.1 27), .int (o.1 28)])), (ad_t_all, .inl (G.2.1 0, 43047, .inl t_all)), (ad_t_newRow, .inl (G.2.1 0, 13, .inl o.2))])) A (F0 m 183 ls []) := by
    intro  H locs ls hl hP hD hS
    have hf := hky21
    have hf := Option.some.inj hf
    subst hf
    exact eRetV hx hb hr hlocks hP hD hS ⟨rfl, rfl⟩ dX11_needs_183
  have Ly21 : ∀ (n : Nat), ∀ (x22 : Int32) (g23 : Nat → Int32) (g24 : Nat → Int32) (H : Heap) (locs : List Loc) (ls : Array Slot), lv_has ls 8 [(3, .int x22), (0, .ref ad_t), (1, .int p0), (2, .int p1)] → va_P G.1 vwCl [(ad_t, .inr (11, [.ref ad_t_all, .ref ad_t_tape, .ref ad_t_isImage, .int (g23 3), .int (g23 4), .int (g23 5), .int (g23 6), .ref ad_t_size, .ref ad_t_givenRow, .ref ad_t_givenColumn, .ref ad_t_newRow, .int (g23 11), .int (g23 12), .int (g23 13), .int (g23 14), .int (g23 15), .int (g23 16), .int (g23 17), .int (g23 18), .int (g23 19), .ref ad_t_view, .int (g23 21), .int (g23 22), .int (g23 23), .int (g23 24), .int (g23 25), .long t_value, .int (g23 27), .int (g23 28)])), (ad_t_all, .inl (G.2.1 0, 43047, .inl t_all)), (ad_t_newRow, .inl (G.2.1 0, 13, .inl g24))] H → va_D A [(ad_t, .inr (11, [.ref ad_t_all, .ref ad_t_tape, .ref ad_t_isImage, .int (g23 3), .int (g23 4), .int (g23 5), .int (g23 6), .ref ad_t_size, .ref ad_t_givenRow, .ref ad_t_givenColumn, .ref ad_t_newRow, .int (g23 11), .int (g23 12), .int (g23 13), .int (g23 14), .int (g23 15), .int (g23 16), .int (g23 17), .int (g23 18), .int (g23 19), .ref ad_t_view, .int (g23 21), .int (g23 22), .int (g23 23), .int (g23 24), .int (g23 25), .long t_value, .int (g23 27), .int (g23 28)])), (ad_t_all, .inl (G.2.1 0, 43047, .inl t_all)), (ad_t_newRow, .inl (G.2.1 0, 13, .inl g24))] → va_S A s.heap H locs → fX11_needs_l7 p0 p1 t_all n x22 g23 g24 = some y21 → wG p l e 2 41 s m [.ref ad_t, .int p0, .int p1] below meth cd H locs (eQ G A (fun r w => r = none ∧ w = [(ad_t, .inr (11, [.ref ad_t_all, .ref ad_t_tape, .ref ad_t_isImage, .int (o.1 3), .int (o.1 4), .int (o.1 5), .int (o.1 6), .ref ad_t_size, .ref ad_t_givenRow, .ref ad_t_givenColumn, .ref ad_t_newRow, .int (o.1 11), .int (o.1 12), .int (o.1 13), .int (o.1 14), .int (o.1 15), .int (o.1 16), .int (o.1 17), .int (o.1 18), .int (o.1 19), .ref ad_t_view, .int (o.1 21), .int (o.1 22), .int (o.1 23), .int (o.1 24), .int (o.1 25), .long t_value, .int (o.1 27), .int (o.1 28)])), (ad_t_all, .inl (G.2.1 0, 43047, .inl t_all)), (ad_t_newRow, .inl (G.2.1 0, 13, .inl o.2))])) A (F0 m 7 ls []) := by
    intro n
    induction n with
    | zero =>
      intro x22 g23 g24 H locs ls hl hP hD hS hf
      rw [fX11_needs_l7] at hf
      cases hf
    | succ n ih =>
      intro x22 g23 g24 H locs ls hl hP hD hS hf
      rw [fX11_needs_l7] at hf
      refine lv_iload_n hx hb dX11_needs_7 rfl (lv_at hl 0 rfl) ?_
      refine lv_aload_n hx hb dX11_needs_8 rfl (lv_at hl 1 rfl) ?_
      refine va_get (D := G.1) (cl := vwCl) (ci := 11) (v := .ref ad_t_all) (C := RX11) (T := TX11) (N := 29) hx hb hts inG11 hown hK hP 0 rfl rfl 0 (Nat.le_of_ble_eq_true rfl) (hts _ q1041) (fun _ h9 => h9) rfl dX11_needs_9 ?_
      refine lv_bipush (v := 9) hx hb dX11_needs_12 (by decide) ?_
      refine va_iald (D := G.1) (cl := vwCl) hx hb hK hP 1 0 rfl rfl (vin (by decide)) dX11_needs_14 ?_
      refine lv_ti (v := (t_all 9)) (congrArg (t_all) (tn 9)) ?_
      refine lv_icmp_ge (tgt := 183) hx hb dX11_needs_15 (by decide) (fun c25 => ?_) (fun c25 => ?_)
      · have hf := if_t hf c25
        have hf := Option.some.inj hf
        subst hf
        exact Ey21  H locs ls (lv_sub hl [] rfl) hP hD hS 
      · have hf := if_f hf c25
        refine lv_aload_n hx hb dX11_needs_18 rfl (lv_at hl 1 rfl) ?_
        refine va_get (D := G.1) (cl := vwCl) (ci := 11) (v := .ref ad_t_all) (C := RX11) (T := TX11) (N := 29) hx hb hts inG11 hown hK hP 0 rfl rfl 0 (Nat.le_of_ble_eq_true rfl) (hts _ q1041) (fun _ h9 => h9) rfl dX11_needs_19 ?_
        refine lv_iload_n hx hb dX11_needs_22 rfl (lv_at hl 0 rfl) ?_
        refine kPS (tX11_badAt l G x22 _ rfl) ⟨hx, hb, hml, hown, hts⟩ q1287 q1288 q108 q1289 okyX11_badAt ⟨Nat.le_of_ble_eq_true rfl, Nat.le_of_ble_eq_true rfl⟩ hP hG hS [] rfl hl.1 rfl (Nat.le_of_ble_eq_true rfl) dX11_needs_23 ⟨Nat.zero_le _, Nat.zero_le _⟩ (fun locs hS => ?_)
        refine W.eq (g2 := F0 m 26 ls [.int (fX11_badAt x22), .ref ad_t_all]) rfl ?_
        obtain ⟨h26, hf⟩ := gd_some hf
        refine va_iald (D := G.1) (cl := vwCl) hx hb hK hP 1 0 rfl rfl (gi_in h26) dX11_needs_26 ?_
        refine lv_istore (lv' := [(4, .int (t_all (fX11_badAt x22).toNatClampNeg)), (3, .int x22), (0, .ref ad_t), (1, .int p0), (2, .int p1)]) hx hb dX11_needs_27 hl (by decide) rfl (fun ls hl => ?_)
        refine lv_aload_n hx hb dX11_needs_29 rfl (lv_at hl 2 rfl) ?_
        refine va_get (D := G.1) (cl := vwCl) (ci := 11) (v := .ref ad_t_all) (C := RX11) (T := TX11) (N := 29) hx hb hts inG11 hown hK hP 0 rfl rfl 0 (Nat.le_of_ble_eq_true rfl) (hts _ q1041) (fun _ h9 => h9) rfl dX11_needs_30 ?_
        refine lv_iload_n hx hb dX11_needs_33 rfl (lv_at hl 1 rfl) ?_
        refine kPS (tX11_badAt l G x22 _ rfl) ⟨hx, hb, hml, hown, hts⟩ q1287 q1288 q108 q1289 okyX11_badAt ⟨Nat.le_of_ble_eq_true rfl, Nat.le_of_ble_eq_true rfl⟩ hP hG hS [] rfl hl.1 rfl (Nat.le_of_ble_eq_true rfl) dX11_needs_34 ⟨Nat.zero_le _, Nat.zero_le _⟩ (fun locs hS => ?_)
        refine W.eq (g2 := F0 m 37 ls [.int (fX11_badAt x22), .ref ad_t_all]) rfl ?_
        refine lv_iconst (v := 1) hx hb dX11_needs_37 (by decide) ?_
        refine lv_iadd hx hb dX11_needs_38 ?_
        obtain ⟨h27, hf⟩ := gd_some hf
        refine va_iald (D := G.1) (cl := vwCl) hx hb hK hP 1 0 rfl rfl (gi_in h27) dX11_needs_39 ?_
        refine lv_istore (lv' := [(5, .int (t_all ((fX11_badAt x22) + (1 : Int32)).toNatClampNeg)), (4, .int (t_all (fX11_badAt x22).toNatClampNeg)), (3, .int x22), (0, .ref ad_t), (1, .int p0), (2, .int p1)]) hx hb dX11_needs_40 hl (by decide) rfl (fun ls hl => ?_)
        refine lv_iload hx hb dX11_needs_42 (lv_at hl 0 rfl) ?_
        refine lv_iload_n hx hb dX11_needs_44 rfl (lv_at hl 4 rfl) ?_
        have J45 : wG p l e 2 41 s m [.ref ad_t, .int p0, .int p1] below meth cd H locs (eQ G A (fun r w => r = none ∧ w = [(ad_t, .inr (11, [.ref ad_t_all, .ref ad_t_tape, .ref ad_t_isImage, .int (o.1 3), .int (o.1 4), .int (o.1 5), .int (o.1 6), .ref ad_t_size, .ref ad_t_givenRow, .ref ad_t_givenColumn, .ref ad_t_newRow, .int (o.1 11), .int (o.1 12), .int (o.1 13), .int (o.1 14), .int (o.1 15), .int (o.1 16), .int (o.1 17), .int (o.1 18), .int (o.1 19), .ref ad_t_view, .int (o.1 21), .int (o.1 22), .int (o.1 23), .int (o.1 24), .int (o.1 25), .long t_value, .int (o.1 27), .int (o.1 28)])), (ad_t_all, .inl (G.2.1 0, 43047, .inl t_all)), (ad_t_newRow, .inl (G.2.1 0, 13, .inl o.2))])) A (F0 m 59 ls [.int (if (t_all ((fX11_badAt x22) + (1 : Int32)).toNatClampNeg) = p0 then (1 : Int32) else (if (t_all ((fX11_badAt x22) + (1 : Int32)).toNatClampNeg) = p1 then (1 : Int32) else (0 : Int32)))]) := by
          refine lv_istore (lv' := [(6, .int (if (t_all ((fX11_badAt x22) + (1 : Int32)).toNatClampNeg) = p0 then (1 : Int32) else (if (t_all ((fX11_badAt x22) + (1 : Int32)).toNatClampNeg) = p1 then (1 : Int32) else (0 : Int32)))), (5, .int (t_all ((fX11_badAt x22) + (1 : Int32)).toNatClampNeg)), (4, .int (t_all (fX11_badAt x22).toNatClampNeg)), (3, .int x22), (0, .ref ad_t), (1, .int p0), (2, .int p1)]) hx hb dX11_needs_59 hl (by decide) rfl (fun ls hl => ?_)
          refine lv_iconst (v := 0) hx hb dX11_needs_61 (by decide) ?_
          refine lv_istore (lv' := [(7, .int (0 : Int32)), (6, .int (if (t_all ((fX11_badAt x22) + (1 : Int32)).toNatClampNeg) = p0 then (1 : Int32) else (if (t_all ((fX11_badAt x22) + (1 : Int32)).toNatClampNeg) = p1 then (1 : Int32) else (0 : Int32)))), (5, .int (t_all ((fX11_badAt x22) + (1 : Int32)).toNatClampNeg)), (4, .int (t_all (fX11_badAt x22).toNatClampNeg)), (3, .int x22), (0, .ref ad_t), (1, .int p0), (2, .int p1)]) hx hb dX11_needs_62 hl (by decide) rfl (fun ls hl => ?_)
          obtain ⟨y28, hLy28, hky28⟩ := bn_some hf
          have Ey28 : ∀  (H : Heap) (locs : List Loc) (ls : Array Slot), lv_has ls 8 [(6, .int y28), (4, .int (t_all (fX11_badAt x22).toNatClampNeg)), (3, .int x22), (0, .ref ad_t), (1, .int p0), (2, .int p1)] → va_P G.1 vwCl [(ad_t, .inr (11, [.ref ad_t_all, .ref ad_t_tape, .ref ad_t_isImage, .int (g23 3), .int (g23 4), .int (g23 5), .int (g23 6), .ref ad_t_size, .ref ad_t_givenRow, .ref ad_t_givenColumn, .ref ad_t_newRow, .int (g23 11), .int (g23 12), .int (g23 13), .int (g23 14), .int (g23 15), .int (g23 16), .int (g23 17), .int (g23 18), .int (g23 19), .ref ad_t_view, .int (g23 21), .int (g23 22), .int (g23 23), .int (g23 24), .int (g23 25), .long t_value, .int (g23 27), .int (g23 28)])), (ad_t_all, .inl (G.2.1 0, 43047, .inl t_all)), (ad_t_newRow, .inl (G.2.1 0, 13, .inl g24))] H → va_D A [(ad_t, .inr (11, [.ref ad_t_all, .ref ad_t_tape, .ref ad_t_isImage, .int (g23 3), .int (g23 4), .int (g23 5), .int (g23 6), .ref ad_t_size, .ref ad_t_givenRow, .ref ad_t_givenColumn, .ref ad_t_newRow, .int (g23 11), .int (g23 12), .int (g23 13), .int (g23 14), .int (g23 15), .int (g23 16), .int (g23 17), .int (g23 18), .int (g23 19), .ref ad_t_view, .int (g23 21), .int (g23 22), .int (g23 23), .int (g23 24), .int (g23 25), .long t_value, .int (g23 27), .int (g23 28)])), (ad_t_all, .inl (G.2.1 0, 43047, .inl t_all)), (ad_t_newRow, .inl (G.2.1 0, 13, .inl g24))] → va_S A s.heap H locs → wG p l e 2 41 s m [.ref ad_t, .int p0, .int p1] below meth cd H locs (eQ G A (fun r w => r = none ∧ w = [(ad_t, .inr (11, [.ref ad_t_all, .ref ad_t_tape, .ref ad_t_isImage, .int (o.1 3), .int (o.1 4), .int (o.1 5), .int (o.1 6), .ref ad_t_size, .ref ad_t_givenRow, .ref ad_t_givenColumn, .ref ad_t_newRow, .int (o.1 11), .int (o.1 12), .int (o.1 13), .int (o.1 14), .int (o.1 15), .int (o.1 16), .int (o.1 17), .int (o.1 18), .int (o.1 19), .ref ad_t_view, .int (o.1 21), .int (o.1 22), .int (o.1 23), .int (o.1 24), .int (o.1 25), .long t_value, .int (o.1 27), .int (o.1 28)])), (ad_t_all, .inl (G.2.1 0, 43047, .inl t_all)), (ad_t_newRow, .inl (G.2.1 0, 13, .inl o.2))])) A (F0 m 103 ls []) := by
            intro  H locs ls hl hP hD hS
            have hf := hky28
            refine lv_iload hx hb dX11_needs_103 (lv_at hl 0 rfl) ?_
            refine lv_if_eq (tgt := 111) hx hb dX11_needs_105 (by decide) (fun c29 => ?_) (fun c29 => ?_)
            · have hf := if_t hf c29
              refine lv_aload_n hx hb dX11_needs_111 rfl (lv_at hl 3 rfl) ?_
              refine va_get (D := G.1) (cl := vwCl) (ci := 11) (v := .int (g23 13)) (C := RX11) (T := TX11) (N := 29) hx hb hts inG11 hown hK hP 0 rfl rfl 13 (Nat.le_of_ble_eq_true rfl) (hts _ q1054) (fun _ h9 => h9) rfl dX11_needs_112 ?_
              refine lv_istore (lv' := [(7, .int (g23 13)), (6, .int y28), (4, .int (t_all (fX11_badAt x22).toNatClampNeg)), (3, .int x22), (0, .ref ad_t), (1, .int p0), (2, .int p1)]) hx hb dX11_needs_115 hl (by decide) rfl (fun ls hl => ?_)
              obtain ⟨y30, hLy30, hky30⟩ := bn_some hf
              have Ey30 : ∀  (H : Heap) (locs : List Loc) (ls : Array Slot), lv_has ls 8 [(7, .int y30.1), (4, .int (t_all (fX11_badAt x22).toNatClampNeg)), (3, .int x22), (0, .ref ad_t), (1, .int p0), (2, .int p1)] → va_P G.1 vwCl [(ad_t, .inr (11, [.ref ad_t_all, .ref ad_t_tape, .ref ad_t_isImage, .int (g23 3), .int (g23 4), .int (g23 5), .int (g23 6), .ref ad_t_size, .ref ad_t_givenRow, .ref ad_t_givenColumn, .ref ad_t_newRow, .int (g23 11), .int (g23 12), .int (g23 13), .int (g23 14), .int (g23 15), .int (g23 16), .int (g23 17), .int (g23 18), .int (g23 19), .ref ad_t_view, .int (g23 21), .int (g23 22), .int (g23 23), .int (g23 24), .int (g23 25), .long t_value, .int (g23 27), .int (g23 28)])), (ad_t_all, .inl (G.2.1 0, 43047, .inl t_all)), (ad_t_newRow, .inl (G.2.1 0, 13, .inl y30.2))] H → va_D A [(ad_t, .inr (11, [.ref ad_t_all, .ref ad_t_tape, .ref ad_t_isImage, .int (g23 3), .int (g23 4), .int (g23 5), .int (g23 6), .ref ad_t_size, .ref ad_t_givenRow, .ref ad_t_givenColumn, .ref ad_t_newRow, .int (g23 11), .int (g23 12), .int (g23 13), .int (g23 14), .int (g23 15), .int (g23 16), .int (g23 17), .int (g23 18), .int (g23 19), .ref ad_t_view, .int (g23 21), .int (g23 22), .int (g23 23), .int (g23 24), .int (g23 25), .long t_value, .int (g23 27), .int (g23 28)])), (ad_t_all, .inl (G.2.1 0, 43047, .inl t_all)), (ad_t_newRow, .inl (G.2.1 0, 13, .inl y30.2))] → va_S A s.heap H locs → wG p l e 2 41 s m [.ref ad_t, .int p0, .int p1] below meth cd H locs (eQ G A (fun r w => r = none ∧ w = [(ad_t, .inr (11, [.ref ad_t_all, .ref ad_t_tape, .ref ad_t_isImage, .int (o.1 3), .int (o.1 4), .int (o.1 5), .int (o.1 6), .ref ad_t_size, .ref ad_t_givenRow, .ref ad_t_givenColumn, .ref ad_t_newRow, .int (o.1 11), .int (o.1 12), .int (o.1 13), .int (o.1 14), .int (o.1 15), .int (o.1 16), .int (o.1 17), .int (o.1 18), .int (o.1 19), .ref ad_t_view, .int (o.1 21), .int (o.1 22), .int (o.1 23), .int (o.1 24), .int (o.1 25), .long t_value, .int (o.1 27), .int (o.1 28)])), (ad_t_all, .inl (G.2.1 0, 43047, .inl t_all)), (ad_t_newRow, .inl (G.2.1 0, 13, .inl o.2))])) A (F0 m 158 ls []) := by
                intro  H locs ls hl hP hD hS
                have hf := hky30
                refine lv_aload_n hx hb dX11_needs_158 rfl (lv_at hl 3 rfl) ?_
                refine va_get (D := G.1) (cl := vwCl) (ci := 11) (v := .ref ad_t_newRow) (C := RX11) (T := TX11) (N := 29) hx hb hts inG11 hown hK hP 0 rfl rfl 10 (Nat.le_of_ble_eq_true rfl) (hts _ q1051) (fun _ h9 => h9) rfl dX11_needs_159 ?_
                refine lv_iload hx hb dX11_needs_162 (lv_at hl 0 rfl) ?_
                refine lv_iload hx hb dX11_needs_164 (lv_at hl 1 rfl) ?_
                obtain ⟨h31, hf⟩ := gd_some hf
                refine va_iast (D := G.1) (cl := vwCl) hx hb hK hP hD hS 2 0 rfl rfl (gi_in h31) dX11_needs_166 (fun H locs hP hD hS => ?_)
                have hP : va_P G.1 vwCl [(ad_t, .inr (11, [.ref ad_t_all, .ref ad_t_tape, .ref ad_t_isImage, .int (g23 3), .int (g23 4), .int (g23 5), .int (g23 6), .ref ad_t_size, .ref ad_t_givenRow, .ref ad_t_givenColumn, .ref ad_t_newRow, .int (g23 11), .int (g23 12), .int (g23 13), .int (g23 14), .int (g23 15), .int (g23 16), .int (g23 17), .int (g23 18), .int (g23 19), .ref ad_t_view, .int (g23 21), .int (g23 22), .int (g23 23), .int (g23 24), .int (g23 25), .long t_value, .int (g23 27), .int (g23 28)])), (ad_t_all, .inl (G.2.1 0, 43047, .inl t_all)), (ad_t_newRow, .inl (G.2.1 0, 13, .inl (upd y30.2 y30.1.toNatClampNeg (t_all (fX11_badAt x22).toNatClampNeg))))] H := hP
                have hD : va_D A [(ad_t, .inr (11, [.ref ad_t_all, .ref ad_t_tape, .ref ad_t_isImage, .int (g23 3), .int (g23 4), .int (g23 5), .int (g23 6), .ref ad_t_size, .ref ad_t_givenRow, .ref ad_t_givenColumn, .ref ad_t_newRow, .int (g23 11), .int (g23 12), .int (g23 13), .int (g23 14), .int (g23 15), .int (g23 16), .int (g23 17), .int (g23 18), .int (g23 19), .ref ad_t_view, .int (g23 21), .int (g23 22), .int (g23 23), .int (g23 24), .int (g23 25), .long t_value, .int (g23 27), .int (g23 28)])), (ad_t_all, .inl (G.2.1 0, 43047, .inl t_all)), (ad_t_newRow, .inl (G.2.1 0, 13, .inl (upd y30.2 y30.1.toNatClampNeg (t_all (fX11_badAt x22).toNatClampNeg))))] := hD
                refine lv_aload_n hx hb dX11_needs_167 rfl (lv_at hl 3 rfl) ?_
                refine lv_dup hx hb dX11_needs_168 rfl ?_
                refine va_get (D := G.1) (cl := vwCl) (ci := 11) (v := .int (g23 13)) (C := RX11) (T := TX11) (N := 29) hx hb hts inG11 hown hK hP 0 rfl rfl 13 (Nat.le_of_ble_eq_true rfl) (hts _ q1054) (fun _ h9 => h9) rfl dX11_needs_169 ?_
                refine lv_iconst (v := 1) hx hb dX11_needs_172 (by decide) ?_
                refine lv_iadd hx hb dX11_needs_173 ?_
                refine va_put (D := G.1) (cl := vwCl) (ci := 11) (v := .int ((g23 13) + (1 : Int32))) (ty := .int) (C := RX11) (T := TX11) (N := 29) hx hb hts inG11 tyX11 tyX11_ok nmX11 hown hK hP hD hS 0 rfl rfl 13 (Nat.le_of_ble_eq_true rfl) (hts _ q1054) (fun _ h9 => h9) rfl (tyX11_ok 13 (Nat.le_of_ble_eq_true rfl)) rfl rfl (Nat.le_of_ble_eq_true rfl) dX11_needs_174 (fun H locs hP hD hS => ?_)
                have hP : va_P G.1 vwCl [(ad_t, .inr (11, [.ref ad_t_all, .ref ad_t_tape, .ref ad_t_isImage, .int (g23 3), .int (g23 4), .int (g23 5), .int (g23 6), .ref ad_t_size, .ref ad_t_givenRow, .ref ad_t_givenColumn, .ref ad_t_newRow, .int (g23 11), .int (g23 12), .int ((g23 13) + (1 : Int32)), .int (g23 14), .int (g23 15), .int (g23 16), .int (g23 17), .int (g23 18), .int (g23 19), .ref ad_t_view, .int (g23 21), .int (g23 22), .int (g23 23), .int (g23 24), .int (g23 25), .long t_value, .int (g23 27), .int (g23 28)])), (ad_t_all, .inl (G.2.1 0, 43047, .inl t_all)), (ad_t_newRow, .inl (G.2.1 0, 13, .inl (upd y30.2 y30.1.toNatClampNeg (t_all (fX11_badAt x22).toNatClampNeg))))] H := hP
                have hD : va_D A [(ad_t, .inr (11, [.ref ad_t_all, .ref ad_t_tape, .ref ad_t_isImage, .int (g23 3), .int (g23 4), .int (g23 5), .int (g23 6), .ref ad_t_size, .ref ad_t_givenRow, .ref ad_t_givenColumn, .ref ad_t_newRow, .int (g23 11), .int (g23 12), .int ((g23 13) + (1 : Int32)), .int (g23 14), .int (g23 15), .int (g23 16), .int (g23 17), .int (g23 18), .int (g23 19), .ref ad_t_view, .int (g23 21), .int (g23 22), .int (g23 23), .int (g23 24), .int (g23 25), .long t_value, .int (g23 27), .int (g23 28)])), (ad_t_all, .inl (G.2.1 0, 43047, .inl t_all)), (ad_t_newRow, .inl (G.2.1 0, 13, .inl (upd y30.2 y30.1.toNatClampNeg (t_all (fX11_badAt x22).toNatClampNeg))))] := hD
                refine lv_iinc (v := (x22 + (1 : Int32))) (lv' := [(3, .int (x22 + (1 : Int32))), (7, .int y30.1), (4, .int (t_all (fX11_badAt x22).toNatClampNeg)), (0, .ref ad_t), (1, .int p0), (2, .int p1)]) hx hb dX11_needs_177 hl (k := 2) rfl (ii_1 _) (by decide) rfl (fun ls hl => ?_)
                refine lv_goto (tgt := 7) hx hb dX11_needs_180 (by decide) ?_
                exact ih (x22 + (1 : Int32)) (upd g23 13 ((g23 13) + (1 : Int32))) (upd y30.2 y30.1.toNatClampNeg (t_all (fX11_badAt x22).toNatClampNeg)) H locs ls (lv_sub hl [0, 3, 4, 5] rfl) hP hD hS hf
              have Ly30 : ∀ (n : Nat), ∀ (x32 : Int32) (g33 : Nat → Int32) (H : Heap) (locs : List Loc) (ls : Array Slot), lv_has ls 8 [(7, .int x32), (4, .int (t_all (fX11_badAt x22).toNatClampNeg)), (3, .int x22), (0, .ref ad_t), (1, .int p0), (2, .int p1)] → va_P G.1 vwCl [(ad_t, .inr (11, [.ref ad_t_all, .ref ad_t_tape, .ref ad_t_isImage, .int (g23 3), .int (g23 4), .int (g23 5), .int (g23 6), .ref ad_t_size, .ref ad_t_givenRow, .ref ad_t_givenColumn, .ref ad_t_newRow, .int (g23 11), .int (g23 12), .int (g23 13), .int (g23 14), .int (g23 15), .int (g23 16), .int (g23 17), .int (g23 18), .int (g23 19), .ref ad_t_view, .int (g23 21), .int (g23 22), .int (g23 23), .int (g23 24), .int (g23 25), .long t_value, .int (g23 27), .int (g23 28)])), (ad_t_all, .inl (G.2.1 0, 43047, .inl t_all)), (ad_t_newRow, .inl (G.2.1 0, 13, .inl g33))] H → va_D A [(ad_t, .inr (11, [.ref ad_t_all, .ref ad_t_tape, .ref ad_t_isImage, .int (g23 3), .int (g23 4), .int (g23 5), .int (g23 6), .ref ad_t_size, .ref ad_t_givenRow, .ref ad_t_givenColumn, .ref ad_t_newRow, .int (g23 11), .int (g23 12), .int (g23 13), .int (g23 14), .int (g23 15), .int (g23 16), .int (g23 17), .int (g23 18), .int (g23 19), .ref ad_t_view, .int (g23 21), .int (g23 22), .int (g23 23), .int (g23 24), .int (g23 25), .long t_value, .int (g23 27), .int (g23 28)])), (ad_t_all, .inl (G.2.1 0, 43047, .inl t_all)), (ad_t_newRow, .inl (G.2.1 0, 13, .inl g33))] → va_S A s.heap H locs → fX11_needs_l117 (t_all (fX11_badAt x22).toNatClampNeg) n x32 g33 = some y30 → wG p l e 2 41 s m [.ref ad_t, .int p0, .int p1] below meth cd H locs (eQ G A (fun r w => r = none ∧ w = [(ad_t, .inr (11, [.ref ad_t_all, .ref ad_t_tape, .ref ad_t_isImage, .int (o.1 3), .int (o.1 4), .int (o.1 5), .int (o.1 6), .ref ad_t_size, .ref ad_t_givenRow, .ref ad_t_givenColumn, .ref ad_t_newRow, .int (o.1 11), .int (o.1 12), .int (o.1 13), .int (o.1 14), .int (o.1 15), .int (o.1 16), .int (o.1 17), .int (o.1 18), .int (o.1 19), .ref ad_t_view, .int (o.1 21), .int (o.1 22), .int (o.1 23), .int (o.1 24), .int (o.1 25), .long t_value, .int (o.1 27), .int (o.1 28)])), (ad_t_all, .inl (G.2.1 0, 43047, .inl t_all)), (ad_t_newRow, .inl (G.2.1 0, 13, .inl o.2))])) A (F0 m 117 ls []) := by
                intro n
                induction n with
                | zero =>
                  intro x32 g33 H locs ls hl hP hD hS hf
                  rw [fX11_needs_l117] at hf
                  cases hf
                | succ n ih =>
                  intro x32 g33 H locs ls hl hP hD hS hf
                  rw [fX11_needs_l117] at hf
                  refine lv_iload hx hb dX11_needs_117 (lv_at hl 0 rfl) ?_
                  refine lv_if_le (tgt := 158) hx hb dX11_needs_119 (by decide) (fun c34 => ?_) (fun c34 => ?_)
                  · have hf := if_t hf c34
                    have hf := Option.some.inj hf
                    subst hf
                    exact Ey30  H locs ls (lv_sub hl [0, 1, 2, 3, 4, 5] rfl) hP hD hS 
                  · have hf := if_f hf c34
                    refine lv_aload_n hx hb dX11_needs_122 rfl (lv_at hl 3 rfl) ?_
                    refine va_get (D := G.1) (cl := vwCl) (ci := 11) (v := .ref ad_t_newRow) (C := RX11) (T := TX11) (N := 29) hx hb hts inG11 hown hK hP 0 rfl rfl 10 (Nat.le_of_ble_eq_true rfl) (hts _ q1051) (fun _ h9 => h9) rfl dX11_needs_123 ?_
                    refine lv_iload hx hb dX11_needs_126 (lv_at hl 0 rfl) ?_
                    refine lv_iconst (v := 1) hx hb dX11_needs_128 (by decide) ?_
                    refine lv_isub hx hb dX11_needs_129 ?_
                    obtain ⟨h35, hf⟩ := gd_some hf
                    refine va_iald (D := G.1) (cl := vwCl) hx hb hK hP 2 0 rfl rfl (gi_in h35) dX11_needs_130 ?_
                    refine lv_iload hx hb dX11_needs_131 (lv_at hl 1 rfl) ?_
                    refine lv_icmp_le (tgt := 158) hx hb dX11_needs_133 (by decide) (fun c36 => ?_) (fun c36 => ?_)
                    · have hf := if_t hf c36
                      have hf := Option.some.inj hf
                      subst hf
                      exact Ey30  H locs ls (lv_sub hl [0, 1, 2, 3, 4, 5] rfl) hP hD hS 
                    · have hf := if_f hf c36
                      refine lv_aload_n hx hb dX11_needs_136 rfl (lv_at hl 3 rfl) ?_
                      refine va_get (D := G.1) (cl := vwCl) (ci := 11) (v := .ref ad_t_newRow) (C := RX11) (T := TX11) (N := 29) hx hb hts inG11 hown hK hP 0 rfl rfl 10 (Nat.le_of_ble_eq_true rfl) (hts _ q1051) (fun _ h9 => h9) rfl dX11_needs_137 ?_
                      refine lv_iload hx hb dX11_needs_140 (lv_at hl 0 rfl) ?_
                      refine lv_aload_n hx hb dX11_needs_142 rfl (lv_at hl 3 rfl) ?_
                      refine va_get (D := G.1) (cl := vwCl) (ci := 11) (v := .ref ad_t_newRow) (C := RX11) (T := TX11) (N := 29) hx hb hts inG11 hown hK hP 0 rfl rfl 10 (Nat.le_of_ble_eq_true rfl) (hts _ q1051) (fun _ h9 => h9) rfl dX11_needs_143 ?_
                      refine lv_iload hx hb dX11_needs_146 (lv_at hl 0 rfl) ?_
                      refine lv_iconst (v := 1) hx hb dX11_needs_148 (by decide) ?_
                      refine lv_isub hx hb dX11_needs_149 ?_
                      obtain ⟨h37, hf⟩ := gd_some hf
                      refine va_iald (D := G.1) (cl := vwCl) hx hb hK hP 2 0 rfl rfl (gi_in h37) dX11_needs_150 ?_
                      obtain ⟨h38, hf⟩ := gd_some hf
                      refine va_iast (D := G.1) (cl := vwCl) hx hb hK hP hD hS 2 0 rfl rfl (gi_in h38) dX11_needs_151 (fun H locs hP hD hS => ?_)
                      have hP : va_P G.1 vwCl [(ad_t, .inr (11, [.ref ad_t_all, .ref ad_t_tape, .ref ad_t_isImage, .int (g23 3), .int (g23 4), .int (g23 5), .int (g23 6), .ref ad_t_size, .ref ad_t_givenRow, .ref ad_t_givenColumn, .ref ad_t_newRow, .int (g23 11), .int (g23 12), .int (g23 13), .int (g23 14), .int (g23 15), .int (g23 16), .int (g23 17), .int (g23 18), .int (g23 19), .ref ad_t_view, .int (g23 21), .int (g23 22), .int (g23 23), .int (g23 24), .int (g23 25), .long t_value, .int (g23 27), .int (g23 28)])), (ad_t_all, .inl (G.2.1 0, 43047, .inl t_all)), (ad_t_newRow, .inl (G.2.1 0, 13, .inl (upd g33 x32.toNatClampNeg (g33 (x32 - (1 : Int32)).toNatClampNeg))))] H := hP
                      have hD : va_D A [(ad_t, .inr (11, [.ref ad_t_all, .ref ad_t_tape, .ref ad_t_isImage, .int (g23 3), .int (g23 4), .int (g23 5), .int (g23 6), .ref ad_t_size, .ref ad_t_givenRow, .ref ad_t_givenColumn, .ref ad_t_newRow, .int (g23 11), .int (g23 12), .int (g23 13), .int (g23 14), .int (g23 15), .int (g23 16), .int (g23 17), .int (g23 18), .int (g23 19), .ref ad_t_view, .int (g23 21), .int (g23 22), .int (g23 23), .int (g23 24), .int (g23 25), .long t_value, .int (g23 27), .int (g23 28)])), (ad_t_all, .inl (G.2.1 0, 43047, .inl t_all)), (ad_t_newRow, .inl (G.2.1 0, 13, .inl (upd g33 x32.toNatClampNeg (g33 (x32 - (1 : Int32)).toNatClampNeg))))] := hD
                      refine lv_iinc (v := (x32 + (-1 : Int32))) (lv' := [(7, .int (x32 + (-1 : Int32))), (4, .int (t_all (fX11_badAt x22).toNatClampNeg)), (3, .int x22), (0, .ref ad_t), (1, .int p0), (2, .int p1)]) hx hb dX11_needs_152 hl (k := 0) rfl (ii_m1 _) (by decide) rfl (fun ls hl => ?_)
                      refine lv_goto (tgt := 117) hx hb dX11_needs_155 (by decide) ?_
                      exact ih (x32 + (-1 : Int32)) (upd g33 x32.toNatClampNeg (g33 (x32 - (1 : Int32)).toNatClampNeg)) H locs ls (lv_sub hl [0, 1, 2, 3, 4, 5] rfl) hP hD hS hf
              exact Ly30 FU (g23 13) g24 H locs ls (lv_sub hl [0, 2, 3, 4, 5, 6] rfl) hP hD hS hLy30
            · have hf := if_f hf c29
              refine lv_goto (tgt := 177) hx hb dX11_needs_108 (by decide) ?_
              refine lv_iinc (v := (x22 + (1 : Int32))) (lv' := [(3, .int (x22 + (1 : Int32))), (6, .int y28), (4, .int (t_all (fX11_badAt x22).toNatClampNeg)), (0, .ref ad_t), (1, .int p0), (2, .int p1)]) hx hb dX11_needs_177 hl (k := 2) rfl (ii_1 _) (by decide) rfl (fun ls hl => ?_)
              refine lv_goto (tgt := 7) hx hb dX11_needs_180 (by decide) ?_
              exact ih (x22 + (1 : Int32)) g23 g24 H locs ls (lv_sub hl [0, 3, 4, 5] rfl) hP hD hS hf
          have Ly28 : ∀ (n : Nat), ∀ (x39 : Int32) (x40 : Int32) (H : Heap) (locs : List Loc) (ls : Array Slot), lv_has ls 8 [(7, .int x40), (6, .int x39), (4, .int (t_all (fX11_badAt x22).toNatClampNeg)), (3, .int x22), (0, .ref ad_t), (1, .int p0), (2, .int p1)] → va_P G.1 vwCl [(ad_t, .inr (11, [.ref ad_t_all, .ref ad_t_tape, .ref ad_t_isImage, .int (g23 3), .int (g23 4), .int (g23 5), .int (g23 6), .ref ad_t_size, .ref ad_t_givenRow, .ref ad_t_givenColumn, .ref ad_t_newRow, .int (g23 11), .int (g23 12), .int (g23 13), .int (g23 14), .int (g23 15), .int (g23 16), .int (g23 17), .int (g23 18), .int (g23 19), .ref ad_t_view, .int (g23 21), .int (g23 22), .int (g23 23), .int (g23 24), .int (g23 25), .long t_value, .int (g23 27), .int (g23 28)])), (ad_t_all, .inl (G.2.1 0, 43047, .inl t_all)), (ad_t_newRow, .inl (G.2.1 0, 13, .inl g24))] H → va_D A [(ad_t, .inr (11, [.ref ad_t_all, .ref ad_t_tape, .ref ad_t_isImage, .int (g23 3), .int (g23 4), .int (g23 5), .int (g23 6), .ref ad_t_size, .ref ad_t_givenRow, .ref ad_t_givenColumn, .ref ad_t_newRow, .int (g23 11), .int (g23 12), .int (g23 13), .int (g23 14), .int (g23 15), .int (g23 16), .int (g23 17), .int (g23 18), .int (g23 19), .ref ad_t_view, .int (g23 21), .int (g23 22), .int (g23 23), .int (g23 24), .int (g23 25), .long t_value, .int (g23 27), .int (g23 28)])), (ad_t_all, .inl (G.2.1 0, 43047, .inl t_all)), (ad_t_newRow, .inl (G.2.1 0, 13, .inl g24))] → va_S A s.heap H locs → fX11_needs_l64 (t_all (fX11_badAt x22).toNatClampNeg) g23 g24 n x39 x40 = some y28 → wG p l e 2 41 s m [.ref ad_t, .int p0, .int p1] below meth cd H locs (eQ G A (fun r w => r = none ∧ w = [(ad_t, .inr (11, [.ref ad_t_all, .ref ad_t_tape, .ref ad_t_isImage, .int (o.1 3), .int (o.1 4), .int (o.1 5), .int (o.1 6), .ref ad_t_size, .ref ad_t_givenRow, .ref ad_t_givenColumn, .ref ad_t_newRow, .int (o.1 11), .int (o.1 12), .int (o.1 13), .int (o.1 14), .int (o.1 15), .int (o.1 16), .int (o.1 17), .int (o.1 18), .int (o.1 19), .ref ad_t_view, .int (o.1 21), .int (o.1 22), .int (o.1 23), .int (o.1 24), .int (o.1 25), .long t_value, .int (o.1 27), .int (o.1 28)])), (ad_t_all, .inl (G.2.1 0, 43047, .inl t_all)), (ad_t_newRow, .inl (G.2.1 0, 13, .inl o.2))])) A (F0 m 64 ls []) := by
            intro n
            induction n with
            | zero =>
              intro x39 x40 H locs ls hl hP hD hS hf
              rw [fX11_needs_l64] at hf
              cases hf
            | succ n ih =>
              intro x39 x40 H locs ls hl hP hD hS hf
              rw [fX11_needs_l64] at hf
              refine lv_iload hx hb dX11_needs_64 (lv_at hl 0 rfl) ?_
              refine lv_aload_n hx hb dX11_needs_66 rfl (lv_at hl 4 rfl) ?_
              refine va_get (D := G.1) (cl := vwCl) (ci := 11) (v := .int (g23 13)) (C := RX11) (T := TX11) (N := 29) hx hb hts inG11 hown hK hP 0 rfl rfl 13 (Nat.le_of_ble_eq_true rfl) (hts _ q1054) (fun _ h9 => h9) rfl dX11_needs_67 ?_
              refine lv_icmp_ge (tgt := 103) hx hb dX11_needs_70 (by decide) (fun c41 => ?_) (fun c41 => ?_)
              · have hf := if_t hf c41
                have hf := Option.some.inj hf
                subst hf
                exact Ey28  H locs ls (lv_sub hl [1, 2, 3, 4, 5, 6] rfl) hP hD hS 
              · have hf := if_f hf c41
                refine lv_iload hx hb dX11_needs_73 (lv_at hl 1 rfl) ?_
                refine lv_if_ne (tgt := 90) hx hb dX11_needs_75 (by decide) (fun c42 => ?_) (fun c42 => ?_)
                · have hf := if_f hf c42
                  refine lv_iconst (v := 1) hx hb dX11_needs_90 (by decide) ?_
                  refine lv_goto (tgt := 95) hx hb dX11_needs_91 (by decide) ?_
                  refine lv_istore (lv' := [(6, .int (1 : Int32)), (7, .int x40), (4, .int (t_all (fX11_badAt x22).toNatClampNeg)), (3, .int x22), (0, .ref ad_t), (1, .int p0), (2, .int p1)]) hx hb dX11_needs_95 hl (by decide) rfl (fun ls hl => ?_)
                  refine lv_iinc (v := (x40 + (1 : Int32))) (lv' := [(7, .int (x40 + (1 : Int32))), (6, .int (1 : Int32)), (4, .int (t_all (fX11_badAt x22).toNatClampNeg)), (3, .int x22), (0, .ref ad_t), (1, .int p0), (2, .int p1)]) hx hb dX11_needs_97 hl (k := 1) rfl (ii_1 _) (by decide) rfl (fun ls hl => ?_)
                  refine lv_goto (tgt := 64) hx hb dX11_needs_100 (by decide) ?_
                  exact ih (1 : Int32) (x40 + (1 : Int32)) H locs ls (lv_sub hl [0, 1, 2, 3, 4, 5, 6] rfl) hP hD hS hf
                · have hf := if_t hf c42
                  refine lv_aload_n hx hb dX11_needs_78 rfl (lv_at hl 4 rfl) ?_
                  refine va_get (D := G.1) (cl := vwCl) (ci := 11) (v := .ref ad_t_newRow) (C := RX11) (T := TX11) (N := 29) hx hb hts inG11 hown hK hP 0 rfl rfl 10 (Nat.le_of_ble_eq_true rfl) (hts _ q1051) (fun _ h9 => h9) rfl dX11_needs_79 ?_
                  refine lv_iload hx hb dX11_needs_82 (lv_at hl 0 rfl) ?_
                  obtain ⟨h43, hf⟩ := gd_some hf
                  refine va_iald (D := G.1) (cl := vwCl) hx hb hK hP 2 0 rfl rfl (gi_in h43) dX11_needs_84 ?_
                  refine lv_iload hx hb dX11_needs_85 (lv_at hl 2 rfl) ?_
                  refine lv_icmp_ne (tgt := 94) hx hb dX11_needs_87 (by decide) (fun c44 => ?_) (fun c44 => ?_)
                  · have hf := if_f hf c44
                    refine lv_iconst (v := 0) hx hb dX11_needs_94 (by decide) ?_
                    refine lv_istore (lv' := [(6, .int (0 : Int32)), (7, .int x40), (4, .int (t_all (fX11_badAt x22).toNatClampNeg)), (3, .int x22), (0, .ref ad_t), (1, .int p0), (2, .int p1)]) hx hb dX11_needs_95 hl (by decide) rfl (fun ls hl => ?_)
                    refine lv_iinc (v := (x40 + (1 : Int32))) (lv' := [(7, .int (x40 + (1 : Int32))), (6, .int (0 : Int32)), (4, .int (t_all (fX11_badAt x22).toNatClampNeg)), (3, .int x22), (0, .ref ad_t), (1, .int p0), (2, .int p1)]) hx hb dX11_needs_97 hl (k := 1) rfl (ii_1 _) (by decide) rfl (fun ls hl => ?_)
                    refine lv_goto (tgt := 64) hx hb dX11_needs_100 (by decide) ?_
                    exact ih (0 : Int32) (x40 + (1 : Int32)) H locs ls (lv_sub hl [0, 1, 2, 3, 4, 5, 6] rfl) hP hD hS hf
                  · have hf := if_t hf c44
                    refine lv_iconst (v := 1) hx hb dX11_needs_90 (by decide) ?_
                    refine lv_goto (tgt := 95) hx hb dX11_needs_91 (by decide) ?_
                    refine lv_istore (lv' := [(6, .int (1 : Int32)), (7, .int x40), (4, .int (t_all (fX11_badAt x22).toNatClampNeg)), (3, .int x22), (0, .ref ad_t), (1, .int p0), (2, .int p1)]) hx hb dX11_needs_95 hl (by decide) rfl (fun ls hl => ?_)
                    refine lv_iinc (v := (x40 + (1 : Int32))) (lv' := [(7, .int (x40 + (1 : Int32))), (6, .int (1 : Int32)), (4, .int (t_all (fX11_badAt x22).toNatClampNeg)), (3, .int x22), (0, .ref ad_t), (1, .int p0), (2, .int p1)]) hx hb dX11_needs_97 hl (k := 1) rfl (ii_1 _) (by decide) rfl (fun ls hl => ?_)
                    refine lv_goto (tgt := 64) hx hb dX11_needs_100 (by decide) ?_
                    exact ih (1 : Int32) (x40 + (1 : Int32)) H locs ls (lv_sub hl [0, 1, 2, 3, 4, 5, 6] rfl) hP hD hS hf
          exact Ly28 FU (if (t_all ((fX11_badAt x22) + (1 : Int32)).toNatClampNeg) = p0 then (1 : Int32) else (if (t_all ((fX11_badAt x22) + (1 : Int32)).toNatClampNeg) = p1 then (1 : Int32) else (0 : Int32))) (0 : Int32) H locs ls (lv_sub hl [0, 1, 3, 4, 5, 6, 7] rfl) hP hD hS hLy28
        refine lv_icmp_eq (tgt := 54) hx hb dX11_needs_45 (by decide) (fun c46 => ?_) (fun c46 => ?_)
        · refine lv_iconst (v := 1) hx hb dX11_needs_54 (by decide) ?_
          refine lv_goto (tgt := 59) hx hb dX11_needs_55 (by decide) ?_
          exact (mgT c46 J45)
        · refine lv_iload hx hb dX11_needs_48 (lv_at hl 0 rfl) ?_
          refine lv_iload_n hx hb dX11_needs_50 rfl (lv_at hl 5 rfl) ?_
          refine lv_icmp_ne (tgt := 58) hx hb dX11_needs_51 (by decide) (fun c47 => ?_) (fun c47 => ?_)
          · refine lv_iconst (v := 0) hx hb dX11_needs_58 (by decide) ?_
            exact (mgF c47 (mgF c46 J45))
          · refine lv_iconst (v := 1) hx hb dX11_needs_54 (by decide) ?_
            refine lv_goto (tgt := 59) hx hb dX11_needs_55 (by decide) ?_
            exact (mgT c47 (mgF c46 J45))
  exact Ly21 FU (0 : Int32) (upd tI 13 (0 : Int32)) t_newRow H locs ls (lv_sub hl [0, 1, 2, 3] rfl) hP hD hS hLy21
