def fX4_area (tI : Nat → Int32) : Int32 :=
  ((tI 12) * (tI 13))
set_option maxRecDepth 100000 in
set_option maxHeartbeats 4000000 in
theorem tX4_area (l : Launch) (G : gG) (ad_t ad_t_sizes : Nat) (tI : Nat → Int32) (o : Int32) (hf : fX4_area tI = o) : mP G l yX4_area cX4_area 1 (some .int) 0 0 [.ref ad_t] [(ad_t, .inr (4, [.ref ad_t_sizes, .int (tI 1), .int (tI 2), .int (tI 3), .int (tI 4), .int (tI 5), .int (tI 6), .int (tI 7), .int (tI 8), .int (tI 9), .int (tI 10), .int (tI 11), .int (tI 12), .int (tI 13), .int (tI 14), .int (tI 15), .int (tI 16), .int (tI 17)]))] (some (.int o)) := by
  refine mP_of (by decide) (Nat.le_of_ble_eq_true rfl) ?_
  intro p e s m below meth cd ls hx hb hml hown hts hr hlocks hl hP hG
  have hK := hG.1
  have hown : s.vm.findClass RX4 = some m.cls := hown
  have hl : lv_has ls 1 [(0, .ref ad_t)] := hl
  have hS : va_S no s.heap s.heap [] := va_S.rf
  generalize ([] : List Loc) = locs at hS ⊢
  unfold fX4_area at hf
  show wG p l e 0 0 s m [.ref ad_t] below meth cd s.heap locs (pQ (some (.int o))) no (F0 m 0 ls [])
  refine lv_aload_n hx hb dX4_area_0 rfl (lv_at hl 0 rfl) ?_
  refine va_get (D := G.1) (cl := vwCl) (ci := 4) (v := .int (tI 12)) (C := RX4) (T := TX4) (N := 18) hx hb hts inG4 hown hK hP 0 rfl rfl 12 (Nat.le_of_ble_eq_true rfl) (hts _ q361) (fun _ h9 => h9) rfl dX4_area_1 ?_
  refine lv_aload_n hx hb dX4_area_4 rfl (lv_at hl 0 rfl) ?_
  refine va_get (D := G.1) (cl := vwCl) (ci := 4) (v := .int (tI 13)) (C := RX4) (T := TX4) (N := 18) hx hb hts inG4 hown hK hP 0 rfl rfl 13 (Nat.le_of_ble_eq_true rfl) (hts _ q364) (fun _ h9 => h9) rfl dX4_area_5 ?_
  refine lv_imul hx hb dX4_area_8 ?_
  subst hf
  exact pRet hx hb hr hlocks hS dX4_area_9

def fX4_readTime (tI : Nat → Int32) : Int32 :=
  ((((tI 11) + (tI 14)) + (tI 15)) + (tI 16))
set_option maxRecDepth 100000 in
set_option maxHeartbeats 4000000 in
theorem tX4_readTime (l : Launch) (G : gG) (ad_t ad_t_sizes : Nat) (tI : Nat → Int32) (o : Int32) (hf : fX4_readTime tI = o) : mP G l yX4_readTime cX4_readTime 1 (some .int) 0 0 [.ref ad_t] [(ad_t, .inr (4, [.ref ad_t_sizes, .int (tI 1), .int (tI 2), .int (tI 3), .int (tI 4), .int (tI 5), .int (tI 6), .int (tI 7), .int (tI 8), .int (tI 9), .int (tI 10), .int (tI 11), .int (tI 12), .int (tI 13), .int (tI 14), .int (tI 15), .int (tI 16), .int (tI 17)]))] (some (.int o)) := by
  refine mP_of (by decide) (Nat.le_of_ble_eq_true rfl) ?_
  intro p e s m below meth cd ls hx hb hml hown hts hr hlocks hl hP hG
  have hK := hG.1
  have hown : s.vm.findClass RX4 = some m.cls := hown
  have hl : lv_has ls 1 [(0, .ref ad_t)] := hl
  have hS : va_S no s.heap s.heap [] := va_S.rf
  generalize ([] : List Loc) = locs at hS ⊢
  unfold fX4_readTime at hf
  show wG p l e 0 0 s m [.ref ad_t] below meth cd s.heap locs (pQ (some (.int o))) no (F0 m 0 ls [])
  refine lv_aload_n hx hb dX4_readTime_0 rfl (lv_at hl 0 rfl) ?_
  refine va_get (D := G.1) (cl := vwCl) (ci := 4) (v := .int (tI 11)) (C := RX4) (T := TX4) (N := 18) hx hb hts inG4 hown hK hP 0 rfl rfl 11 (Nat.le_of_ble_eq_true rfl) (hts _ q360) (fun _ h9 => h9) rfl dX4_readTime_1 ?_
  refine lv_aload_n hx hb dX4_readTime_4 rfl (lv_at hl 0 rfl) ?_
  refine va_get (D := G.1) (cl := vwCl) (ci := 4) (v := .int (tI 14)) (C := RX4) (T := TX4) (N := 18) hx hb hts inG4 hown hK hP 0 rfl rfl 14 (Nat.le_of_ble_eq_true rfl) (hts _ q367) (fun _ h9 => h9) rfl dX4_readTime_5 ?_
  refine lv_iadd hx hb dX4_readTime_8 ?_
  refine lv_aload_n hx hb dX4_readTime_9 rfl (lv_at hl 0 rfl) ?_
  refine va_get (D := G.1) (cl := vwCl) (ci := 4) (v := .int (tI 15)) (C := RX4) (T := TX4) (N := 18) hx hb hts inG4 hown hK hP 0 rfl rfl 15 (Nat.le_of_ble_eq_true rfl) (hts _ q368) (fun _ h9 => h9) rfl dX4_readTime_10 ?_
  refine lv_iadd hx hb dX4_readTime_13 ?_
  refine lv_aload_n hx hb dX4_readTime_14 rfl (lv_at hl 0 rfl) ?_
  refine va_get (D := G.1) (cl := vwCl) (ci := 4) (v := .int (tI 16)) (C := RX4) (T := TX4) (N := 18) hx hb hts inG4 hown hK hP 0 rfl rfl 16 (Nat.le_of_ble_eq_true rfl) (hts _ q369) (fun _ h9 => h9) rfl dX4_readTime_15 ?_
  refine lv_iadd hx hb dX4_readTime_18 ?_
  subst hf
  exact pRet hx hb hr hlocks hS dX4_readTime_19

def fX4_cycle (tI : Nat → Int32) : Option (Int32) :=
  (if (1 : Int32) ≤ (tI 17) then gd (nz (tI 17)) (some (((((tI 11) + (tI 14)) + (tI 16)) + (40 : Int32)) + (((30 : Int32) * (tI 3)) / (tI 17)))) else some (((((tI 11) + (tI 14)) + (tI 16)) + (40 : Int32)) + (0 : Int32)))
set_option maxRecDepth 100000 in
set_option maxHeartbeats 4000000 in
theorem tX4_cycle (l : Launch) (G : gG) (ad_t ad_t_sizes : Nat) (tI : Nat → Int32) (o : Int32) (hf : fX4_cycle tI = some o) : mP G l yX4_cycle cX4_cycle 2 (some .int) 0 0 [.ref ad_t] [(ad_t, .inr (4, [.ref ad_t_sizes, .int (tI 1), .int (tI 2), .int (tI 3), .int (tI 4), .int (tI 5), .int (tI 6), .int (tI 7), .int (tI 8), .int (tI 9), .int (tI 10), .int (tI 11), .int (tI 12), .int (tI 13), .int (tI 14), .int (tI 15), .int (tI 16), .int (tI 17)]))] (some (.int o)) := by
  refine mP_of (by decide) (Nat.le_of_ble_eq_true rfl) ?_
  intro p e s m below meth cd ls hx hb hml hown hts hr hlocks hl hP hG
  have hK := hG.1
  have hown : s.vm.findClass RX4 = some m.cls := hown
  have hl : lv_has ls 2 [(0, .ref ad_t)] := hl
  have hS : va_S no s.heap s.heap [] := va_S.rf
  generalize ([] : List Loc) = locs at hS ⊢
  unfold fX4_cycle at hf
  show wG p l e 0 0 s m [.ref ad_t] below meth cd s.heap locs (pQ (some (.int o))) no (F0 m 0 ls [])
  refine lv_aload_n hx hb dX4_cycle_0 rfl (lv_at hl 0 rfl) ?_
  refine va_get (D := G.1) (cl := vwCl) (ci := 4) (v := .int (tI 17)) (C := RX4) (T := TX4) (N := 18) hx hb hts inG4 hown hK hP 0 rfl rfl 17 (Nat.le_of_ble_eq_true rfl) (hts _ q370) (fun _ h9 => h9) rfl dX4_cycle_1 ?_
  refine lv_iconst (v := 1) hx hb dX4_cycle_4 (by decide) ?_
  refine lv_icmp_ge (tgt := 12) hx hb dX4_cycle_5 (by decide) (fun c5 => ?_) (fun c5 => ?_)
  · have hf := if_t hf c5
    refine lv_bipush (v := 30) hx hb dX4_cycle_12 (by decide) ?_
    refine lv_aload_n hx hb dX4_cycle_14 rfl (lv_at hl 0 rfl) ?_
    refine va_get (D := G.1) (cl := vwCl) (ci := 4) (v := .int (tI 3)) (C := RX4) (T := TX4) (N := 18) hx hb hts inG4 hown hK hP 0 rfl rfl 3 (Nat.le_of_ble_eq_true rfl) (hts _ q351) (fun _ h9 => h9) rfl dX4_cycle_15 ?_
    refine lv_imul hx hb dX4_cycle_18 ?_
    refine lv_aload_n hx hb dX4_cycle_19 rfl (lv_at hl 0 rfl) ?_
    refine va_get (D := G.1) (cl := vwCl) (ci := 4) (v := .int (tI 17)) (C := RX4) (T := TX4) (N := 18) hx hb hts inG4 hown hK hP 0 rfl rfl 17 (Nat.le_of_ble_eq_true rfl) (hts _ q370) (fun _ h9 => h9) rfl dX4_cycle_20 ?_
    obtain ⟨h6, hf⟩ := gd_some hf
    refine lv_idiv hx hb dX4_cycle_23 (nz_ne h6) ?_
    refine lv_istore_n (lv' := [(1, .int (((30 : Int32) * (tI 3)) / (tI 17))), (0, .ref ad_t)]) hx hb dX4_cycle_24 rfl hl (by decide) rfl (fun ls hl => ?_)
    refine lv_aload_n hx hb dX4_cycle_25 rfl (lv_at hl 1 rfl) ?_
    refine va_get (D := G.1) (cl := vwCl) (ci := 4) (v := .int (tI 11)) (C := RX4) (T := TX4) (N := 18) hx hb hts inG4 hown hK hP 0 rfl rfl 11 (Nat.le_of_ble_eq_true rfl) (hts _ q360) (fun _ h9 => h9) rfl dX4_cycle_26 ?_
    refine lv_aload_n hx hb dX4_cycle_29 rfl (lv_at hl 1 rfl) ?_
    refine va_get (D := G.1) (cl := vwCl) (ci := 4) (v := .int (tI 14)) (C := RX4) (T := TX4) (N := 18) hx hb hts inG4 hown hK hP 0 rfl rfl 14 (Nat.le_of_ble_eq_true rfl) (hts _ q367) (fun _ h9 => h9) rfl dX4_cycle_30 ?_
    refine lv_iadd hx hb dX4_cycle_33 ?_
    refine lv_aload_n hx hb dX4_cycle_34 rfl (lv_at hl 1 rfl) ?_
    refine va_get (D := G.1) (cl := vwCl) (ci := 4) (v := .int (tI 16)) (C := RX4) (T := TX4) (N := 18) hx hb hts inG4 hown hK hP 0 rfl rfl 16 (Nat.le_of_ble_eq_true rfl) (hts _ q369) (fun _ h9 => h9) rfl dX4_cycle_35 ?_
    refine lv_iadd hx hb dX4_cycle_38 ?_
    refine lv_bipush (v := 40) hx hb dX4_cycle_39 (by decide) ?_
    refine lv_iadd hx hb dX4_cycle_41 ?_
    refine lv_iload_n hx hb dX4_cycle_42 rfl (lv_at hl 0 rfl) ?_
    refine lv_iadd hx hb dX4_cycle_43 ?_
    have hf := Option.some.inj hf
    subst hf
    exact pRet hx hb hr hlocks hS dX4_cycle_44
  · have hf := if_f hf c5
    refine lv_iconst (v := 0) hx hb dX4_cycle_8 (by decide) ?_
    refine lv_goto (tgt := 24) hx hb dX4_cycle_9 (by decide) ?_
    refine lv_istore_n (lv' := [(1, .int (0 : Int32)), (0, .ref ad_t)]) hx hb dX4_cycle_24 rfl hl (by decide) rfl (fun ls hl => ?_)
    refine lv_aload_n hx hb dX4_cycle_25 rfl (lv_at hl 1 rfl) ?_
    refine va_get (D := G.1) (cl := vwCl) (ci := 4) (v := .int (tI 11)) (C := RX4) (T := TX4) (N := 18) hx hb hts inG4 hown hK hP 0 rfl rfl 11 (Nat.le_of_ble_eq_true rfl) (hts _ q360) (fun _ h9 => h9) rfl dX4_cycle_26 ?_
    refine lv_aload_n hx hb dX4_cycle_29 rfl (lv_at hl 1 rfl) ?_
    refine va_get (D := G.1) (cl := vwCl) (ci := 4) (v := .int (tI 14)) (C := RX4) (T := TX4) (N := 18) hx hb hts inG4 hown hK hP 0 rfl rfl 14 (Nat.le_of_ble_eq_true rfl) (hts _ q367) (fun _ h9 => h9) rfl dX4_cycle_30 ?_
    refine lv_iadd hx hb dX4_cycle_33 ?_
    refine lv_aload_n hx hb dX4_cycle_34 rfl (lv_at hl 1 rfl) ?_
    refine va_get (D := G.1) (cl := vwCl) (ci := 4) (v := .int (tI 16)) (C := RX4) (T := TX4) (N := 18) hx hb hts inG4 hown hK hP 0 rfl rfl 16 (Nat.le_of_ble_eq_true rfl) (hts _ q369) (fun _ h9 => h9) rfl dX4_cycle_35 ?_
    refine lv_iadd hx hb dX4_cycle_38 ?_
    refine lv_bipush (v := 40) hx hb dX4_cycle_39 (by decide) ?_
    refine lv_iadd hx hb dX4_cycle_41 ?_
    refine lv_iload_n hx hb dX4_cycle_42 rfl (lv_at hl 0 rfl) ?_
    refine lv_iadd hx hb dX4_cycle_43 ?_
    have hf := Option.some.inj hf
    subst hf
    exact pRet hx hb hr hlocks hS dX4_cycle_44

def fX4_tell (tI : Nat → Int32) (t_sizes : Nat → Int32) (p0 : Int32) : Option (Int32) :=
  (if p0 = (0 : Int32) then some (tI 1) else (if p0 = (1 : Int32) then some (tI 2) else (if p0 = (2 : Int32) then some (tI 12) else (if p0 = (3 : Int32) then some (tI 13) else (if p0 = (4 : Int32) then some (fX4_area tI) else (if p0 = (5 : Int32) then some (fX4_readTime tI) else (if p0 = (6 : Int32) then bn (fX4_cycle tI) fun a8 => some a8 else (if p0 = (7 : Int32) then some (tI 9) else (if p0 = (8 : Int32) then some (tI 10) else (if p0 = (9 : Int32) then some (tI 11) else (if p0 = (10 : Int32) then some (tI 17) else (if p0 = (11 : Int32) then some (tI 14) else (if p0 = (12 : Int32) then some (tI 15) else (if p0 < (20 : Int32) then some (-1 : Int32) else (if ((20 : Int32) + (tI 9)) ≤ p0 then some (-1 : Int32) else gd (gi (p0 - (20 : Int32)) 8) (some (t_sizes (p0 - (20 : Int32)).toNatClampNeg)))))))))))))))))
set_option maxRecDepth 100000 in
set_option maxHeartbeats 4000000 in
theorem tX4_tell (l : Launch) (G : gG) (ad_t ad_t_sizes : Nat) (tI : Nat → Int32) (t_sizes : Nat → Int32) (p0 : Int32) (o : Int32) (hf : fX4_tell tI t_sizes p0 = some o) : mP G l yX4_tell cX4_tell 2 (some .int) 1 21 [.ref ad_t, .int p0] [(ad_t, .inr (4, [.ref ad_t_sizes, .int (tI 1), .int (tI 2), .int (tI 3), .int (tI 4), .int (tI 5), .int (tI 6), .int (tI 7), .int (tI 8), .int (tI 9), .int (tI 10), .int (tI 11), .int (tI 12), .int (tI 13), .int (tI 14), .int (tI 15), .int (tI 16), .int (tI 17)])), (ad_t_sizes, .inl (G.2.1 0, 8, .inl t_sizes))] (some (.int o)) := by
  refine mP_of (by decide) (Nat.le_of_ble_eq_true rfl) ?_
  intro p e s m below meth cd ls hx hb hml hown hts hr hlocks hl hP hG
  have hK := hG.1
  have hown : s.vm.findClass RX4 = some m.cls := hown
  have hl : lv_has ls 2 [(0, .ref ad_t), (1, .int p0)] := hl
  have hS : va_S no s.heap s.heap [] := va_S.rf
  generalize ([] : List Loc) = locs at hS ⊢
  unfold fX4_tell at hf
  show wG p l e 1 21 s m [.ref ad_t, .int p0] below meth cd s.heap locs (pQ (some (.int o))) no (F0 m 0 ls [])
  refine lv_iload_n hx hb dX4_tell_0 rfl (lv_at hl 1 rfl) ?_
  by_cases c19 : p0 = (0 : Int32)
  · have hf := if_t hf c19
    refine lv_tableIn (off := 67) (tgt := 68) hx hb dX4_tell_1 (by rw [c19]; decide) (by rw [c19]; decide) (by rw [c19]; decide) (by decide) ?_
    refine lv_aload_n hx hb dX4_tell_68 rfl (lv_at hl 0 rfl) ?_
    refine va_get (D := G.1) (cl := vwCl) (ci := 4) (v := .int (tI 1)) (C := RX4) (T := TX4) (N := 18) hx hb hts inG4 hown hK hP 0 rfl rfl 1 (Nat.le_of_ble_eq_true rfl) (hts _ q347) (fun _ h9 => h9) rfl dX4_tell_69 ?_
    have hf := Option.some.inj hf
    subst hf
    exact pRet hx hb hr hlocks hS dX4_tell_72
  · have hf := if_f hf c19
    by_cases c20 : p0 = (1 : Int32)
    · have hf := if_t hf c20
      refine lv_tableIn (off := 72) (tgt := 73) hx hb dX4_tell_1 (by rw [c20]; decide) (by rw [c20]; decide) (by rw [c20]; decide) (by decide) ?_
      refine lv_aload_n hx hb dX4_tell_73 rfl (lv_at hl 0 rfl) ?_
      refine va_get (D := G.1) (cl := vwCl) (ci := 4) (v := .int (tI 2)) (C := RX4) (T := TX4) (N := 18) hx hb hts inG4 hown hK hP 0 rfl rfl 2 (Nat.le_of_ble_eq_true rfl) (hts _ q349) (fun _ h9 => h9) rfl dX4_tell_74 ?_
      have hf := Option.some.inj hf
      subst hf
      exact pRet hx hb hr hlocks hS dX4_tell_77
    · have hf := if_f hf c20
      by_cases c21 : p0 = (2 : Int32)
      · have hf := if_t hf c21
        refine lv_tableIn (off := 77) (tgt := 78) hx hb dX4_tell_1 (by rw [c21]; decide) (by rw [c21]; decide) (by rw [c21]; decide) (by decide) ?_
        refine lv_aload_n hx hb dX4_tell_78 rfl (lv_at hl 0 rfl) ?_
        refine va_get (D := G.1) (cl := vwCl) (ci := 4) (v := .int (tI 12)) (C := RX4) (T := TX4) (N := 18) hx hb hts inG4 hown hK hP 0 rfl rfl 12 (Nat.le_of_ble_eq_true rfl) (hts _ q361) (fun _ h9 => h9) rfl dX4_tell_79 ?_
        have hf := Option.some.inj hf
        subst hf
        exact pRet hx hb hr hlocks hS dX4_tell_82
      · have hf := if_f hf c21
        by_cases c22 : p0 = (3 : Int32)
        · have hf := if_t hf c22
          refine lv_tableIn (off := 82) (tgt := 83) hx hb dX4_tell_1 (by rw [c22]; decide) (by rw [c22]; decide) (by rw [c22]; decide) (by decide) ?_
          refine lv_aload_n hx hb dX4_tell_83 rfl (lv_at hl 0 rfl) ?_
          refine va_get (D := G.1) (cl := vwCl) (ci := 4) (v := .int (tI 13)) (C := RX4) (T := TX4) (N := 18) hx hb hts inG4 hown hK hP 0 rfl rfl 13 (Nat.le_of_ble_eq_true rfl) (hts _ q364) (fun _ h9 => h9) rfl dX4_tell_84 ?_
          have hf := Option.some.inj hf
          subst hf
          exact pRet hx hb hr hlocks hS dX4_tell_87
        · have hf := if_f hf c22
          by_cases c23 : p0 = (4 : Int32)
          · have hf := if_t hf c23
            refine lv_tableIn (off := 87) (tgt := 88) hx hb dX4_tell_1 (by rw [c23]; decide) (by rw [c23]; decide) (by rw [c23]; decide) (by decide) ?_
            refine lv_aload_n hx hb dX4_tell_88 rfl (lv_at hl 0 rfl) ?_
            refine kPV (tX4_area l G ad_t ad_t_sizes tI _ rfl) ⟨hx, hb, hml, hown, hts⟩ q525 q526 q527 q103 q528 okyX4_area ⟨Nat.le_of_ble_eq_true rfl, Nat.le_of_ble_eq_true rfl⟩ hP hG hS [0] rfl 0 rfl rfl hl.1 rfl (Nat.le_of_ble_eq_true rfl) dX4_tell_89 ⟨Nat.zero_le _, Nat.zero_le _⟩ (fun locs hS => ?_)
            refine W.eq (g2 := F0 m 92 ls [.int (fX4_area tI)]) rfl ?_
            have hf := Option.some.inj hf
            subst hf
            exact pRet hx hb hr hlocks hS dX4_tell_92
          · have hf := if_f hf c23
            by_cases c24 : p0 = (5 : Int32)
            · have hf := if_t hf c24
              refine lv_tableIn (off := 92) (tgt := 93) hx hb dX4_tell_1 (by rw [c24]; decide) (by rw [c24]; decide) (by rw [c24]; decide) (by decide) ?_
              refine lv_aload_n hx hb dX4_tell_93 rfl (lv_at hl 0 rfl) ?_
              refine kPV (tX4_readTime l G ad_t ad_t_sizes tI _ rfl) ⟨hx, hb, hml, hown, hts⟩ q917 q918 q919 q103 q920 okyX4_readTime ⟨Nat.le_of_ble_eq_true rfl, Nat.le_of_ble_eq_true rfl⟩ hP hG hS [0] rfl 0 rfl rfl hl.1 rfl (Nat.le_of_ble_eq_true rfl) dX4_tell_94 ⟨Nat.zero_le _, Nat.zero_le _⟩ (fun locs hS => ?_)
              refine W.eq (g2 := F0 m 97 ls [.int (fX4_readTime tI)]) rfl ?_
              have hf := Option.some.inj hf
              subst hf
              exact pRet hx hb hr hlocks hS dX4_tell_97
            · have hf := if_f hf c24
              by_cases c25 : p0 = (6 : Int32)
              · have hf := if_t hf c25
                refine lv_tableIn (off := 97) (tgt := 98) hx hb dX4_tell_1 (by rw [c25]; decide) (by rw [c25]; decide) (by rw [c25]; decide) (by decide) ?_
                refine lv_aload_n hx hb dX4_tell_98 rfl (lv_at hl 0 rfl) ?_
                obtain ⟨a26, h27, hf⟩ := bn_some hf
                refine kPV (tX4_cycle l G ad_t ad_t_sizes tI a26 h27) ⟨hx, hb, hml, hown, hts⟩ q529 q530 q531 q103 q532 okyX4_cycle ⟨Nat.le_of_ble_eq_true rfl, Nat.le_of_ble_eq_true rfl⟩ hP hG hS [0] rfl 0 rfl rfl hl.1 rfl (Nat.le_of_ble_eq_true rfl) dX4_tell_99 ⟨Nat.zero_le _, Nat.zero_le _⟩ (fun locs hS => ?_)
                refine W.eq (g2 := F0 m 102 ls [.int a26]) rfl ?_
                have hf := Option.some.inj hf
                subst hf
                exact pRet hx hb hr hlocks hS dX4_tell_102
              · have hf := if_f hf c25
                by_cases c28 : p0 = (7 : Int32)
                · have hf := if_t hf c28
                  refine lv_tableIn (off := 102) (tgt := 103) hx hb dX4_tell_1 (by rw [c28]; decide) (by rw [c28]; decide) (by rw [c28]; decide) (by decide) ?_
                  refine lv_aload_n hx hb dX4_tell_103 rfl (lv_at hl 0 rfl) ?_
                  refine va_get (D := G.1) (cl := vwCl) (ci := 4) (v := .int (tI 9)) (C := RX4) (T := TX4) (N := 18) hx hb hts inG4 hown hK hP 0 rfl rfl 9 (Nat.le_of_ble_eq_true rfl) (hts _ q357) (fun _ h9 => h9) rfl dX4_tell_104 ?_
                  have hf := Option.some.inj hf
                  subst hf
                  exact pRet hx hb hr hlocks hS dX4_tell_107
                · have hf := if_f hf c28
                  by_cases c29 : p0 = (8 : Int32)
                  · have hf := if_t hf c29
                    refine lv_tableIn (off := 107) (tgt := 108) hx hb dX4_tell_1 (by rw [c29]; decide) (by rw [c29]; decide) (by rw [c29]; decide) (by decide) ?_
                    refine lv_aload_n hx hb dX4_tell_108 rfl (lv_at hl 0 rfl) ?_
                    refine va_get (D := G.1) (cl := vwCl) (ci := 4) (v := .int (tI 10)) (C := RX4) (T := TX4) (N := 18) hx hb hts inG4 hown hK hP 0 rfl rfl 10 (Nat.le_of_ble_eq_true rfl) (hts _ q359) (fun _ h9 => h9) rfl dX4_tell_109 ?_
                    have hf := Option.some.inj hf
                    subst hf
                    exact pRet hx hb hr hlocks hS dX4_tell_112
                  · have hf := if_f hf c29
                    by_cases c30 : p0 = (9 : Int32)
                    · have hf := if_t hf c30
                      refine lv_tableIn (off := 112) (tgt := 113) hx hb dX4_tell_1 (by rw [c30]; decide) (by rw [c30]; decide) (by rw [c30]; decide) (by decide) ?_
                      refine lv_aload_n hx hb dX4_tell_113 rfl (lv_at hl 0 rfl) ?_
                      refine va_get (D := G.1) (cl := vwCl) (ci := 4) (v := .int (tI 11)) (C := RX4) (T := TX4) (N := 18) hx hb hts inG4 hown hK hP 0 rfl rfl 11 (Nat.le_of_ble_eq_true rfl) (hts _ q360) (fun _ h9 => h9) rfl dX4_tell_114 ?_
                      have hf := Option.some.inj hf
                      subst hf
                      exact pRet hx hb hr hlocks hS dX4_tell_117
                    · have hf := if_f hf c30
                      by_cases c31 : p0 = (10 : Int32)
                      · have hf := if_t hf c31
                        refine lv_tableIn (off := 117) (tgt := 118) hx hb dX4_tell_1 (by rw [c31]; decide) (by rw [c31]; decide) (by rw [c31]; decide) (by decide) ?_
                        refine lv_aload_n hx hb dX4_tell_118 rfl (lv_at hl 0 rfl) ?_
                        refine va_get (D := G.1) (cl := vwCl) (ci := 4) (v := .int (tI 17)) (C := RX4) (T := TX4) (N := 18) hx hb hts inG4 hown hK hP 0 rfl rfl 17 (Nat.le_of_ble_eq_true rfl) (hts _ q370) (fun _ h9 => h9) rfl dX4_tell_119 ?_
                        have hf := Option.some.inj hf
                        subst hf
                        exact pRet hx hb hr hlocks hS dX4_tell_122
                      · have hf := if_f hf c31
                        by_cases c32 : p0 = (11 : Int32)
                        · have hf := if_t hf c32
                          refine lv_tableIn (off := 122) (tgt := 123) hx hb dX4_tell_1 (by rw [c32]; decide) (by rw [c32]; decide) (by rw [c32]; decide) (by decide) ?_
                          refine lv_aload_n hx hb dX4_tell_123 rfl (lv_at hl 0 rfl) ?_
                          refine va_get (D := G.1) (cl := vwCl) (ci := 4) (v := .int (tI 14)) (C := RX4) (T := TX4) (N := 18) hx hb hts inG4 hown hK hP 0 rfl rfl 14 (Nat.le_of_ble_eq_true rfl) (hts _ q367) (fun _ h9 => h9) rfl dX4_tell_124 ?_
                          have hf := Option.some.inj hf
                          subst hf
                          exact pRet hx hb hr hlocks hS dX4_tell_127
                        · have hf := if_f hf c32
                          by_cases c33 : p0 = (12 : Int32)
                          · have hf := if_t hf c33
                            refine lv_tableIn (off := 127) (tgt := 128) hx hb dX4_tell_1 (by rw [c33]; decide) (by rw [c33]; decide) (by rw [c33]; decide) (by decide) ?_
                            refine lv_aload_n hx hb dX4_tell_128 rfl (lv_at hl 0 rfl) ?_
                            refine va_get (D := G.1) (cl := vwCl) (ci := 4) (v := .int (tI 15)) (C := RX4) (T := TX4) (N := 18) hx hb hts inG4 hown hK hP 0 rfl rfl 15 (Nat.le_of_ble_eq_true rfl) (hts _ q368) (fun _ h9 => h9) rfl dX4_tell_129 ?_
                            have hf := Option.some.inj hf
                            subst hf
                            exact pRet hx hb hr hlocks hS dX4_tell_132
                          · have hf := if_f hf c33
                            refine lv_tableOut (tgt := 133) hx hb dX4_tell_1 (by have ec19 := sw_ne (k := 0) (by decide) (by decide) c19; have ec20 := sw_ne (k := 1) (by decide) (by decide) c20; have ec21 := sw_ne (k := 2) (by decide) (by decide) c21; have ec22 := sw_ne (k := 3) (by decide) (by decide) c22; have ec23 := sw_ne (k := 4) (by decide) (by decide) c23; have ec24 := sw_ne (k := 5) (by decide) (by decide) c24; have ec25 := sw_ne (k := 6) (by decide) (by decide) c25; have ec28 := sw_ne (k := 7) (by decide) (by decide) c28; have ec29 := sw_ne (k := 8) (by decide) (by decide) c29; have ec30 := sw_ne (k := 9) (by decide) (by decide) c30; have ec31 := sw_ne (k := 10) (by decide) (by decide) c31; have ec32 := sw_ne (k := 11) (by decide) (by decide) c32; have ec33 := sw_ne (k := 12) (by decide) (by decide) c33; omega) (by decide) ?_
                            refine lv_iload_n hx hb dX4_tell_133 rfl (lv_at hl 1 rfl) ?_
                            refine lv_bipush (v := 20) hx hb dX4_tell_134 (by decide) ?_
                            refine lv_icmp_lt (tgt := 162) hx hb dX4_tell_136 (by decide) (fun c34 => ?_) (fun c34 => ?_)
                            · have hf := if_t hf c34
                              refine lv_iconst (v := -1) hx hb dX4_tell_162 (by decide) ?_
                              have hf := Option.some.inj hf
                              subst hf
                              exact pRet hx hb hr hlocks hS dX4_tell_163
                            · have hf := if_f hf c34
                              refine lv_iload_n hx hb dX4_tell_139 rfl (lv_at hl 1 rfl) ?_
                              refine lv_bipush (v := 20) hx hb dX4_tell_140 (by decide) ?_
                              refine lv_aload_n hx hb dX4_tell_142 rfl (lv_at hl 0 rfl) ?_
                              refine va_get (D := G.1) (cl := vwCl) (ci := 4) (v := .int (tI 9)) (C := RX4) (T := TX4) (N := 18) hx hb hts inG4 hown hK hP 0 rfl rfl 9 (Nat.le_of_ble_eq_true rfl) (hts _ q357) (fun _ h9 => h9) rfl dX4_tell_143 ?_
                              refine lv_iadd hx hb dX4_tell_146 ?_
                              refine lv_icmp_ge (tgt := 162) hx hb dX4_tell_147 (by decide) (fun c35 => ?_) (fun c35 => ?_)
                              · have hf := if_t hf c35
                                refine lv_iconst (v := -1) hx hb dX4_tell_162 (by decide) ?_
                                have hf := Option.some.inj hf
                                subst hf
                                exact pRet hx hb hr hlocks hS dX4_tell_163
                              · have hf := if_f hf c35
                                refine lv_aload_n hx hb dX4_tell_150 rfl (lv_at hl 0 rfl) ?_
                                refine va_get (D := G.1) (cl := vwCl) (ci := 4) (v := .ref ad_t_sizes) (C := RX4) (T := TX4) (N := 18) hx hb hts inG4 hown hK hP 0 rfl rfl 0 (Nat.le_of_ble_eq_true rfl) (hts _ q345) (fun _ h9 => h9) rfl dX4_tell_151 ?_
                                refine lv_iload_n hx hb dX4_tell_154 rfl (lv_at hl 1 rfl) ?_
                                refine lv_bipush (v := 20) hx hb dX4_tell_155 (by decide) ?_
                                refine lv_isub hx hb dX4_tell_157 ?_
                                obtain ⟨h36, hf⟩ := gd_some hf
                                refine va_iald (D := G.1) (cl := vwCl) hx hb hK hP 1 0 rfl rfl (gi_in h36) dX4_tell_158 ?_
                                refine lv_goto (tgt := 163) hx hb dX4_tell_159 (by decide) ?_
                                have hf := Option.some.inj hf
                                subst hf
                                exact pRet hx hb hr hlocks hS dX4_tell_163

def fX4_cost (tI : Nat → Int32) (p0 : Int32) : Option (Int32) :=
  (if p0 = (0 : Int32) then some (fX4_area tI) else (if p0 = (1 : Int32) then bn (fX4_cycle tI) fun a3 => some a3 else some (if 0 ≤ ((tI 12) - (tI 13)) then ((tI 12) - (tI 13)) else 0 - ((tI 12) - (tI 13)))))
set_option maxRecDepth 100000 in
set_option maxHeartbeats 4000000 in
theorem tX4_cost (l : Launch) (G : gG) (ad_t ad_t_sizes : Nat) (tI : Nat → Int32) (p0 : Int32) (o : Int32) (hf : fX4_cost tI p0 = some o) : mP G l yX4_cost cX4_cost 2 (some .int) 1 21 [.ref ad_t, .int p0] [(ad_t, .inr (4, [.ref ad_t_sizes, .int (tI 1), .int (tI 2), .int (tI 3), .int (tI 4), .int (tI 5), .int (tI 6), .int (tI 7), .int (tI 8), .int (tI 9), .int (tI 10), .int (tI 11), .int (tI 12), .int (tI 13), .int (tI 14), .int (tI 15), .int (tI 16), .int (tI 17)]))] (some (.int o)) := by
  refine mP_of (by decide) (Nat.le_of_ble_eq_true rfl) ?_
  intro p e s m below meth cd ls hx hb hml hown hts hr hlocks hl hP hG
  have hK := hG.1
  have hown : s.vm.findClass RX4 = some m.cls := hown
  have hl : lv_has ls 2 [(0, .ref ad_t), (1, .int p0)] := hl
  have hS : va_S no s.heap s.heap [] := va_S.rf
  generalize ([] : List Loc) = locs at hS ⊢
  unfold fX4_cost at hf
  show wG p l e 1 21 s m [.ref ad_t, .int p0] below meth cd s.heap locs (pQ (some (.int o))) no (F0 m 0 ls [])
  refine lv_iload_n hx hb dX4_cost_0 rfl (lv_at hl 1 rfl) ?_
  by_cases c5 : p0 = (0 : Int32)
  · have hf := if_t hf c5
    refine lv_lookup (off := 27) (tgt := 28) hx hb dX4_cost_1 (by decide) (by rw [c5]; decide) (by decide) ?_
    refine lv_aload_n hx hb dX4_cost_28 rfl (lv_at hl 0 rfl) ?_
    refine kPV (tX4_area l G ad_t ad_t_sizes tI _ rfl) ⟨hx, hb, hml, hown, hts⟩ q525 q526 q527 q103 q528 okyX4_area ⟨Nat.le_of_ble_eq_true rfl, Nat.le_of_ble_eq_true rfl⟩ hP hG hS [0] rfl 0 rfl rfl hl.1 rfl (Nat.le_of_ble_eq_true rfl) dX4_cost_29 ⟨Nat.zero_le _, Nat.zero_le _⟩ (fun locs hS => ?_)
    refine W.eq (g2 := F0 m 32 ls [.int (fX4_area tI)]) rfl ?_
    have hf := Option.some.inj hf
    subst hf
    exact pRet hx hb hr hlocks hS dX4_cost_32
  · have hf := if_f hf c5
    by_cases c6 : p0 = (1 : Int32)
    · have hf := if_t hf c6
      refine lv_lookup (off := 32) (tgt := 33) hx hb dX4_cost_1 (by decide) (by rw [c6]; decide) (by decide) ?_
      refine lv_aload_n hx hb dX4_cost_33 rfl (lv_at hl 0 rfl) ?_
      obtain ⟨a7, h8, hf⟩ := bn_some hf
      refine kPV (tX4_cycle l G ad_t ad_t_sizes tI a7 h8) ⟨hx, hb, hml, hown, hts⟩ q529 q530 q531 q103 q532 okyX4_cycle ⟨Nat.le_of_ble_eq_true rfl, Nat.le_of_ble_eq_true rfl⟩ hP hG hS [0] rfl 0 rfl rfl hl.1 rfl (Nat.le_of_ble_eq_true rfl) dX4_cost_34 ⟨Nat.zero_le _, Nat.zero_le _⟩ (fun locs hS => ?_)
      refine W.eq (g2 := F0 m 37 ls [.int a7]) rfl ?_
      have hf := Option.some.inj hf
      subst hf
      exact pRet hx hb hr hlocks hS dX4_cost_37
    · have hf := if_f hf c6
      refine lv_lookup (off := 37) (tgt := 38) hx hb dX4_cost_1 (by decide) (by have ec5 := sw_ne (k := 0) (by decide) (by decide) c5; have ec6 := sw_ne (k := 1) (by decide) (by decide) c6; simp [Op.lookupswitch.offset, ec5, Ne.symm ec5, ec6, Ne.symm ec6]) (by decide) ?_
      refine lv_aload_n hx hb dX4_cost_38 rfl (lv_at hl 0 rfl) ?_
      refine va_get (D := G.1) (cl := vwCl) (ci := 4) (v := .int (tI 12)) (C := RX4) (T := TX4) (N := 18) hx hb hts inG4 hown hK hP 0 rfl rfl 12 (Nat.le_of_ble_eq_true rfl) (hts _ q361) (fun _ h9 => h9) rfl dX4_cost_39 ?_
      refine lv_aload_n hx hb dX4_cost_42 rfl (lv_at hl 0 rfl) ?_
      refine va_get (D := G.1) (cl := vwCl) (ci := 4) (v := .int (tI 13)) (C := RX4) (T := TX4) (N := 18) hx hb hts inG4 hown hK hP 0 rfl rfl 13 (Nat.le_of_ble_eq_true rfl) (hts _ q364) (fun _ h9 => h9) rfl dX4_cost_43 ?_
      refine lv_isub hx hb dX4_cost_46 ?_
      refine va_mabs hx hb (hml.trans hl.1.symm) hown (hts _ q533) (hts _ q534) (hts _ q107) (hts _ q535) (Nat.le_of_ble_eq_true rfl) (Nat.le_of_ble_eq_true rfl) (Nat.zero_le _) (Nat.zero_le _) dX4_cost_47 ?_
      refine W.eq (g2 := F0 m 50 ls [.int (if 0 ≤ ((tI 12) - (tI 13)) then ((tI 12) - (tI 13)) else 0 - ((tI 12) - (tI 13)))]) rfl ?_
      have hf := Option.some.inj hf
      subst hf
      exact pRet hx hb hr hlocks hS dX4_cost_50

def fX5_toFirst (tI : Nat → Int32) (t_numbers : Nat → Int32) : Option ((Nat → Int32) × (Nat → Int32)) :=
  some ((upd tI 4 (0 : Int32)), (va_cpy (fun z => (sV 0).getD z 0) t_numbers 0 0 9))
set_option maxRecDepth 100000 in
set_option maxHeartbeats 4000000 in
theorem tX5_toFirst (l : Launch) (G : gG) (ad_t ad_t_numbers ad_t_badRows ad_t_badColumns ad_t_badBits : Nat) (tI : Nat → Int32) (t_numbers : Nat → Int32) (o : (Nat → Int32) × (Nat → Int32)) (hf : fX5_toFirst tI t_numbers = some o) : mE G l yX5_toFirst cX5_toFirst 1 none 1 26 0 0 [.ref ad_t] [(ad_t, .inr (5, [.ref ad_t_numbers, .ref ad_t_badRows, .ref ad_t_badColumns, .ref ad_t_badBits, .int (tI 4)])), (ad_t_numbers, .inl (G.2.1 0, 9, .inl t_numbers))] (fun r w => r = none ∧ w = [(ad_t, .inr (5, [.ref ad_t_numbers, .ref ad_t_badRows, .ref ad_t_badColumns, .ref ad_t_badBits, .int (o.1 4)])), (ad_t_numbers, .inl (G.2.1 0, 9, .inl o.2))]) := by
  refine mE_of (by decide) (Nat.le_of_ble_eq_true rfl) ?_
  intro p e s m below meth cd ls A hx hb hml hown hts hr hlocks hnm hl hA hP hD hS hG
  have hK := hG.1
  have hown : s.vm.findClass RX5 = some m.cls := hown
  have hl : lv_has ls 1 [(0, .ref ad_t)] := hl
  have hS := hS
  unfold fX5_toFirst at hf
  obtain ⟨H, locs, eH, eL⟩ : ∃ (H : Heap) (locs : List Loc), H = s.heap ∧ locs = [] := ⟨_, _, rfl, rfl⟩
  have hP : va_P G.1 vwCl [(ad_t, .inr (5, [.ref ad_t_numbers, .ref ad_t_badRows, .ref ad_t_badColumns, .ref ad_t_badBits, .int (tI 4)])), (ad_t_numbers, .inl (G.2.1 0, 9, .inl t_numbers))] H := eH ▸ hP
  have hS : va_S A s.heap H locs := by rw [eH, eL]; exact hS
  suffices hgo : wG p l e 1 26 s m [.ref ad_t] below meth cd H locs (eQ G A (fun r w => r = none ∧ w = [(ad_t, .inr (5, [.ref ad_t_numbers, .ref ad_t_badRows, .ref ad_t_badColumns, .ref ad_t_badBits, .int (o.1 4)])), (ad_t_numbers, .inl (G.2.1 0, 9, .inl o.2))])) A (F0 m 0 ls []) by rw [eH, eL] at hgo; exact hgo
  clear eH eL
  refine va_getsN hx hb (hG.2.1 0 (Nat.le_of_ble_eq_true rfl)).1 hS hown (va_Nw.use rfl (hG.2.2.1 _ n_fn_X5_27)) (fun _ h9 => h9) dX5_toFirst_0 ?_
  refine lv_iconst (v := 0) hx hb dX5_toFirst_3 (by decide) ?_
  refine lv_aload_n hx hb dX5_toFirst_4 rfl (lv_at hl 0 rfl) ?_
  refine va_get (D := G.1) (cl := vwCl) (ci := 5) (v := .ref ad_t_numbers) (C := RX5) (T := TX5) (N := 5) hx hb hts inG5 hown hK hP 0 rfl rfl 0 (Nat.le_of_ble_eq_true rfl) (hts _ q149) (fun _ h9 => h9) rfl dX5_toFirst_5 ?_
  refine lv_iconst (v := 0) hx hb dX5_toFirst_8 (by decide) ?_
  refine lv_bipush (v := 9) hx hb dX5_toFirst_9 (by decide) ?_
  refine ga_copyt (D := G.1) (cl := vwCl) hx hb (hml.trans hl.1.symm) hown (hts _ q146) (hts _ q148) (hts _ q147) (hts _ q98) hK hP hD hS (f := (fun z => (sV 0).getD z 0)) (hG.2.1 0 (Nat.le_of_ble_eq_true rfl)).2 1 0 rfl rfl (by decide) (by decide) (by decide) (by decide) (by decide) (Nat.le_of_ble_eq_true rfl) (by decide) dX5_toFirst_11 (fun H locs hP hD hS => ?_)
  have hP : va_P G.1 vwCl [(ad_t, .inr (5, [.ref ad_t_numbers, .ref ad_t_badRows, .ref ad_t_badColumns, .ref ad_t_badBits, .int (tI 4)])), (ad_t_numbers, .inl (G.2.1 0, 9, .inl (va_cpy (fun z => (sV 0).getD z 0) t_numbers 0 0 9)))] H := hP
  have hD : va_D A [(ad_t, .inr (5, [.ref ad_t_numbers, .ref ad_t_badRows, .ref ad_t_badColumns, .ref ad_t_badBits, .int (tI 4)])), (ad_t_numbers, .inl (G.2.1 0, 9, .inl (va_cpy (fun z => (sV 0).getD z 0) t_numbers 0 0 9)))] := hD
  refine W.eq (g2 := F0 m 14 ls []) rfl ?_
  refine lv_aload_n hx hb dX5_toFirst_14 rfl (lv_at hl 0 rfl) ?_
  refine lv_iconst (v := 0) hx hb dX5_toFirst_15 (by decide) ?_
  refine va_put (D := G.1) (cl := vwCl) (ci := 5) (v := .int (0 : Int32)) (ty := .int) (C := RX5) (T := TX5) (N := 5) hx hb hts inG5 tyX5 tyX5_ok nmX5 hown hK hP hD hS 0 rfl rfl 4 (Nat.le_of_ble_eq_true rfl) (hts _ q169) (fun _ h9 => h9) rfl (tyX5_ok 4 (Nat.le_of_ble_eq_true rfl)) rfl rfl (Nat.le_of_ble_eq_true rfl) dX5_toFirst_16 (fun H locs hP hD hS => ?_)
  have hP : va_P G.1 vwCl [(ad_t, .inr (5, [.ref ad_t_numbers, .ref ad_t_badRows, .ref ad_t_badColumns, .ref ad_t_badBits, .int (0 : Int32)])), (ad_t_numbers, .inl (G.2.1 0, 9, .inl (va_cpy (fun z => (sV 0).getD z 0) t_numbers 0 0 9)))] H := hP
  have hD : va_D A [(ad_t, .inr (5, [.ref ad_t_numbers, .ref ad_t_badRows, .ref ad_t_badColumns, .ref ad_t_badBits, .int (0 : Int32)])), (ad_t_numbers, .inl (G.2.1 0, 9, .inl (va_cpy (fun z => (sV 0).getD z 0) t_numbers 0 0 9)))] := hD
  have hf := Option.some.inj hf
  subst hf
  exact eRetV hx hb hr hlocks hP hD hS ⟨rfl, rfl⟩ dX5_toFirst_19

def fX5_copyFrom (tI : Nat → Int32) (t_numbers : Nat → Int32) (t_badRows : Nat → Int32) (t_badColumns : Nat → Int32) (t_badBits : Nat → Int32) (p0I : Nat → Int32) (p0_numbers : Nat → Int32) (p0_badRows : Nat → Int32) (p0_badColumns : Nat → Int32) (p0_badBits : Nat → Int32) : Option ((Nat → Int32) × (Nat → Int32) × (Nat → Int32) × (Nat → Int32) × (Nat → Int32)) :=
  some ((upd tI 4 (p0I 4)), (va_cpy p0_numbers t_numbers 0 0 9), (va_cpy p0_badRows t_badRows 0 0 12), (va_cpy p0_badColumns t_badColumns 0 0 12), (va_cpy p0_badBits t_badBits 0 0 12))
set_option maxRecDepth 100000 in
set_option maxHeartbeats 4000000 in
theorem tX5_copyFrom (l : Launch) (G : gG) (ad_t ad_t_numbers ad_t_badRows ad_t_badColumns ad_t_badBits ad_p0 ad_p0_numbers ad_p0_badRows ad_p0_badColumns ad_p0_badBits : Nat) (tI : Nat → Int32) (t_numbers : Nat → Int32) (t_badRows : Nat → Int32) (t_badColumns : Nat → Int32) (t_badBits : Nat → Int32) (p0I : Nat → Int32) (p0_numbers : Nat → Int32) (p0_badRows : Nat → Int32) (p0_badColumns : Nat → Int32) (p0_badBits : Nat → Int32) (o : (Nat → Int32) × (Nat → Int32) × (Nat → Int32) × (Nat → Int32) × (Nat → Int32)) (hf : fX5_copyFrom tI t_numbers t_badRows t_badColumns t_badBits p0I p0_numbers p0_badRows p0_badColumns p0_badBits = some o) : mE G l yX5_copyFrom cX5_copyFrom 2 none 1 26 0 0 [.ref ad_t, .ref ad_p0] [(ad_t, .inr (5, [.ref ad_t_numbers, .ref ad_t_badRows, .ref ad_t_badColumns, .ref ad_t_badBits, .int (tI 4)])), (ad_t_numbers, .inl (G.2.1 0, 9, .inl t_numbers)), (ad_t_badRows, .inl (G.2.1 0, 12, .inl t_badRows)), (ad_t_badColumns, .inl (G.2.1 0, 12, .inl t_badColumns)), (ad_t_badBits, .inl (G.2.1 0, 12, .inl t_badBits)), (ad_p0, .inr (5, [.ref ad_p0_numbers, .ref ad_p0_badRows, .ref ad_p0_badColumns, .ref ad_p0_badBits, .int (p0I 4)])), (ad_p0_numbers, .inl (G.2.1 0, 9, .inl p0_numbers)), (ad_p0_badRows, .inl (G.2.1 0, 12, .inl p0_badRows)), (ad_p0_badColumns, .inl (G.2.1 0, 12, .inl p0_badColumns)), (ad_p0_badBits, .inl (G.2.1 0, 12, .inl p0_badBits))] (fun r w => r = none ∧ w = [(ad_t, .inr (5, [.ref ad_t_numbers, .ref ad_t_badRows, .ref ad_t_badColumns, .ref ad_t_badBits, .int (o.1 4)])), (ad_t_numbers, .inl (G.2.1 0, 9, .inl o.2.1)), (ad_t_badRows, .inl (G.2.1 0, 12, .inl o.2.2.1)), (ad_t_badColumns, .inl (G.2.1 0, 12, .inl o.2.2.2.1)), (ad_t_badBits, .inl (G.2.1 0, 12, .inl o.2.2.2.2)), (ad_p0, .inr (5, [.ref ad_p0_numbers, .ref ad_p0_badRows, .ref ad_p0_badColumns, .ref ad_p0_badBits, .int (p0I 4)])), (ad_p0_numbers, .inl (G.2.1 0, 9, .inl p0_numbers)), (ad_p0_badRows, .inl (G.2.1 0, 12, .inl p0_badRows)), (ad_p0_badColumns, .inl (G.2.1 0, 12, .inl p0_badColumns)), (ad_p0_badBits, .inl (G.2.1 0, 12, .inl p0_badBits))]) := by
  refine mE_of (by decide) (Nat.le_of_ble_eq_true rfl) ?_
  intro p e s m below meth cd ls A hx hb hml hown hts hr hlocks hnm hl hA hP hD hS hG
  have hK := hG.1
  have hown : s.vm.findClass RX5 = some m.cls := hown
  have hl : lv_has ls 2 [(0, .ref ad_t), (1, .ref ad_p0)] := hl
  have hS := hS
  unfold fX5_copyFrom at hf
  obtain ⟨H, locs, eH, eL⟩ : ∃ (H : Heap) (locs : List Loc), H = s.heap ∧ locs = [] := ⟨_, _, rfl, rfl⟩
  have hP : va_P G.1 vwCl [(ad_t, .inr (5, [.ref ad_t_numbers, .ref ad_t_badRows, .ref ad_t_badColumns, .ref ad_t_badBits, .int (tI 4)])), (ad_t_numbers, .inl (G.2.1 0, 9, .inl t_numbers)), (ad_t_badRows, .inl (G.2.1 0, 12, .inl t_badRows)), (ad_t_badColumns, .inl (G.2.1 0, 12, .inl t_badColumns)), (ad_t_badBits, .inl (G.2.1 0, 12, .inl t_badBits)), (ad_p0, .inr (5, [.ref ad_p0_numbers, .ref ad_p0_badRows, .ref ad_p0_badColumns, .ref ad_p0_badBits, .int (p0I 4)])), (ad_p0_numbers, .inl (G.2.1 0, 9, .inl p0_numbers)), (ad_p0_badRows, .inl (G.2.1 0, 12, .inl p0_badRows)), (ad_p0_badColumns, .inl (G.2.1 0, 12, .inl p0_badColumns)), (ad_p0_badBits, .inl (G.2.1 0, 12, .inl p0_badBits))] H := eH ▸ hP
  have hS : va_S A s.heap H locs := by rw [eH, eL]; exact hS
  suffices hgo : wG p l e 1 26 s m [.ref ad_t, .ref ad_p0] below meth cd H locs (eQ G A (fun r w => r = none ∧ w = [(ad_t, .inr (5, [.ref ad_t_numbers, .ref ad_t_badRows, .ref ad_t_badColumns, .ref ad_t_badBits, .int (o.1 4)])), (ad_t_numbers, .inl (G.2.1 0, 9, .inl o.2.1)), (ad_t_badRows, .inl (G.2.1 0, 12, .inl o.2.2.1)), (ad_t_badColumns, .inl (G.2.1 0, 12, .inl o.2.2.2.1)), (ad_t_badBits, .inl (G.2.1 0, 12, .inl o.2.2.2.2)), (ad_p0, .inr (5, [.ref ad_p0_numbers, .ref ad_p0_badRows, .ref ad_p0_badColumns, .ref ad_p0_badBits, .int (p0I 4)])), (ad_p0_numbers, .inl (G.2.1 0, 9, .inl p0_numbers)), (ad_p0_badRows, .inl (G.2.1 0, 12, .inl p0_badRows)), (ad_p0_badColumns, .inl (G.2.1 0, 12, .inl p0_badColumns)), (ad_p0_badBits, .inl (G.2.1 0, 12, .inl p0_badBits))])) A (F0 m 0 ls []) by rw [eH, eL] at hgo; exact hgo
  clear eH eL
  refine lv_aload_n hx hb dX5_copyFrom_0 rfl (lv_at hl 1 rfl) ?_
  refine va_get (D := G.1) (cl := vwCl) (ci := 5) (v := .ref ad_p0_numbers) (C := RX5) (T := TX5) (N := 5) hx hb hts inG5 hown hK hP 5 rfl rfl 0 (Nat.le_of_ble_eq_true rfl) (hts _ q149) (fun _ h9 => h9) rfl dX5_copyFrom_1 ?_
  refine lv_iconst (v := 0) hx hb dX5_copyFrom_4 (by decide) ?_
  refine lv_aload_n hx hb dX5_copyFrom_5 rfl (lv_at hl 0 rfl) ?_
  refine va_get (D := G.1) (cl := vwCl) (ci := 5) (v := .ref ad_t_numbers) (C := RX5) (T := TX5) (N := 5) hx hb hts inG5 hown hK hP 0 rfl rfl 0 (Nat.le_of_ble_eq_true rfl) (hts _ q149) (fun _ h9 => h9) rfl dX5_copyFrom_6 ?_
  refine lv_iconst (v := 0) hx hb dX5_copyFrom_9 (by decide) ?_
  refine lv_bipush (v := 9) hx hb dX5_copyFrom_10 (by decide) ?_
  refine va_copyi (D := G.1) (cl := vwCl) hx hb (hml.trans hl.1.symm) hown (hts _ q146) (hts _ q148) (hts _ q147) (hts _ q98) hK hP hD hS 6 1 0 0 rfl rfl rfl rfl rfl (by decide) (by decide) (by decide) (by decide) (by decide) (fun _ _ => rfl) (Nat.le_of_ble_eq_true rfl) (by decide) dX5_copyFrom_12 (fun H locs hP hD hS => ?_)
  have hP : va_P G.1 vwCl [(ad_t, .inr (5, [.ref ad_t_numbers, .ref ad_t_badRows, .ref ad_t_badColumns, .ref ad_t_badBits, .int (tI 4)])), (ad_t_numbers, .inl (G.2.1 0, 9, .inl (va_cpy p0_numbers t_numbers 0 0 9))), (ad_t_badRows, .inl (G.2.1 0, 12, .inl t_badRows)), (ad_t_badColumns, .inl (G.2.1 0, 12, .inl t_badColumns)), (ad_t_badBits, .inl (G.2.1 0, 12, .inl t_badBits)), (ad_p0, .inr (5, [.ref ad_p0_numbers, .ref ad_p0_badRows, .ref ad_p0_badColumns, .ref ad_p0_badBits, .int (p0I 4)])), (ad_p0_numbers, .inl (G.2.1 0, 9, .inl p0_numbers)), (ad_p0_badRows, .inl (G.2.1 0, 12, .inl p0_badRows)), (ad_p0_badColumns, .inl (G.2.1 0, 12, .inl p0_badColumns)), (ad_p0_badBits, .inl (G.2.1 0, 12, .inl p0_badBits))] H := hP
  have hD : va_D A [(ad_t, .inr (5, [.ref ad_t_numbers, .ref ad_t_badRows, .ref ad_t_badColumns, .ref ad_t_badBits, .int (tI 4)])), (ad_t_numbers, .inl (G.2.1 0, 9, .inl (va_cpy p0_numbers t_numbers 0 0 9))), (ad_t_badRows, .inl (G.2.1 0, 12, .inl t_badRows)), (ad_t_badColumns, .inl (G.2.1 0, 12, .inl t_badColumns)), (ad_t_badBits, .inl (G.2.1 0, 12, .inl t_badBits)), (ad_p0, .inr (5, [.ref ad_p0_numbers, .ref ad_p0_badRows, .ref ad_p0_badColumns, .ref ad_p0_badBits, .int (p0I 4)])), (ad_p0_numbers, .inl (G.2.1 0, 9, .inl p0_numbers)), (ad_p0_badRows, .inl (G.2.1 0, 12, .inl p0_badRows)), (ad_p0_badColumns, .inl (G.2.1 0, 12, .inl p0_badColumns)), (ad_p0_badBits, .inl (G.2.1 0, 12, .inl p0_badBits))] := hD
  refine W.eq (g2 := F0 m 15 ls []) rfl ?_
  refine lv_aload_n hx hb dX5_copyFrom_15 rfl (lv_at hl 1 rfl) ?_
  refine va_get (D := G.1) (cl := vwCl) (ci := 5) (v := .ref ad_p0_badRows) (C := RX5) (T := TX5) (N := 5) hx hb hts inG5 hown hK hP 5 rfl rfl 1 (Nat.le_of_ble_eq_true rfl) (hts _ q155) (fun _ h9 => h9) rfl dX5_copyFrom_16 ?_
  refine lv_iconst (v := 0) hx hb dX5_copyFrom_19 (by decide) ?_
  refine lv_aload_n hx hb dX5_copyFrom_20 rfl (lv_at hl 0 rfl) ?_
  refine va_get (D := G.1) (cl := vwCl) (ci := 5) (v := .ref ad_t_badRows) (C := RX5) (T := TX5) (N := 5) hx hb hts inG5 hown hK hP 0 rfl rfl 1 (Nat.le_of_ble_eq_true rfl) (hts _ q155) (fun _ h9 => h9) rfl dX5_copyFrom_21 ?_
  refine lv_iconst (v := 0) hx hb dX5_copyFrom_24 (by decide) ?_
  refine lv_bipush (v := 12) hx hb dX5_copyFrom_25 (by decide) ?_
  refine va_copyi (D := G.1) (cl := vwCl) hx hb (hml.trans hl.1.symm) hown (hts _ q146) (hts _ q148) (hts _ q147) (hts _ q98) hK hP hD hS 7 2 0 0 rfl rfl rfl rfl rfl (by decide) (by decide) (by decide) (by decide) (by decide) (fun _ _ => rfl) (Nat.le_of_ble_eq_true rfl) (by decide) dX5_copyFrom_27 (fun H locs hP hD hS => ?_)
  have hP : va_P G.1 vwCl [(ad_t, .inr (5, [.ref ad_t_numbers, .ref ad_t_badRows, .ref ad_t_badColumns, .ref ad_t_badBits, .int (tI 4)])), (ad_t_numbers, .inl (G.2.1 0, 9, .inl (va_cpy p0_numbers t_numbers 0 0 9))), (ad_t_badRows, .inl (G.2.1 0, 12, .inl (va_cpy p0_badRows t_badRows 0 0 12))), (ad_t_badColumns, .inl (G.2.1 0, 12, .inl t_badColumns)), (ad_t_badBits, .inl (G.2.1 0, 12, .inl t_badBits)), (ad_p0, .inr (5, [.ref ad_p0_numbers, .ref ad_p0_badRows, .ref ad_p0_badColumns, .ref ad_p0_badBits, .int (p0I 4)])), (ad_p0_numbers, .inl (G.2.1 0, 9, .inl p0_numbers)), (ad_p0_badRows, .inl (G.2.1 0, 12, .inl p0_badRows)), (ad_p0_badColumns, .inl (G.2.1 0, 12, .inl p0_badColumns)), (ad_p0_badBits, .inl (G.2.1 0, 12, .inl p0_badBits))] H := hP
  have hD : va_D A [(ad_t, .inr (5, [.ref ad_t_numbers, .ref ad_t_badRows, .ref ad_t_badColumns, .ref ad_t_badBits, .int (tI 4)])), (ad_t_numbers, .inl (G.2.1 0, 9, .inl (va_cpy p0_numbers t_numbers 0 0 9))), (ad_t_badRows, .inl (G.2.1 0, 12, .inl (va_cpy p0_badRows t_badRows 0 0 12))), (ad_t_badColumns, .inl (G.2.1 0, 12, .inl t_badColumns)), (ad_t_badBits, .inl (G.2.1 0, 12, .inl t_badBits)), (ad_p0, .inr (5, [.ref ad_p0_numbers, .ref ad_p0_badRows, .ref ad_p0_badColumns, .ref ad_p0_badBits, .int (p0I 4)])), (ad_p0_numbers, .inl (G.2.1 0, 9, .inl p0_numbers)), (ad_p0_badRows, .inl (G.2.1 0, 12, .inl p0_badRows)), (ad_p0_badColumns, .inl (G.2.1 0, 12, .inl p0_badColumns)), (ad_p0_badBits, .inl (G.2.1 0, 12, .inl p0_badBits))] := hD
  refine W.eq (g2 := F0 m 30 ls []) rfl ?_
  refine lv_aload_n hx hb dX5_copyFrom_30 rfl (lv_at hl 1 rfl) ?_
  refine va_get (D := G.1) (cl := vwCl) (ci := 5) (v := .ref ad_p0_badColumns) (C := RX5) (T := TX5) (N := 5) hx hb hts inG5 hown hK hP 5 rfl rfl 2 (Nat.le_of_ble_eq_true rfl) (hts _ q160) (fun _ h9 => h9) rfl dX5_copyFrom_31 ?_
  refine lv_iconst (v := 0) hx hb dX5_copyFrom_34 (by decide) ?_
  refine lv_aload_n hx hb dX5_copyFrom_35 rfl (lv_at hl 0 rfl) ?_
  refine va_get (D := G.1) (cl := vwCl) (ci := 5) (v := .ref ad_t_badColumns) (C := RX5) (T := TX5) (N := 5) hx hb hts inG5 hown hK hP 0 rfl rfl 2 (Nat.le_of_ble_eq_true rfl) (hts _ q160) (fun _ h9 => h9) rfl dX5_copyFrom_36 ?_
  refine lv_iconst (v := 0) hx hb dX5_copyFrom_39 (by decide) ?_
  refine lv_bipush (v := 12) hx hb dX5_copyFrom_40 (by decide) ?_
  refine va_copyi (D := G.1) (cl := vwCl) hx hb (hml.trans hl.1.symm) hown (hts _ q146) (hts _ q148) (hts _ q147) (hts _ q98) hK hP hD hS 8 3 0 0 rfl rfl rfl rfl rfl (by decide) (by decide) (by decide) (by decide) (by decide) (fun _ _ => rfl) (Nat.le_of_ble_eq_true rfl) (by decide) dX5_copyFrom_42 (fun H locs hP hD hS => ?_)
  have hP : va_P G.1 vwCl [(ad_t, .inr (5, [.ref ad_t_numbers, .ref ad_t_badRows, .ref ad_t_badColumns, .ref ad_t_badBits, .int (tI 4)])), (ad_t_numbers, .inl (G.2.1 0, 9, .inl (va_cpy p0_numbers t_numbers 0 0 9))), (ad_t_badRows, .inl (G.2.1 0, 12, .inl (va_cpy p0_badRows t_badRows 0 0 12))), (ad_t_badColumns, .inl (G.2.1 0, 12, .inl (va_cpy p0_badColumns t_badColumns 0 0 12))), (ad_t_badBits, .inl (G.2.1 0, 12, .inl t_badBits)), (ad_p0, .inr (5, [.ref ad_p0_numbers, .ref ad_p0_badRows, .ref ad_p0_badColumns, .ref ad_p0_badBits, .int (p0I 4)])), (ad_p0_numbers, .inl (G.2.1 0, 9, .inl p0_numbers)), (ad_p0_badRows, .inl (G.2.1 0, 12, .inl p0_badRows)), (ad_p0_badColumns, .inl (G.2.1 0, 12, .inl p0_badColumns)), (ad_p0_badBits, .inl (G.2.1 0, 12, .inl p0_badBits))] H := hP
  have hD : va_D A [(ad_t, .inr (5, [.ref ad_t_numbers, .ref ad_t_badRows, .ref ad_t_badColumns, .ref ad_t_badBits, .int (tI 4)])), (ad_t_numbers, .inl (G.2.1 0, 9, .inl (va_cpy p0_numbers t_numbers 0 0 9))), (ad_t_badRows, .inl (G.2.1 0, 12, .inl (va_cpy p0_badRows t_badRows 0 0 12))), (ad_t_badColumns, .inl (G.2.1 0, 12, .inl (va_cpy p0_badColumns t_badColumns 0 0 12))), (ad_t_badBits, .inl (G.2.1 0, 12, .inl t_badBits)), (ad_p0, .inr (5, [.ref ad_p0_numbers, .ref ad_p0_badRows, .ref ad_p0_badColumns, .ref ad_p0_badBits, .int (p0I 4)])), (ad_p0_numbers, .inl (G.2.1 0, 9, .inl p0_numbers)), (ad_p0_badRows, .inl (G.2.1 0, 12, .inl p0_badRows)), (ad_p0_badColumns, .inl (G.2.1 0, 12, .inl p0_badColumns)), (ad_p0_badBits, .inl (G.2.1 0, 12, .inl p0_badBits))] := hD
  refine W.eq (g2 := F0 m 45 ls []) rfl ?_
  refine lv_aload_n hx hb dX5_copyFrom_45 rfl (lv_at hl 1 rfl) ?_
  refine va_get (D := G.1) (cl := vwCl) (ci := 5) (v := .ref ad_p0_badBits) (C := RX5) (T := TX5) (N := 5) hx hb hts inG5 hown hK hP 5 rfl rfl 3 (Nat.le_of_ble_eq_true rfl) (hts _ q165) (fun _ h9 => h9) rfl dX5_copyFrom_46 ?_
  refine lv_iconst (v := 0) hx hb dX5_copyFrom_49 (by decide) ?_
  refine lv_aload_n hx hb dX5_copyFrom_50 rfl (lv_at hl 0 rfl) ?_
  refine va_get (D := G.1) (cl := vwCl) (ci := 5) (v := .ref ad_t_badBits) (C := RX5) (T := TX5) (N := 5) hx hb hts inG5 hown hK hP 0 rfl rfl 3 (Nat.le_of_ble_eq_true rfl) (hts _ q165) (fun _ h9 => h9) rfl dX5_copyFrom_51 ?_
  refine lv_iconst (v := 0) hx hb dX5_copyFrom_54 (by decide) ?_
  refine lv_bipush (v := 12) hx hb dX5_copyFrom_55 (by decide) ?_
  refine va_copyi (D := G.1) (cl := vwCl) hx hb (hml.trans hl.1.symm) hown (hts _ q146) (hts _ q148) (hts _ q147) (hts _ q98) hK hP hD hS 9 4 0 0 rfl rfl rfl rfl rfl (by decide) (by decide) (by decide) (by decide) (by decide) (fun _ _ => rfl) (Nat.le_of_ble_eq_true rfl) (by decide) dX5_copyFrom_57 (fun H locs hP hD hS => ?_)
  have hP : va_P G.1 vwCl [(ad_t, .inr (5, [.ref ad_t_numbers, .ref ad_t_badRows, .ref ad_t_badColumns, .ref ad_t_badBits, .int (tI 4)])), (ad_t_numbers, .inl (G.2.1 0, 9, .inl (va_cpy p0_numbers t_numbers 0 0 9))), (ad_t_badRows, .inl (G.2.1 0, 12, .inl (va_cpy p0_badRows t_badRows 0 0 12))), (ad_t_badColumns, .inl (G.2.1 0, 12, .inl (va_cpy p0_badColumns t_badColumns 0 0 12))), (ad_t_badBits, .inl (G.2.1 0, 12, .inl (va_cpy p0_badBits t_badBits 0 0 12))), (ad_p0, .inr (5, [.ref ad_p0_numbers, .ref ad_p0_badRows, .ref ad_p0_badColumns, .ref ad_p0_badBits, .int (p0I 4)])), (ad_p0_numbers, .inl (G.2.1 0, 9, .inl p0_numbers)), (ad_p0_badRows, .inl (G.2.1 0, 12, .inl p0_badRows)), (ad_p0_badColumns, .inl (G.2.1 0, 12, .inl p0_badColumns)), (ad_p0_badBits, .inl (G.2.1 0, 12, .inl p0_badBits))] H := hP
  have hD : va_D A [(ad_t, .inr (5, [.ref ad_t_numbers, .ref ad_t_badRows, .ref ad_t_badColumns, .ref ad_t_badBits, .int (tI 4)])), (ad_t_numbers, .inl (G.2.1 0, 9, .inl (va_cpy p0_numbers t_numbers 0 0 9))), (ad_t_badRows, .inl (G.2.1 0, 12, .inl (va_cpy p0_badRows t_badRows 0 0 12))), (ad_t_badColumns, .inl (G.2.1 0, 12, .inl (va_cpy p0_badColumns t_badColumns 0 0 12))), (ad_t_badBits, .inl (G.2.1 0, 12, .inl (va_cpy p0_badBits t_badBits 0 0 12))), (ad_p0, .inr (5, [.ref ad_p0_numbers, .ref ad_p0_badRows, .ref ad_p0_badColumns, .ref ad_p0_badBits, .int (p0I 4)])), (ad_p0_numbers, .inl (G.2.1 0, 9, .inl p0_numbers)), (ad_p0_badRows, .inl (G.2.1 0, 12, .inl p0_badRows)), (ad_p0_badColumns, .inl (G.2.1 0, 12, .inl p0_badColumns)), (ad_p0_badBits, .inl (G.2.1 0, 12, .inl p0_badBits))] := hD
  refine W.eq (g2 := F0 m 60 ls []) rfl ?_
  refine lv_aload_n hx hb dX5_copyFrom_60 rfl (lv_at hl 0 rfl) ?_
  refine lv_aload_n hx hb dX5_copyFrom_61 rfl (lv_at hl 1 rfl) ?_
  refine va_get (D := G.1) (cl := vwCl) (ci := 5) (v := .int (p0I 4)) (C := RX5) (T := TX5) (N := 5) hx hb hts inG5 hown hK hP 5 rfl rfl 4 (Nat.le_of_ble_eq_true rfl) (hts _ q169) (fun _ h9 => h9) rfl dX5_copyFrom_62 ?_
  refine va_put (D := G.1) (cl := vwCl) (ci := 5) (v := .int (p0I 4)) (ty := .int) (C := RX5) (T := TX5) (N := 5) hx hb hts inG5 tyX5 tyX5_ok nmX5 hown hK hP hD hS 0 rfl rfl 4 (Nat.le_of_ble_eq_true rfl) (hts _ q169) (fun _ h9 => h9) rfl (tyX5_ok 4 (Nat.le_of_ble_eq_true rfl)) rfl rfl (Nat.le_of_ble_eq_true rfl) dX5_copyFrom_65 (fun H locs hP hD hS => ?_)
  have hP : va_P G.1 vwCl [(ad_t, .inr (5, [.ref ad_t_numbers, .ref ad_t_badRows, .ref ad_t_badColumns, .ref ad_t_badBits, .int (p0I 4)])), (ad_t_numbers, .inl (G.2.1 0, 9, .inl (va_cpy p0_numbers t_numbers 0 0 9))), (ad_t_badRows, .inl (G.2.1 0, 12, .inl (va_cpy p0_badRows t_badRows 0 0 12))), (ad_t_badColumns, .inl (G.2.1 0, 12, .inl (va_cpy p0_badColumns t_badColumns 0 0 12))), (ad_t_badBits, .inl (G.2.1 0, 12, .inl (va_cpy p0_badBits t_badBits 0 0 12))), (ad_p0, .inr (5, [.ref ad_p0_numbers, .ref ad_p0_badRows, .ref ad_p0_badColumns, .ref ad_p0_badBits, .int (p0I 4)])), (ad_p0_numbers, .inl (G.2.1 0, 9, .inl p0_numbers)), (ad_p0_badRows, .inl (G.2.1 0, 12, .inl p0_badRows)), (ad_p0_badColumns, .inl (G.2.1 0, 12, .inl p0_badColumns)), (ad_p0_badBits, .inl (G.2.1 0, 12, .inl p0_badBits))] H := hP
  have hD : va_D A [(ad_t, .inr (5, [.ref ad_t_numbers, .ref ad_t_badRows, .ref ad_t_badColumns, .ref ad_t_badBits, .int (p0I 4)])), (ad_t_numbers, .inl (G.2.1 0, 9, .inl (va_cpy p0_numbers t_numbers 0 0 9))), (ad_t_badRows, .inl (G.2.1 0, 12, .inl (va_cpy p0_badRows t_badRows 0 0 12))), (ad_t_badColumns, .inl (G.2.1 0, 12, .inl (va_cpy p0_badColumns t_badColumns 0 0 12))), (ad_t_badBits, .inl (G.2.1 0, 12, .inl (va_cpy p0_badBits t_badBits 0 0 12))), (ad_p0, .inr (5, [.ref ad_p0_numbers, .ref ad_p0_badRows, .ref ad_p0_badColumns, .ref ad_p0_badBits, .int (p0I 4)])), (ad_p0_numbers, .inl (G.2.1 0, 9, .inl p0_numbers)), (ad_p0_badRows, .inl (G.2.1 0, 12, .inl p0_badRows)), (ad_p0_badColumns, .inl (G.2.1 0, 12, .inl p0_badColumns)), (ad_p0_badBits, .inl (G.2.1 0, 12, .inl p0_badBits))] := hD
  have hf := Option.some.inj hf
  subst hf
  exact eRetV hx hb hr hlocks hP hD hS ⟨rfl, rfl⟩ dX5_copyFrom_68

def fX5_find_l2 (x1 : Int32) (x2 : Int32) (tI : Nat → Int32) (t_badRows : Nat → Int32) (t_badColumns : Nat → Int32) : Nat → Int32 → Option ((Unit) ⊕ (Int32))
  | 0, _ => none
  | n + 1, x3 =>
    (if (tI 4) ≤ x3 then some (.inl ()) else gd (gi x3 12) ((if (t_badRows x3.toNatClampNeg) = x1 then gd (gi x3 12) ((if (t_badColumns x3.toNatClampNeg) = x2 then some (.inr x3) else fX5_find_l2 x1 x2 tI t_badRows t_badColumns n (x3 + (1 : Int32)))) else fX5_find_l2 x1 x2 tI t_badRows t_badColumns n (x3 + (1 : Int32)))))
def fX5_find (tI : Nat → Int32) (t_badRows : Nat → Int32) (t_badColumns : Nat → Int32) (p0 : Int32) (p1 : Int32) : Option (Int32) :=
  (bn (fX5_find_l2 p0 p1 tI t_badRows t_badColumns FU (0 : Int32)) fun y6 => match y6 with | .inl y6z => some (-1 : Int32) | .inr y6o => some y6o)
set_option maxRecDepth 100000 in
set_option maxHeartbeats 4000000 in
theorem tX5_find (l : Launch) (G : gG) (ad_t ad_t_numbers ad_t_badRows ad_t_badColumns ad_t_badBits : Nat) (tI : Nat → Int32) (t_badRows : Nat → Int32) (t_badColumns : Nat → Int32) (p0 : Int32) (p1 : Int32) (o : Int32) (hf : fX5_find tI t_badRows t_badColumns p0 p1 = some o) : mP G l yX5_find cX5_find 4 (some .int) 0 0 [.ref ad_t, .int p0, .int p1] [(ad_t, .inr (5, [.ref ad_t_numbers, .ref ad_t_badRows, .ref ad_t_badColumns, .ref ad_t_badBits, .int (tI 4)])), (ad_t_badRows, .inl (G.2.1 0, 12, .inl t_badRows)), (ad_t_badColumns, .inl (G.2.1 0, 12, .inl t_badColumns))] (some (.int o)) := by
  refine mP_of (by decide) (Nat.le_of_ble_eq_true rfl) ?_
  intro p e s m below meth cd ls hx hb hml hown hts hr hlocks hl hP hG
  have hK := hG.1
  have hown : s.vm.findClass RX5 = some m.cls := hown
  have hl : lv_has ls 4 [(0, .ref ad_t), (1, .int p0), (2, .int p1)] := hl
  have hS : va_S no s.heap s.heap [] := va_S.rf
  generalize ([] : List Loc) = locs at hS ⊢
  unfold fX5_find at hf
  show wG p l e 0 0 s m [.ref ad_t, .int p0, .int p1] below meth cd s.heap locs (pQ (some (.int o))) no (F0 m 0 ls [])
  refine lv_iconst (v := 0) hx hb dX5_find_0 (by decide) ?_
  refine lv_istore_n (lv' := [(3, .int (0 : Int32)), (0, .ref ad_t), (1, .int p0), (2, .int p1)]) hx hb dX5_find_1 rfl hl (by decide) rfl (fun ls hl => ?_)
  obtain ⟨y7, hLy7, hky7⟩ := bn_some hf
  have Ey7 : ∀ y7z, y7 = .inl y7z → ∀  (locs : List Loc) (ls : Array Slot), lv_has ls 4 [] → va_S no s.heap s.heap locs → wG p l e 0 0 s m [.ref ad_t, .int p0, .int p1] below meth cd s.heap locs (pQ (some (.int o))) no (F0 m 38 ls []) := by
    intro y7z ez
    intro  locs ls hl hS
    subst ez
    have hf := hky7
    (try dsimp only at hf)
    refine lv_iconst (v := -1) hx hb dX5_find_38 (by decide) ?_
    have hf := Option.some.inj hf
    subst hf
    exact pRet hx hb hr hlocks hS dX5_find_39
  have Ly7 : ∀ (n : Nat), ∀ (x8 : Int32) (locs : List Loc) (ls : Array Slot), lv_has ls 4 [(3, .int x8), (0, .ref ad_t), (1, .int p0), (2, .int p1)] → va_S no s.heap s.heap locs → fX5_find_l2 p0 p1 tI t_badRows t_badColumns n x8 = some y7 → wG p l e 0 0 s m [.ref ad_t, .int p0, .int p1] below meth cd s.heap locs (pQ (some (.int o))) no (F0 m 2 ls []) := by
    intro n
    induction n with
    | zero =>
      intro x8 locs ls hl hS hf
      rw [fX5_find_l2] at hf
      cases hf
    | succ n ih =>
      intro x8 locs ls hl hS hf
      rw [fX5_find_l2] at hf
      refine lv_iload_n hx hb dX5_find_2 rfl (lv_at hl 0 rfl) ?_
      refine lv_aload_n hx hb dX5_find_3 rfl (lv_at hl 1 rfl) ?_
      refine va_get (D := G.1) (cl := vwCl) (ci := 5) (v := .int (tI 4)) (C := RX5) (T := TX5) (N := 5) hx hb hts inG5 hown hK hP 0 rfl rfl 4 (Nat.le_of_ble_eq_true rfl) (hts _ q169) (fun _ h9 => h9) rfl dX5_find_4 ?_
      refine lv_icmp_ge (tgt := 38) hx hb dX5_find_7 (by decide) (fun c9 => ?_) (fun c9 => ?_)
      · have hf := if_t hf c9
        have hf := Option.some.inj hf
        subst hf
        exact Ey7 _ rfl locs ls (lv_sub hl [] rfl) hS 
      · have hf := if_f hf c9
        refine lv_aload_n hx hb dX5_find_10 rfl (lv_at hl 1 rfl) ?_
        refine va_get (D := G.1) (cl := vwCl) (ci := 5) (v := .ref ad_t_badRows) (C := RX5) (T := TX5) (N := 5) hx hb hts inG5 hown hK hP 0 rfl rfl 1 (Nat.le_of_ble_eq_true rfl) (hts _ q155) (fun _ h9 => h9) rfl dX5_find_11 ?_
        refine lv_iload_n hx hb dX5_find_14 rfl (lv_at hl 0 rfl) ?_
        obtain ⟨h10, hf⟩ := gd_some hf
        refine va_iald (D := G.1) (cl := vwCl) hx hb hK hP 1 0 rfl rfl (gi_in h10) dX5_find_15 ?_
        refine lv_iload_n hx hb dX5_find_16 rfl (lv_at hl 2 rfl) ?_
        refine lv_icmp_ne (tgt := 32) hx hb dX5_find_17 (by decide) (fun c11 => ?_) (fun c11 => ?_)
        · have hf := if_f hf c11
          refine lv_iinc (v := (x8 + (1 : Int32))) (lv' := [(3, .int (x8 + (1 : Int32))), (0, .ref ad_t), (1, .int p0), (2, .int p1)]) hx hb dX5_find_32 hl (k := 0) rfl (ii_1 _) (by decide) rfl (fun ls hl => ?_)
          refine lv_goto (tgt := 2) hx hb dX5_find_35 (by decide) ?_
          exact ih (x8 + (1 : Int32)) locs ls (lv_sub hl [0, 1, 2, 3] rfl) hS hf
        · have hf := if_t hf c11
          refine lv_aload_n hx hb dX5_find_20 rfl (lv_at hl 1 rfl) ?_
          refine va_get (D := G.1) (cl := vwCl) (ci := 5) (v := .ref ad_t_badColumns) (C := RX5) (T := TX5) (N := 5) hx hb hts inG5 hown hK hP 0 rfl rfl 2 (Nat.le_of_ble_eq_true rfl) (hts _ q160) (fun _ h9 => h9) rfl dX5_find_21 ?_
          refine lv_iload_n hx hb dX5_find_24 rfl (lv_at hl 0 rfl) ?_
          obtain ⟨h12, hf⟩ := gd_some hf
          refine va_iald (D := G.1) (cl := vwCl) hx hb hK hP 2 0 rfl rfl (gi_in h12) dX5_find_25 ?_
          refine lv_iload_n hx hb dX5_find_26 rfl (lv_at hl 3 rfl) ?_
          refine lv_icmp_ne (tgt := 32) hx hb dX5_find_27 (by decide) (fun c13 => ?_) (fun c13 => ?_)
          · have hf := if_f hf c13
            refine lv_iinc (v := (x8 + (1 : Int32))) (lv' := [(3, .int (x8 + (1 : Int32))), (0, .ref ad_t), (1, .int p0), (2, .int p1)]) hx hb dX5_find_32 hl (k := 0) rfl (ii_1 _) (by decide) rfl (fun ls hl => ?_)
            refine lv_goto (tgt := 2) hx hb dX5_find_35 (by decide) ?_
            exact ih (x8 + (1 : Int32)) locs ls (lv_sub hl [0, 1, 2, 3] rfl) hS hf
          · have hf := if_t hf c13
            refine lv_iload_n hx hb dX5_find_30 rfl (lv_at hl 0 rfl) ?_
            have hf := Option.some.inj hf
            subst hf
            have hf := hky7
            (try dsimp only at hf)
            have hf := Option.some.inj hf
            subst hf
            exact pRet hx hb hr hlocks hS dX5_find_31
  exact Ly7 FU (0 : Int32) locs ls (lv_sub hl [0, 1, 2, 3] rfl) hS hLy7

def fX5_add (tI : Nat → Int32) (t_badRows : Nat → Int32) (t_badColumns : Nat → Int32) (t_badBits : Nat → Int32) (p0 : Int32) (p1 : Int32) (p2 : Int32) : Option ((Nat → Int32) × (Nat → Int32) × (Nat → Int32) × (Nat → Int32)) :=
  (if (12 : Int32) ≤ (tI 4) then some (tI, t_badRows, t_badColumns, t_badBits) else gd (gi (tI 4) 12) (gd (gi (tI 4) 12) (gd (gi (tI 4) 12) (some ((upd tI 4 ((tI 4) + (1 : Int32))), (upd t_badRows (tI 4).toNatClampNeg p0), (upd t_badColumns (tI 4).toNatClampNeg p1), (upd t_badBits (tI 4).toNatClampNeg p2))))))
set_option maxRecDepth 100000 in
set_option maxHeartbeats 4000000 in
theorem tX5_add (l : Launch) (G : gG) (ad_t ad_t_numbers ad_t_badRows ad_t_badColumns ad_t_badBits : Nat) (tI : Nat → Int32) (t_badRows : Nat → Int32) (t_badColumns : Nat → Int32) (t_badBits : Nat → Int32) (p0 : Int32) (p1 : Int32) (p2 : Int32) (o : (Nat → Int32) × (Nat → Int32) × (Nat → Int32) × (Nat → Int32)) (hf : fX5_add tI t_badRows t_badColumns t_badBits p0 p1 p2 = some o) : mE G l yX5_add cX5_add 4 none 0 0 0 0 [.ref ad_t, .int p0, .int p1, .int p2] [(ad_t, .inr (5, [.ref ad_t_numbers, .ref ad_t_badRows, .ref ad_t_badColumns, .ref ad_t_badBits, .int (tI 4)])), (ad_t_badRows, .inl (G.2.1 0, 12, .inl t_badRows)), (ad_t_badColumns, .inl (G.2.1 0, 12, .inl t_badColumns)), (ad_t_badBits, .inl (G.2.1 0, 12, .inl t_badBits))] (fun r w => r = none ∧ w = [(ad_t, .inr (5, [.ref ad_t_numbers, .ref ad_t_badRows, .ref ad_t_badColumns, .ref ad_t_badBits, .int (o.1 4)])), (ad_t_badRows, .inl (G.2.1 0, 12, .inl o.2.1)), (ad_t_badColumns, .inl (G.2.1 0, 12, .inl o.2.2.1)), (ad_t_badBits, .inl (G.2.1 0, 12, .inl o.2.2.2))]) := by
  refine mE_of (by decide) (Nat.le_of_ble_eq_true rfl) ?_
  intro p e s m below meth cd ls A hx hb hml hown hts hr hlocks hnm hl hA hP hD hS hG
  have hK := hG.1
  have hown : s.vm.findClass RX5 = some m.cls := hown
  have hl : lv_has ls 4 [(0, .ref ad_t), (1, .int p0), (2, .int p1), (3, .int p2)] := hl
  have hS := hS
  unfold fX5_add at hf
  obtain ⟨H, locs, eH, eL⟩ : ∃ (H : Heap) (locs : List Loc), H = s.heap ∧ locs = [] := ⟨_, _, rfl, rfl⟩
  have hP : va_P G.1 vwCl [(ad_t, .inr (5, [.ref ad_t_numbers, .ref ad_t_badRows, .ref ad_t_badColumns, .ref ad_t_badBits, .int (tI 4)])), (ad_t_badRows, .inl (G.2.1 0, 12, .inl t_badRows)), (ad_t_badColumns, .inl (G.2.1 0, 12, .inl t_badColumns)), (ad_t_badBits, .inl (G.2.1 0, 12, .inl t_badBits))] H := eH ▸ hP
  have hS : va_S A s.heap H locs := by rw [eH, eL]; exact hS
  suffices hgo : wG p l e 0 0 s m [.ref ad_t, .int p0, .int p1, .int p2] below meth cd H locs (eQ G A (fun r w => r = none ∧ w = [(ad_t, .inr (5, [.ref ad_t_numbers, .ref ad_t_badRows, .ref ad_t_badColumns, .ref ad_t_badBits, .int (o.1 4)])), (ad_t_badRows, .inl (G.2.1 0, 12, .inl o.2.1)), (ad_t_badColumns, .inl (G.2.1 0, 12, .inl o.2.2.1)), (ad_t_badBits, .inl (G.2.1 0, 12, .inl o.2.2.2))])) A (F0 m 0 ls []) by rw [eH, eL] at hgo; exact hgo
  clear eH eL
  refine lv_aload_n hx hb dX5_add_0 rfl (lv_at hl 0 rfl) ?_
  refine va_get (D := G.1) (cl := vwCl) (ci := 5) (v := .int (tI 4)) (C := RX5) (T := TX5) (N := 5) hx hb hts inG5 hown hK hP 0 rfl rfl 4 (Nat.le_of_ble_eq_true rfl) (hts _ q169) (fun _ h9 => h9) rfl dX5_add_1 ?_
  refine lv_bipush (v := 12) hx hb dX5_add_4 (by decide) ?_
  refine lv_icmp_ge (tgt := 49) hx hb dX5_add_6 (by decide) (fun c5 => ?_) (fun c5 => ?_)
  · have hf := if_t hf c5
    have hf := Option.some.inj hf
    subst hf
    exact eRetV hx hb hr hlocks hP hD hS ⟨rfl, rfl⟩ dX5_add_49
  · have hf := if_f hf c5
    refine lv_aload_n hx hb dX5_add_9 rfl (lv_at hl 0 rfl) ?_
    refine va_get (D := G.1) (cl := vwCl) (ci := 5) (v := .ref ad_t_badRows) (C := RX5) (T := TX5) (N := 5) hx hb hts inG5 hown hK hP 0 rfl rfl 1 (Nat.le_of_ble_eq_true rfl) (hts _ q155) (fun _ h9 => h9) rfl dX5_add_10 ?_
    refine lv_aload_n hx hb dX5_add_13 rfl (lv_at hl 0 rfl) ?_
    refine va_get (D := G.1) (cl := vwCl) (ci := 5) (v := .int (tI 4)) (C := RX5) (T := TX5) (N := 5) hx hb hts inG5 hown hK hP 0 rfl rfl 4 (Nat.le_of_ble_eq_true rfl) (hts _ q169) (fun _ h9 => h9) rfl dX5_add_14 ?_
    refine lv_iload_n hx hb dX5_add_17 rfl (lv_at hl 1 rfl) ?_
    obtain ⟨h6, hf⟩ := gd_some hf
    refine va_iast (D := G.1) (cl := vwCl) hx hb hK hP hD hS 1 0 rfl rfl (gi_in h6) dX5_add_18 (fun H locs hP hD hS => ?_)
    have hP : va_P G.1 vwCl [(ad_t, .inr (5, [.ref ad_t_numbers, .ref ad_t_badRows, .ref ad_t_badColumns, .ref ad_t_badBits, .int (tI 4)])), (ad_t_badRows, .inl (G.2.1 0, 12, .inl (upd t_badRows (tI 4).toNatClampNeg p0))), (ad_t_badColumns, .inl (G.2.1 0, 12, .inl t_badColumns)), (ad_t_badBits, .inl (G.2.1 0, 12, .inl t_badBits))] H := hP
    have hD : va_D A [(ad_t, .inr (5, [.ref ad_t_numbers, .ref ad_t_badRows, .ref ad_t_badColumns, .ref ad_t_badBits, .int (tI 4)])), (ad_t_badRows, .inl (G.2.1 0, 12, .inl (upd t_badRows (tI 4).toNatClampNeg p0))), (ad_t_badColumns, .inl (G.2.1 0, 12, .inl t_badColumns)), (ad_t_badBits, .inl (G.2.1 0, 12, .inl t_badBits))] := hD
    refine lv_aload_n hx hb dX5_add_19 rfl (lv_at hl 0 rfl) ?_
    refine va_get (D := G.1) (cl := vwCl) (ci := 5) (v := .ref ad_t_badColumns) (C := RX5) (T := TX5) (N := 5) hx hb hts inG5 hown hK hP 0 rfl rfl 2 (Nat.le_of_ble_eq_true rfl) (hts _ q160) (fun _ h9 => h9) rfl dX5_add_20 ?_
    refine lv_aload_n hx hb dX5_add_23 rfl (lv_at hl 0 rfl) ?_
    refine va_get (D := G.1) (cl := vwCl) (ci := 5) (v := .int (tI 4)) (C := RX5) (T := TX5) (N := 5) hx hb hts inG5 hown hK hP 0 rfl rfl 4 (Nat.le_of_ble_eq_true rfl) (hts _ q169) (fun _ h9 => h9) rfl dX5_add_24 ?_
    refine lv_iload_n hx hb dX5_add_27 rfl (lv_at hl 2 rfl) ?_
    obtain ⟨h7, hf⟩ := gd_some hf
    refine va_iast (D := G.1) (cl := vwCl) hx hb hK hP hD hS 2 0 rfl rfl (gi_in h7) dX5_add_28 (fun H locs hP hD hS => ?_)
    have hP : va_P G.1 vwCl [(ad_t, .inr (5, [.ref ad_t_numbers, .ref ad_t_badRows, .ref ad_t_badColumns, .ref ad_t_badBits, .int (tI 4)])), (ad_t_badRows, .inl (G.2.1 0, 12, .inl (upd t_badRows (tI 4).toNatClampNeg p0))), (ad_t_badColumns, .inl (G.2.1 0, 12, .inl (upd t_badColumns (tI 4).toNatClampNeg p1))), (ad_t_badBits, .inl (G.2.1 0, 12, .inl t_badBits))] H := hP
    have hD : va_D A [(ad_t, .inr (5, [.ref ad_t_numbers, .ref ad_t_badRows, .ref ad_t_badColumns, .ref ad_t_badBits, .int (tI 4)])), (ad_t_badRows, .inl (G.2.1 0, 12, .inl (upd t_badRows (tI 4).toNatClampNeg p0))), (ad_t_badColumns, .inl (G.2.1 0, 12, .inl (upd t_badColumns (tI 4).toNatClampNeg p1))), (ad_t_badBits, .inl (G.2.1 0, 12, .inl t_badBits))] := hD
    refine lv_aload_n hx hb dX5_add_29 rfl (lv_at hl 0 rfl) ?_
    refine va_get (D := G.1) (cl := vwCl) (ci := 5) (v := .ref ad_t_badBits) (C := RX5) (T := TX5) (N := 5) hx hb hts inG5 hown hK hP 0 rfl rfl 3 (Nat.le_of_ble_eq_true rfl) (hts _ q165) (fun _ h9 => h9) rfl dX5_add_30 ?_
    refine lv_aload_n hx hb dX5_add_33 rfl (lv_at hl 0 rfl) ?_
    refine va_get (D := G.1) (cl := vwCl) (ci := 5) (v := .int (tI 4)) (C := RX5) (T := TX5) (N := 5) hx hb hts inG5 hown hK hP 0 rfl rfl 4 (Nat.le_of_ble_eq_true rfl) (hts _ q169) (fun _ h9 => h9) rfl dX5_add_34 ?_
    refine lv_iload_n hx hb dX5_add_37 rfl (lv_at hl 3 rfl) ?_
    obtain ⟨h8, hf⟩ := gd_some hf
    refine va_iast (D := G.1) (cl := vwCl) hx hb hK hP hD hS 3 0 rfl rfl (gi_in h8) dX5_add_38 (fun H locs hP hD hS => ?_)
    have hP : va_P G.1 vwCl [(ad_t, .inr (5, [.ref ad_t_numbers, .ref ad_t_badRows, .ref ad_t_badColumns, .ref ad_t_badBits, .int (tI 4)])), (ad_t_badRows, .inl (G.2.1 0, 12, .inl (upd t_badRows (tI 4).toNatClampNeg p0))), (ad_t_badColumns, .inl (G.2.1 0, 12, .inl (upd t_badColumns (tI 4).toNatClampNeg p1))), (ad_t_badBits, .inl (G.2.1 0, 12, .inl (upd t_badBits (tI 4).toNatClampNeg p2)))] H := hP
    have hD : va_D A [(ad_t, .inr (5, [.ref ad_t_numbers, .ref ad_t_badRows, .ref ad_t_badColumns, .ref ad_t_badBits, .int (tI 4)])), (ad_t_badRows, .inl (G.2.1 0, 12, .inl (upd t_badRows (tI 4).toNatClampNeg p0))), (ad_t_badColumns, .inl (G.2.1 0, 12, .inl (upd t_badColumns (tI 4).toNatClampNeg p1))), (ad_t_badBits, .inl (G.2.1 0, 12, .inl (upd t_badBits (tI 4).toNatClampNeg p2)))] := hD
    refine lv_aload_n hx hb dX5_add_39 rfl (lv_at hl 0 rfl) ?_
    refine lv_dup hx hb dX5_add_40 rfl ?_
    refine va_get (D := G.1) (cl := vwCl) (ci := 5) (v := .int (tI 4)) (C := RX5) (T := TX5) (N := 5) hx hb hts inG5 hown hK hP 0 rfl rfl 4 (Nat.le_of_ble_eq_true rfl) (hts _ q169) (fun _ h9 => h9) rfl dX5_add_41 ?_
    refine lv_iconst (v := 1) hx hb dX5_add_44 (by decide) ?_
    refine lv_iadd hx hb dX5_add_45 ?_
    refine va_put (D := G.1) (cl := vwCl) (ci := 5) (v := .int ((tI 4) + (1 : Int32))) (ty := .int) (C := RX5) (T := TX5) (N := 5) hx hb hts inG5 tyX5 tyX5_ok nmX5 hown hK hP hD hS 0 rfl rfl 4 (Nat.le_of_ble_eq_true rfl) (hts _ q169) (fun _ h9 => h9) rfl (tyX5_ok 4 (Nat.le_of_ble_eq_true rfl)) rfl rfl (Nat.le_of_ble_eq_true rfl) dX5_add_46 (fun H locs hP hD hS => ?_)
    have hP : va_P G.1 vwCl [(ad_t, .inr (5, [.ref ad_t_numbers, .ref ad_t_badRows, .ref ad_t_badColumns, .ref ad_t_badBits, .int ((tI 4) + (1 : Int32))])), (ad_t_badRows, .inl (G.2.1 0, 12, .inl (upd t_badRows (tI 4).toNatClampNeg p0))), (ad_t_badColumns, .inl (G.2.1 0, 12, .inl (upd t_badColumns (tI 4).toNatClampNeg p1))), (ad_t_badBits, .inl (G.2.1 0, 12, .inl (upd t_badBits (tI 4).toNatClampNeg p2)))] H := hP
    have hD : va_D A [(ad_t, .inr (5, [.ref ad_t_numbers, .ref ad_t_badRows, .ref ad_t_badColumns, .ref ad_t_badBits, .int ((tI 4) + (1 : Int32))])), (ad_t_badRows, .inl (G.2.1 0, 12, .inl (upd t_badRows (tI 4).toNatClampNeg p0))), (ad_t_badColumns, .inl (G.2.1 0, 12, .inl (upd t_badColumns (tI 4).toNatClampNeg p1))), (ad_t_badBits, .inl (G.2.1 0, 12, .inl (upd t_badBits (tI 4).toNatClampNeg p2)))] := hD
    have hf := Option.some.inj hf
    subst hf
    exact eRetV hx hb hr hlocks hP hD hS ⟨rfl, rfl⟩ dX5_add_49
