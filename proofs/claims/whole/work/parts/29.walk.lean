def fX4_cost (tI : Nat → Int32) (p0 : Int32) : Option (Int32) :=
  (if p0 = (0 : Int32) then some (fX4_area tI) else (if p0 = (1 : Int32) then bn (fX4_cycle tI) fun a3 => some a3 else some (if 0 ≤ ((tI 12) - (tI 13)) then ((tI 12) - (tI 13)) else 0 - ((tI 12) - (tI 13)))))
set_option maxRecDepth 100000 in
set_option maxHeartbeats 4000000 in
theorem tX4_cost (l : Launch) (G : gG) (ad_t ad_t_sizes : Nat) (tI : Nat → Int32) (p0 : Int32) (o : Int32) (hf : fX4_cost tI p0 = some o) : mP G l yX4_cost cX4_cost 2 (some .int) 1 21 [.ref ad_t, .int p0] [(ad_t, .inr (4, [.ref ad_t_sizes, .int (tI 1), .int (tI 2), .int (tI 3), .int (tI 4), .int (tI 5), .int (tI 6), .int (tI 7), .int (tI 8), .int (tI 9), .int (tI 10), .int (tI 11), .int (tI 12), .int (tI 13), .int (tI 14), .int (tI 15), .int (tI 16), .int (tI 17)]))] (some (.int o)) := by
  refine mP_of (by decide) (Nat.le_of_ble_eq_true rfl) ?_
  intro p e s m below meth cd ls hx hb hml hown hts hr hlocks hl hP hG
  have hK := hG.1
  have hown : s.vm.findClass RX4 = some m.cls := hown
  have hl : lv_has ls 2 [(0, .ref ad_t), (1, .int p0)] := hl
  have hS : va_S no s.heap s.heap [] := va_S.rf
  generalize ([] : List Loc) = locs at hS ⊢
  unfold fX4_cost at hf
  show wG p l e 1 21 s m [.ref ad_t, .int p0] below meth cd s.heap locs (pQ (some (.int o))) no (F0 m 0 ls [])
  refine lv_iload_n hx hb dX4_cost_0 rfl (lv_at hl 1 rfl) ?_
  by_cases c5 : p0 = (0 : Int32)
  · have hf := if_t hf c5
    refine lv_lookup (off := 27) (tgt := 28) hx hb dX4_cost_1 (by decide) (by rw [c5]; decide) (by decide) ?_
    refine lv_aload_n hx hb dX4_cost_28 rfl (lv_at hl 0 rfl) ?_
    refine kPV (tX4_area l G ad_t ad_t_sizes tI _ rfl) ⟨hx, hb, hml, hown, hts⟩ q525 q526 q527 q103 q528 okyX4_area ⟨Nat.le_of_ble_eq_true rfl, Nat.le_of_ble_eq_true rfl⟩ hP hG hS [0] rfl 0 rfl rfl hl.1 rfl (Nat.le_of_ble_eq_true rfl) dX4_cost_29 ⟨Nat.zero_le _, Nat.zero_le _⟩ (fun locs hS => ?_)
    refine W.eq (g2 := F0 m 32 ls [.int (fX4_area tI)]) rfl ?_
    have hf := Option.some.inj hf
    subst hf
    exact pRet hx hb hr hlocks hS dX4_cost_32
  · have hf := if_f hf c5
    by_cases c6 : p0 = (1 : Int32)
    · have hf := if_t hf c6
      refine lv_lookup (off := 32) (tgt := 33) hx hb dX4_cost_1 (by decide) (by rw [c6]; decide) (by decide) ?_
      refine lv_aload_n hx hb dX4_cost_33 rfl (lv_at hl 0 rfl) ?_
      obtain ⟨a7, h8, hf⟩ := bn_some hf
      refine kPV (tX4_cycle l G ad_t ad_t_sizes tI a7 h8) ⟨hx, hb, hml, hown, hts⟩ q529 q530 q531 q103 q532 okyX4_cycle ⟨Nat.le_of_ble_eq_true rfl, Nat.le_of_ble_eq_true rfl⟩ hP hG hS [0] rfl 0 rfl rfl hl.1 rfl (Nat.le_of_ble_eq_true rfl) dX4_cost_34 ⟨Nat.zero_le _, Nat.zero_le _⟩ (fun locs hS => ?_)
      refine W.eq (g2 := F0 m 37 ls [.int a7]) rfl ?_
      have hf := Option.some.inj hf
      subst hf
      exact pRet hx hb hr hlocks hS dX4_cost_37
    · have hf := if_f hf c6
      refine lv_lookup (off := 37) (tgt := 38) hx hb dX4_cost_1 (by decide) (by have ec5 := sw_ne (k := 0) (by decide) (by decide) c5; have ec6 := sw_ne (k := 1) (by decide) (by decide) c6; simp [Op.lookupswitch.offset, ec5, Ne.symm ec5, ec6, Ne.symm ec6]) (by decide) ?_
      refine lv_aload_n hx hb dX4_cost_38 rfl (lv_at hl 0 rfl) ?_
      refine va_get (D := G.1) (cl := vwCl) (ci := 4) (v := .int (tI 12)) (C := RX4) (T := TX4) (N := 18) hx hb hts inG4 hown hK hP 0 rfl rfl 12 (Nat.le_of_ble_eq_true rfl) (hts _ q361) (fun _ h9 => h9) rfl dX4_cost_39 ?_
      refine lv_aload_n hx hb dX4_cost_42 rfl (lv_at hl 0 rfl) ?_
      refine va_get (D := G.1) (cl := vwCl) (ci := 4) (v := .int (tI 13)) (C := RX4) (T := TX4) (N := 18) hx hb hts inG4 hown hK hP 0 rfl rfl 13 (Nat.le_of_ble_eq_true rfl) (hts _ q364) (fun _ h9 => h9) rfl dX4_cost_43 ?_
      refine lv_isub hx hb dX4_cost_46 ?_
      refine va_mabs hx hb (hml.trans hl.1.symm) hown (hts _ q533) (hts _ q534) (hts _ q107) (hts _ q535) (Nat.le_of_ble_eq_true rfl) (Nat.le_of_ble_eq_true rfl) (Nat.zero_le _) (Nat.zero_le _) dX4_cost_47 ?_
      refine W.eq (g2 := F0 m 50 ls [.int (if 0 ≤ ((tI 12) - (tI 13)) then ((tI 12) - (tI 13)) else 0 - ((tI 12) - (tI 13)))]) rfl ?_
      have hf := Option.some.inj hf
      subst hf
      exact pRet hx hb hr hlocks hS dX4_cost_50

def fX5_find_l2 (x1 : Int32) (x2 : Int32) (tI : Nat → Int32) (t_badRows : Nat → Int32) (t_badColumns : Nat → Int32) : Nat → Int32 → Option ((Unit) ⊕ (Int32))
  | 0, _ => none
  | n + 1, x3 =>
    (if (tI 4) ≤ x3 then some (.inl ()) else gd (gi x3 12) ((if (t_badRows x3.toNatClampNeg) = x1 then gd (gi x3 12) ((if (t_badColumns x3.toNatClampNeg) = x2 then some (.inr x3) else fX5_find_l2 x1 x2 tI t_badRows t_badColumns n (x3 + (1 : Int32)))) else fX5_find_l2 x1 x2 tI t_badRows t_badColumns n (x3 + (1 : Int32)))))
def fX5_find (tI : Nat → Int32) (t_badRows : Nat → Int32) (t_badColumns : Nat → Int32) (p0 : Int32) (p1 : Int32) : Option (Int32) :=
  (bn (fX5_find_l2 p0 p1 tI t_badRows t_badColumns FU (0 : Int32)) fun y6 => match y6 with | .inl y6z => some (-1 : Int32) | .inr y6o => some y6o)
set_option maxRecDepth 100000 in
set_option maxHeartbeats 4000000 in
theorem tX5_find (l : Launch) (G : gG) (ad_t ad_t_numbers ad_t_badRows ad_t_badColumns ad_t_badBits : Nat) (tI : Nat → Int32) (t_badRows : Nat → Int32) (t_badColumns : Nat → Int32) (p0 : Int32) (p1 : Int32) (o : Int32) (hf : fX5_find tI t_badRows t_badColumns p0 p1 = some o) : mP G l yX5_find cX5_find 4 (some .int) 0 0 [.ref ad_t, .int p0, .int p1] [(ad_t, .inr (5, [.ref ad_t_numbers, .ref ad_t_badRows, .ref ad_t_badColumns, .ref ad_t_badBits, .int (tI 4)])), (ad_t_badRows, .inl (G.2.1 0, 12, .inl t_badRows)), (ad_t_badColumns, .inl (G.2.1 0, 12, .inl t_badColumns))] (some (.int o)) := by
  refine mP_of (by decide) (Nat.le_of_ble_eq_true rfl) ?_
  intro p e s m below meth cd ls hx hb hml hown hts hr hlocks hl hP hG
  have hK := hG.1
  have hown : s.vm.findClass RX5 = some m.cls := hown
  have hl : lv_has ls 4 [(0, .ref ad_t), (1, .int p0), (2, .int p1)] := hl
  have hS : va_S no s.heap s.heap [] := va_S.rf
  generalize ([] : List Loc) = locs at hS ⊢
  unfold fX5_find at hf
  show wG p l e 0 0 s m [.ref ad_t, .int p0, .int p1] below meth cd s.heap locs (pQ (some (.int o))) no (F0 m 0 ls [])
  refine lv_iconst (v := 0) hx hb dX5_find_0 (by decide) ?_
  refine lv_istore_n (lv' := [(3, .int (0 : Int32)), (0, .ref ad_t), (1, .int p0), (2, .int p1)]) hx hb dX5_find_1 rfl hl (by decide) rfl (fun ls hl => ?_)
  obtain ⟨y7, hLy7, hky7⟩ := bn_some hf
  have Ey7 : ∀ y7z, y7 = .inl y7z → ∀  (locs : List Loc) (ls : Array Slot), lv_has ls 4 [] → va_S no s.heap s.heap locs → wG p l e 0 0 s m [.ref ad_t, .int p0, .int p1] below meth cd s.heap locs (pQ (some (.int o))) no (F0 m 38 ls []) := by
    intro y7z ez
    intro  locs ls hl hS
    subst ez
    have hf := hky7
    (try dsimp only at hf)
    refine lv_iconst (v := -1) hx hb dX5_find_38 (by decide) ?_
    have hf := Option.some.inj hf
    subst hf
    exact pRet hx hb hr hlocks hS dX5_find_39
  have Ly7 : ∀ (n : Nat), ∀ (x8 : Int32) (locs : List Loc) (ls : Array Slot), lv_has ls 4 [(3, .int x8), (0, .ref ad_t), (1, .int p0), (2, .int p1)] → va_S no s.heap s.heap locs → fX5_find_l2 p0 p1 tI t_badRows t_badColumns n x8 = some y7 → wG p l e 0 0 s m [.ref ad_t, .int p0, .int p1] below meth cd s.heap locs (pQ (some (.int o))) no (F0 m 2 ls []) := by
    intro n
    induction n with
    | zero =>
      intro x8 locs ls hl hS hf
      rw [fX5_find_l2] at hf
      cases hf
    | succ n ih =>
      intro x8 locs ls hl hS hf
      rw [fX5_find_l2] at hf
      refine lv_iload_n hx hb dX5_find_2 rfl (lv_at hl 0 rfl) ?_
      refine lv_aload_n hx hb dX5_find_3 rfl (lv_at hl 1 rfl) ?_
      refine va_get (D := G.1) (cl := vwCl) (ci := 5) (v := .int (tI 4)) (C := RX5) (T := TX5) (N := 5) hx hb hts inG5 hown hK hP 0 rfl rfl 4 (Nat.le_of_ble_eq_true rfl) (hts _ q169) (fun _ h9 => h9) rfl dX5_find_4 ?_
      refine lv_icmp_ge (tgt := 38) hx hb dX5_find_7 (by decide) (fun c9 => ?_) (fun c9 => ?_)
      · have hf := if_t hf c9
        have hf := Option.some.inj hf
        subst hf
        exact Ey7 _ rfl locs ls (lv_sub hl [] rfl) hS 
      · have hf := if_f hf c9
        refine lv_aload_n hx hb dX5_find_10 rfl (lv_at hl 1 rfl) ?_
        refine va_get (D := G.1) (cl := vwCl) (ci := 5) (v := .ref ad_t_badRows) (C := RX5) (T := TX5) (N := 5) hx hb hts inG5 hown hK hP 0 rfl rfl 1 (Nat.le_of_ble_eq_true rfl) (hts _ q155) (fun _ h9 => h9) rfl dX5_find_11 ?_
        refine lv_iload_n hx hb dX5_find_14 rfl (lv_at hl 0 rfl) ?_
        obtain ⟨h10, hf⟩ := gd_some hf
        refine va_iald (D := G.1) (cl := vwCl) hx hb hK hP 1 0 rfl rfl (gi_in h10) dX5_find_15 ?_
        refine lv_iload_n hx hb dX5_find_16 rfl (lv_at hl 2 rfl) ?_
        refine lv_icmp_ne (tgt := 32) hx hb dX5_find_17 (by decide) (fun c11 => ?_) (fun c11 => ?_)
        · have hf := if_f hf c11
          refine lv_iinc (v := (x8 + (1 : Int32))) (lv' := [(3, .int (x8 + (1 : Int32))), (0, .ref ad_t), (1, .int p0), (2, .int p1)]) hx hb dX5_find_32 hl (k := 0) rfl (ii_1 _) (by decide) rfl (fun ls hl => ?_)
          refine lv_goto (tgt := 2) hx hb dX5_find_35 (by decide) ?_
          exact ih (x8 + (1 : Int32)) locs ls (lv_sub hl [0, 1, 2, 3] rfl) hS hf
        · have hf := if_t hf c11
          refine lv_aload_n hx hb dX5_find_20 rfl (lv_at hl 1 rfl) ?_
          refine va_get (D := G.1) (cl := vwCl) (ci := 5) (v := .ref ad_t_badColumns) (C := RX5) (T := TX5) (N := 5) hx hb hts inG5 hown hK hP 0 rfl rfl 2 (Nat.le_of_ble_eq_true rfl) (hts _ q160) (fun _ h9 => h9) rfl dX5_find_21 ?_
          refine lv_iload_n hx hb dX5_find_24 rfl (lv_at hl 0 rfl) ?_
          obtain ⟨h12, hf⟩ := gd_some hf
          refine va_iald (D := G.1) (cl := vwCl) hx hb hK hP 2 0 rfl rfl (gi_in h12) dX5_find_25 ?_
          refine lv_iload_n hx hb dX5_find_26 rfl (lv_at hl 3 rfl) ?_
          refine lv_icmp_ne (tgt := 32) hx hb dX5_find_27 (by decide) (fun c13 => ?_) (fun c13 => ?_)
          · have hf := if_f hf c13
            refine lv_iinc (v := (x8 + (1 : Int32))) (lv' := [(3, .int (x8 + (1 : Int32))), (0, .ref ad_t), (1, .int p0), (2, .int p1)]) hx hb dX5_find_32 hl (k := 0) rfl (ii_1 _) (by decide) rfl (fun ls hl => ?_)
            refine lv_goto (tgt := 2) hx hb dX5_find_35 (by decide) ?_
            exact ih (x8 + (1 : Int32)) locs ls (lv_sub hl [0, 1, 2, 3] rfl) hS hf
          · have hf := if_t hf c13
            refine lv_iload_n hx hb dX5_find_30 rfl (lv_at hl 0 rfl) ?_
            have hf := Option.some.inj hf
            subst hf
            have hf := hky7
            (try dsimp only at hf)
            have hf := Option.some.inj hf
            subst hf
            exact pRet hx hb hr hlocks hS dX5_find_31
  exact Ly7 FU (0 : Int32) locs ls (lv_sub hl [0, 1, 2, 3] rfl) hS hLy7

def fX5_add (tI : Nat → Int32) (t_badRows : Nat → Int32) (t_badColumns : Nat → Int32) (t_badBits : Nat → Int32) (p0 : Int32) (p1 : Int32) (p2 : Int32) : Option ((Nat → Int32) × (Nat → Int32) × (Nat → Int32) × (Nat → Int32)) :=
  (if (12 : Int32) ≤ (tI 4) then some (tI, t_badRows, t_badColumns, t_badBits) else gd (gi (tI 4) 12) (gd (gi (tI 4) 12) (gd (gi (tI 4) 12) (some ((upd tI 4 ((tI 4) + (1 : Int32))), (upd t_badRows (tI 4).toNatClampNeg p0), (upd t_badColumns (tI 4).toNatClampNeg p1), (upd t_badBits (tI 4).toNatClampNeg p2))))))
set_option maxRecDepth 100000 in
set_option maxHeartbeats 4000000 in
theorem tX5_add (l : Launch) (G : gG) (ad_t ad_t_numbers ad_t_badRows ad_t_badColumns ad_t_badBits : Nat) (tI : Nat → Int32) (t_badRows : Nat → Int32) (t_badColumns : Nat → Int32) (t_badBits : Nat → Int32) (p0 : Int32) (p1 : Int32) (p2 : Int32) (o : (Nat → Int32) × (Nat → Int32) × (Nat → Int32) × (Nat → Int32)) (hf : fX5_add tI t_badRows t_badColumns t_badBits p0 p1 p2 = some o) : mE G l yX5_add cX5_add 4 none 0 0 0 0 [.ref ad_t, .int p0, .int p1, .int p2] [(ad_t, .inr (5, [.ref ad_t_numbers, .ref ad_t_badRows, .ref ad_t_badColumns, .ref ad_t_badBits, .int (tI 4)])), (ad_t_badRows, .inl (G.2.1 0, 12, .inl t_badRows)), (ad_t_badColumns, .inl (G.2.1 0, 12, .inl t_badColumns)), (ad_t_badBits, .inl (G.2.1 0, 12, .inl t_badBits))] (fun r w => r = none ∧ w = [(ad_t, .inr (5, [.ref ad_t_numbers, .ref ad_t_badRows, .ref ad_t_badColumns, .ref ad_t_badBits, .int (o.1 4)])), (ad_t_badRows, .inl (G.2.1 0, 12, .inl o.2.1)), (ad_t_badColumns, .inl (G.2.1 0, 12, .inl o.2.2.1)), (ad_t_badBits, .inl (G.2.1 0, 12, .inl o.2.2.2))]) := by
  refine mE_of (by decide) (Nat.le_of_ble_eq_true rfl) ?_
  intro p e s m below meth cd ls A hx hb hml hown hts hr hlocks hnm hl hA hP hD hS hG
  have hK := hG.1
  have hown : s.vm.findClass RX5 = some m.cls := hown
  have hl : lv_has ls 4 [(0, .ref ad_t), (1, .int p0), (2, .int p1), (3, .int p2)] := hl
  have hS := hS
  unfold fX5_add at hf
  obtain ⟨H, locs, eH, eL⟩ : ∃ (H : Heap) (locs : List Loc), H = s.heap ∧ locs = [] := ⟨_, _, rfl, rfl⟩
  have hP : va_P G.1 vwCl [(ad_t, .inr (5, [.ref ad_t_numbers, .ref ad_t_badRows, .ref ad_t_badColumns, .ref ad_t_badBits, .int (tI 4)])), (ad_t_badRows, .inl (G.2.1 0, 12, .inl t_badRows)), (ad_t_badColumns, .inl (G.2.1 0, 12, .inl t_badColumns)), (ad_t_badBits, .inl (G.2.1 0, 12, .inl t_badBits))] H := eH ▸ hP
  have hS : va_S A s.heap H locs := by rw [eH, eL]; exact hS
  suffices hgo : wG p l e 0 0 s m [.ref ad_t, .int p0, .int p1, .int p2] below meth cd H locs (eQ G A (fun r w => r = none ∧ w = [(ad_t, .inr (5, [.ref ad_t_numbers, .ref ad_t_badRows, .ref ad_t_badColumns, .ref ad_t_badBits, .int (o.1 4)])), (ad_t_badRows, .inl (G.2.1 0, 12, .inl o.2.1)), (ad_t_badColumns, .inl (G.2.1 0, 12, .inl o.2.2.1)), (ad_t_badBits, .inl (G.2.1 0, 12, .inl o.2.2.2))])) A (F0 m 0 ls []) by rw [eH, eL] at hgo; exact hgo
  clear eH eL
  refine lv_aload_n hx hb dX5_add_0 rfl (lv_at hl 0 rfl) ?_
  refine va_get (D := G.1) (cl := vwCl) (ci := 5) (v := .int (tI 4)) (C := RX5) (T := TX5) (N := 5) hx hb hts inG5 hown hK hP 0 rfl rfl 4 (Nat.le_of_ble_eq_true rfl) (hts _ q169) (fun _ h9 => h9) rfl dX5_add_1 ?_
  refine lv_bipush (v := 12) hx hb dX5_add_4 (by decide) ?_
  refine lv_icmp_ge (tgt := 49) hx hb dX5_add_6 (by decide) (fun c5 => ?_) (fun c5 => ?_)
  · have hf := if_t hf c5
    have hf := Option.some.inj hf
    subst hf
    exact eRetV hx hb hr hlocks hP hD hS ⟨rfl, rfl⟩ dX5_add_49
  · have hf := if_f hf c5
    refine lv_aload_n hx hb dX5_add_9 rfl (lv_at hl 0 rfl) ?_
    refine va_get (D := G.1) (cl := vwCl) (ci := 5) (v := .ref ad_t_badRows) (C := RX5) (T := TX5) (N := 5) hx hb hts inG5 hown hK hP 0 rfl rfl 1 (Nat.le_of_ble_eq_true rfl) (hts _ q155) (fun _ h9 => h9) rfl dX5_add_10 ?_
    refine lv_aload_n hx hb dX5_add_13 rfl (lv_at hl 0 rfl) ?_
    refine va_get (D := G.1) (cl := vwCl) (ci := 5) (v := .int (tI 4)) (C := RX5) (T := TX5) (N := 5) hx hb hts inG5 hown hK hP 0 rfl rfl 4 (Nat.le_of_ble_eq_true rfl) (hts _ q169) (fun _ h9 => h9) rfl dX5_add_14 ?_
    refine lv_iload_n hx hb dX5_add_17 rfl (lv_at hl 1 rfl) ?_
    obtain ⟨h6, hf⟩ := gd_some hf
    refine va_iast (D := G.1) (cl := vwCl) hx hb hK hP hD hS 1 0 rfl rfl (gi_in h6) dX5_add_18 (fun H locs hP hD hS => ?_)
    have hP : va_P G.1 vwCl [(ad_t, .inr (5, [.ref ad_t_numbers, .ref ad_t_badRows, .ref ad_t_badColumns, .ref ad_t_badBits, .int (tI 4)])), (ad_t_badRows, .inl (G.2.1 0, 12, .inl (upd t_badRows (tI 4).toNatClampNeg p0))), (ad_t_badColumns, .inl (G.2.1 0, 12, .inl t_badColumns)), (ad_t_badBits, .inl (G.2.1 0, 12, .inl t_badBits))] H := hP
    have hD : va_D A [(ad_t, .inr (5, [.ref ad_t_numbers, .ref ad_t_badRows, .ref ad_t_badColumns, .ref ad_t_badBits, .int (tI 4)])), (ad_t_badRows, .inl (G.2.1 0, 12, .inl (upd t_badRows (tI 4).toNatClampNeg p0))), (ad_t_badColumns, .inl (G.2.1 0, 12, .inl t_badColumns)), (ad_t_badBits, .inl (G.2.1 0, 12, .inl t_badBits))] := hD
    refine lv_aload_n hx hb dX5_add_19 rfl (lv_at hl 0 rfl) ?_
    refine va_get (D := G.1) (cl := vwCl) (ci := 5) (v := .ref ad_t_badColumns) (C := RX5) (T := TX5) (N := 5) hx hb hts inG5 hown hK hP 0 rfl rfl 2 (Nat.le_of_ble_eq_true rfl) (hts _ q160) (fun _ h9 => h9) rfl dX5_add_20 ?_
    refine lv_aload_n hx hb dX5_add_23 rfl (lv_at hl 0 rfl) ?_
    refine va_get (D := G.1) (cl := vwCl) (ci := 5) (v := .int (tI 4)) (C := RX5) (T := TX5) (N := 5) hx hb hts inG5 hown hK hP 0 rfl rfl 4 (Nat.le_of_ble_eq_true rfl) (hts _ q169) (fun _ h9 => h9) rfl dX5_add_24 ?_
    refine lv_iload_n hx hb dX5_add_27 rfl (lv_at hl 2 rfl) ?_
    obtain ⟨h7, hf⟩ := gd_some hf
    refine va_iast (D := G.1) (cl := vwCl) hx hb hK hP hD hS 2 0 rfl rfl (gi_in h7) dX5_add_28 (fun H locs hP hD hS => ?_)
    have hP : va_P G.1 vwCl [(ad_t, .inr (5, [.ref ad_t_numbers, .ref ad_t_badRows, .ref ad_t_badColumns, .ref ad_t_badBits, .int (tI 4)])), (ad_t_badRows, .inl (G.2.1 0, 12, .inl (upd t_badRows (tI 4).toNatClampNeg p0))), (ad_t_badColumns, .inl (G.2.1 0, 12, .inl (upd t_badColumns (tI 4).toNatClampNeg p1))), (ad_t_badBits, .inl (G.2.1 0, 12, .inl t_badBits))] H := hP
    have hD : va_D A [(ad_t, .inr (5, [.ref ad_t_numbers, .ref ad_t_badRows, .ref ad_t_badColumns, .ref ad_t_badBits, .int (tI 4)])), (ad_t_badRows, .inl (G.2.1 0, 12, .inl (upd t_badRows (tI 4).toNatClampNeg p0))), (ad_t_badColumns, .inl (G.2.1 0, 12, .inl (upd t_badColumns (tI 4).toNatClampNeg p1))), (ad_t_badBits, .inl (G.2.1 0, 12, .inl t_badBits))] := hD
    refine lv_aload_n hx hb dX5_add_29 rfl (lv_at hl 0 rfl) ?_
    refine va_get (D := G.1) (cl := vwCl) (ci := 5) (v := .ref ad_t_badBits) (C := RX5) (T := TX5) (N := 5) hx hb hts inG5 hown hK hP 0 rfl rfl 3 (Nat.le_of_ble_eq_true rfl) (hts _ q165) (fun _ h9 => h9) rfl dX5_add_30 ?_
    refine lv_aload_n hx hb dX5_add_33 rfl (lv_at hl 0 rfl) ?_
    refine va_get (D := G.1) (cl := vwCl) (ci := 5) (v := .int (tI 4)) (C := RX5) (T := TX5) (N := 5) hx hb hts inG5 hown hK hP 0 rfl rfl 4 (Nat.le_of_ble_eq_true rfl) (hts _ q169) (fun _ h9 => h9) rfl dX5_add_34 ?_
    refine lv_iload_n hx hb dX5_add_37 rfl (lv_at hl 3 rfl) ?_
    obtain ⟨h8, hf⟩ := gd_some hf
    refine va_iast (D := G.1) (cl := vwCl) hx hb hK hP hD hS 3 0 rfl rfl (gi_in h8) dX5_add_38 (fun H locs hP hD hS => ?_)
    have hP : va_P G.1 vwCl [(ad_t, .inr (5, [.ref ad_t_numbers, .ref ad_t_badRows, .ref ad_t_badColumns, .ref ad_t_badBits, .int (tI 4)])), (ad_t_badRows, .inl (G.2.1 0, 12, .inl (upd t_badRows (tI 4).toNatClampNeg p0))), (ad_t_badColumns, .inl (G.2.1 0, 12, .inl (upd t_badColumns (tI 4).toNatClampNeg p1))), (ad_t_badBits, .inl (G.2.1 0, 12, .inl (upd t_badBits (tI 4).toNatClampNeg p2)))] H := hP
    have hD : va_D A [(ad_t, .inr (5, [.ref ad_t_numbers, .ref ad_t_badRows, .ref ad_t_badColumns, .ref ad_t_badBits, .int (tI 4)])), (ad_t_badRows, .inl (G.2.1 0, 12, .inl (upd t_badRows (tI 4).toNatClampNeg p0))), (ad_t_badColumns, .inl (G.2.1 0, 12, .inl (upd t_badColumns (tI 4).toNatClampNeg p1))), (ad_t_badBits, .inl (G.2.1 0, 12, .inl (upd t_badBits (tI 4).toNatClampNeg p2)))] := hD
    refine lv_aload_n hx hb dX5_add_39 rfl (lv_at hl 0 rfl) ?_
    refine lv_dup hx hb dX5_add_40 rfl ?_
    refine va_get (D := G.1) (cl := vwCl) (ci := 5) (v := .int (tI 4)) (C := RX5) (T := TX5) (N := 5) hx hb hts inG5 hown hK hP 0 rfl rfl 4 (Nat.le_of_ble_eq_true rfl) (hts _ q169) (fun _ h9 => h9) rfl dX5_add_41 ?_
    refine lv_iconst (v := 1) hx hb dX5_add_44 (by decide) ?_
    refine lv_iadd hx hb dX5_add_45 ?_
    refine va_put (D := G.1) (cl := vwCl) (ci := 5) (v := .int ((tI 4) + (1 : Int32))) (ty := .int) (C := RX5) (T := TX5) (N := 5) hx hb hts inG5 tyX5 tyX5_ok nmX5 hown hK hP hD hS 0 rfl rfl 4 (Nat.le_of_ble_eq_true rfl) (hts _ q169) (fun _ h9 => h9) rfl (tyX5_ok 4 (Nat.le_of_ble_eq_true rfl)) rfl rfl (Nat.le_of_ble_eq_true rfl) dX5_add_46 (fun H locs hP hD hS => ?_)
    have hP : va_P G.1 vwCl [(ad_t, .inr (5, [.ref ad_t_numbers, .ref ad_t_badRows, .ref ad_t_badColumns, .ref ad_t_badBits, .int ((tI 4) + (1 : Int32))])), (ad_t_badRows, .inl (G.2.1 0, 12, .inl (upd t_badRows (tI 4).toNatClampNeg p0))), (ad_t_badColumns, .inl (G.2.1 0, 12, .inl (upd t_badColumns (tI 4).toNatClampNeg p1))), (ad_t_badBits, .inl (G.2.1 0, 12, .inl (upd t_badBits (tI 4).toNatClampNeg p2)))] H := hP
    have hD : va_D A [(ad_t, .inr (5, [.ref ad_t_numbers, .ref ad_t_badRows, .ref ad_t_badColumns, .ref ad_t_badBits, .int ((tI 4) + (1 : Int32))])), (ad_t_badRows, .inl (G.2.1 0, 12, .inl (upd t_badRows (tI 4).toNatClampNeg p0))), (ad_t_badColumns, .inl (G.2.1 0, 12, .inl (upd t_badColumns (tI 4).toNatClampNeg p1))), (ad_t_badBits, .inl (G.2.1 0, 12, .inl (upd t_badBits (tI 4).toNatClampNeg p2)))] := hD
    have hf := Option.some.inj hf
    subst hf
    exact eRetV hx hb hr hlocks hP hD hS ⟨rfl, rfl⟩ dX5_add_49

def fX5_remove_l2 (tI : Nat → Int32) : Nat → Int32 → (Nat → Int32) → (Nat → Int32) → (Nat → Int32) → Option ((Nat → Int32) × (Nat → Int32) × (Nat → Int32))
  | 0, _, _, _, _ => none
  | n + 1, x2, t_badRows, t_badColumns, t_badBits =>
    (if x2 < 0 then some (t_badRows, t_badColumns, t_badBits) else (if (tI 4) ≤ (x2 + (1 : Int32)) then some (t_badRows, t_badColumns, t_badBits) else gd (gi (x2 + (1 : Int32)) 12) (gd (gi x2 12) (gd (gi (x2 + (1 : Int32)) 12) (gd (gi x2 12) (gd (gi (x2 + (1 : Int32)) 12) (gd (gi x2 12) (fX5_remove_l2 tI n (x2 + (1 : Int32)) (upd t_badRows x2.toNatClampNeg (t_badRows (x2 + (1 : Int32)).toNatClampNeg)) (upd t_badColumns x2.toNatClampNeg (t_badColumns (x2 + (1 : Int32)).toNatClampNeg)) (upd t_badBits x2.toNatClampNeg (t_badBits (x2 + (1 : Int32)).toNatClampNeg))))))))))
def fX5_remove (tI : Nat → Int32) (t_badRows : Nat → Int32) (t_badColumns : Nat → Int32) (t_badBits : Nat → Int32) (p0 : Int32) : Option ((Nat → Int32) × (Nat → Int32) × (Nat → Int32) × (Nat → Int32)) :=
  bn (fX5_remove_l2 tI FU p0 t_badRows t_badColumns t_badBits) fun y9 => some ((upd tI 4 (if ((tI 4) - (1 : Int32)) < (0 : Int32) then (0 : Int32) else ((tI 4) - (1 : Int32)))), y9.1, y9.2.1, y9.2.2)
set_option maxRecDepth 100000 in
set_option maxHeartbeats 4000000 in
theorem tX5_remove (l : Launch) (G : gG) (ad_t ad_t_numbers ad_t_badRows ad_t_badColumns ad_t_badBits : Nat) (tI : Nat → Int32) (t_badRows : Nat → Int32) (t_badColumns : Nat → Int32) (t_badBits : Nat → Int32) (p0 : Int32) (o : (Nat → Int32) × (Nat → Int32) × (Nat → Int32) × (Nat → Int32)) (hf : fX5_remove tI t_badRows t_badColumns t_badBits p0 = some o) : mE G l yX5_remove cX5_remove 3 none 1 21 0 0 [.ref ad_t, .int p0] [(ad_t, .inr (5, [.ref ad_t_numbers, .ref ad_t_badRows, .ref ad_t_badColumns, .ref ad_t_badBits, .int (tI 4)])), (ad_t_badRows, .inl (G.2.1 0, 12, .inl t_badRows)), (ad_t_badColumns, .inl (G.2.1 0, 12, .inl t_badColumns)), (ad_t_badBits, .inl (G.2.1 0, 12, .inl t_badBits))] (fun r w => r = none ∧ w = [(ad_t, .inr (5, [.ref ad_t_numbers, .ref ad_t_badRows, .ref ad_t_badColumns, .ref ad_t_badBits, .int (o.1 4)])), (ad_t_badRows, .inl (G.2.1 0, 12, .inl o.2.1)), (ad_t_badColumns, .inl (G.2.1 0, 12, .inl o.2.2.1)), (ad_t_badBits, .inl (G.2.1 0, 12, .inl o.2.2.2))]) := by
  refine mE_of (by decide) (Nat.le_of_ble_eq_true rfl) ?_
  intro p e s m below meth cd ls A hx hb hml hown hts hr hlocks hnm hl hA hP hD hS hG
  have hK := hG.1
  have hown : s.vm.findClass RX5 = some m.cls := hown
  have hl : lv_has ls 3 [(0, .ref ad_t), (1, .int p0)] := hl
  have hS := hS
  unfold fX5_remove at hf
  obtain ⟨H, locs, eH, eL⟩ : ∃ (H : Heap) (locs : List Loc), H = s.heap ∧ locs = [] := ⟨_, _, rfl, rfl⟩
  have hP : va_P G.1 vwCl [(ad_t, .inr (5, [.ref ad_t_numbers, .ref ad_t_badRows, .ref ad_t_badColumns, .ref ad_t_badBits, .int (tI 4)])), (ad_t_badRows, .inl (G.2.1 0, 12, .inl t_badRows)), (ad_t_badColumns, .inl (G.2.1 0, 12, .inl t_badColumns)), (ad_t_badBits, .inl (G.2.1 0, 12, .inl t_badBits))] H := eH ▸ hP
  have hS : va_S A s.heap H locs := by rw [eH, eL]; exact hS
  suffices hgo : wG p l e 1 21 s m [.ref ad_t, .int p0] below meth cd H locs (eQ G A (fun r w => r = none ∧ w = [(ad_t, .inr (5, [.ref ad_t_numbers, .ref ad_t_badRows, .ref ad_t_badColumns, .ref ad_t_badBits, .int (o.1 4)])), (ad_t_badRows, .inl (G.2.1 0, 12, .inl o.2.1)), (ad_t_badColumns, .inl (G.2.1 0, 12, .inl o.2.2.1)), (ad_t_badBits, .inl (G.2.1 0, 12, .inl o.2.2.2))])) A (F0 m 0 ls []) by rw [eH, eL] at hgo; exact hgo
  clear eH eL
  refine lv_iload_n hx hb dX5_remove_0 rfl (lv_at hl 1 rfl) ?_
  refine lv_istore_n (lv' := [(2, .int p0), (0, .ref ad_t), (1, .int p0)]) hx hb dX5_remove_1 rfl hl (by decide) rfl (fun ls hl => ?_)
  obtain ⟨y10, hLy10, hky10⟩ := bn_some hf
  have Ey10 : ∀  (H : Heap) (locs : List Loc) (ls : Array Slot), lv_has ls 3 [(0, .ref ad_t)] → va_P G.1 vwCl [(ad_t, .inr (5, [.ref ad_t_numbers, .ref ad_t_badRows, .ref ad_t_badColumns, .ref ad_t_badBits, .int (tI 4)])), (ad_t_badRows, .inl (G.2.1 0, 12, .inl y10.1)), (ad_t_badColumns, .inl (G.2.1 0, 12, .inl y10.2.1)), (ad_t_badBits, .inl (G.2.1 0, 12, .inl y10.2.2))] H → va_D A [(ad_t, .inr (5, [.ref ad_t_numbers, .ref ad_t_badRows, .ref ad_t_badColumns, .ref ad_t_badBits, .int (tI 4)])), (ad_t_badRows, .inl (G.2.1 0, 12, .inl y10.1)), (ad_t_badColumns, .inl (G.2.1 0, 12, .inl y10.2.1)), (ad_t_badBits, .inl (G.2.1 0, 12, .inl y10.2.2))] → va_S A s.heap H locs → wG p l e 1 21 s m [.ref ad_t, .int p0] below meth cd H locs (eQ G A (fun r w => r = none ∧ w = [(ad_t, .inr (5, [.ref ad_t_numbers, .ref ad_t_badRows, .ref ad_t_badColumns, .ref ad_t_badBits, .int (o.1 4)])), (ad_t_badRows, .inl (G.2.1 0, 12, .inl o.2.1)), (ad_t_badColumns, .inl (G.2.1 0, 12, .inl o.2.2.1)), (ad_t_badBits, .inl (G.2.1 0, 12, .inl o.2.2.2))])) A (F0 m 64 ls []) := by
    intro  H locs ls hl hP hD hS
    have hf := hky10
    refine lv_aload_n hx hb dX5_remove_64 rfl (lv_at hl 0 rfl) ?_
    refine lv_aload_n hx hb dX5_remove_65 rfl (lv_at hl 0 rfl) ?_
    refine va_get (D := G.1) (cl := vwCl) (ci := 5) (v := .int (tI 4)) (C := RX5) (T := TX5) (N := 5) hx hb hts inG5 hown hK hP 0 rfl rfl 4 (Nat.le_of_ble_eq_true rfl) (hts _ q169) (fun _ h9 => h9) rfl dX5_remove_66 ?_
    refine lv_iconst (v := 1) hx hb dX5_remove_69 (by decide) ?_
    refine lv_isub hx hb dX5_remove_70 ?_
    refine lv_iconst (v := 0) hx hb dX5_remove_71 (by decide) ?_
    refine va_mmax hx hb (hml.trans hl.1.symm) hown (hts _ q828) (hts _ q829) (hts _ q107) (hts _ q830) (Nat.le_of_ble_eq_true rfl) (Nat.le_of_ble_eq_true rfl) (Nat.zero_le _) (Nat.zero_le _) dX5_remove_72 ?_
    refine W.eq (g2 := F0 m 75 ls [.int (if ((tI 4) - (1 : Int32)) < (0 : Int32) then (0 : Int32) else ((tI 4) - (1 : Int32))), .ref ad_t]) rfl ?_
    refine va_put (D := G.1) (cl := vwCl) (ci := 5) (v := .int (if ((tI 4) - (1 : Int32)) < (0 : Int32) then (0 : Int32) else ((tI 4) - (1 : Int32)))) (ty := .int) (C := RX5) (T := TX5) (N := 5) hx hb hts inG5 tyX5 tyX5_ok nmX5 hown hK hP hD hS 0 rfl rfl 4 (Nat.le_of_ble_eq_true rfl) (hts _ q169) (fun _ h9 => h9) rfl (tyX5_ok 4 (Nat.le_of_ble_eq_true rfl)) rfl rfl (Nat.le_of_ble_eq_true rfl) dX5_remove_75 (fun H locs hP hD hS => ?_)
    have hP : va_P G.1 vwCl [(ad_t, .inr (5, [.ref ad_t_numbers, .ref ad_t_badRows, .ref ad_t_badColumns, .ref ad_t_badBits, .int (if ((tI 4) - (1 : Int32)) < (0 : Int32) then (0 : Int32) else ((tI 4) - (1 : Int32)))])), (ad_t_badRows, .inl (G.2.1 0, 12, .inl y10.1)), (ad_t_badColumns, .inl (G.2.1 0, 12, .inl y10.2.1)), (ad_t_badBits, .inl (G.2.1 0, 12, .inl y10.2.2))] H := hP
    have hD : va_D A [(ad_t, .inr (5, [.ref ad_t_numbers, .ref ad_t_badRows, .ref ad_t_badColumns, .ref ad_t_badBits, .int (if ((tI 4) - (1 : Int32)) < (0 : Int32) then (0 : Int32) else ((tI 4) - (1 : Int32)))])), (ad_t_badRows, .inl (G.2.1 0, 12, .inl y10.1)), (ad_t_badColumns, .inl (G.2.1 0, 12, .inl y10.2.1)), (ad_t_badBits, .inl (G.2.1 0, 12, .inl y10.2.2))] := hD
    have hf := Option.some.inj hf
    subst hf
    exact eRetV hx hb hr hlocks hP hD hS ⟨rfl, rfl⟩ dX5_remove_78
  have Ly10 : ∀ (n : Nat), ∀ (x11 : Int32) (g12 : Nat → Int32) (g13 : Nat → Int32) (g14 : Nat → Int32) (H : Heap) (locs : List Loc) (ls : Array Slot), lv_has ls 3 [(2, .int x11), (0, .ref ad_t)] → va_P G.1 vwCl [(ad_t, .inr (5, [.ref ad_t_numbers, .ref ad_t_badRows, .ref ad_t_badColumns, .ref ad_t_badBits, .int (tI 4)])), (ad_t_badRows, .inl (G.2.1 0, 12, .inl g12)), (ad_t_badColumns, .inl (G.2.1 0, 12, .inl g13)), (ad_t_badBits, .inl (G.2.1 0, 12, .inl g14))] H → va_D A [(ad_t, .inr (5, [.ref ad_t_numbers, .ref ad_t_badRows, .ref ad_t_badColumns, .ref ad_t_badBits, .int (tI 4)])), (ad_t_badRows, .inl (G.2.1 0, 12, .inl g12)), (ad_t_badColumns, .inl (G.2.1 0, 12, .inl g13)), (ad_t_badBits, .inl (G.2.1 0, 12, .inl g14))] → va_S A s.heap H locs → fX5_remove_l2 tI n x11 g12 g13 g14 = some y10 → wG p l e 1 21 s m [.ref ad_t, .int p0] below meth cd H locs (eQ G A (fun r w => r = none ∧ w = [(ad_t, .inr (5, [.ref ad_t_numbers, .ref ad_t_badRows, .ref ad_t_badColumns, .ref ad_t_badBits, .int (o.1 4)])), (ad_t_badRows, .inl (G.2.1 0, 12, .inl o.2.1)), (ad_t_badColumns, .inl (G.2.1 0, 12, .inl o.2.2.1)), (ad_t_badBits, .inl (G.2.1 0, 12, .inl o.2.2.2))])) A (F0 m 2 ls []) := by
    intro n
    induction n with
    | zero =>
      intro x11 g12 g13 g14 H locs ls hl hP hD hS hf
      rw [fX5_remove_l2] at hf
      cases hf
    | succ n ih =>
      intro x11 g12 g13 g14 H locs ls hl hP hD hS hf
      rw [fX5_remove_l2] at hf
      refine lv_iload_n hx hb dX5_remove_2 rfl (lv_at hl 0 rfl) ?_
      refine lv_if_lt (tgt := 64) hx hb dX5_remove_3 (by decide) (fun c15 => ?_) (fun c15 => ?_)
      · have hf := if_t hf c15
        have hf := Option.some.inj hf
        subst hf
        exact Ey10  H locs ls (lv_sub hl [1] rfl) hP hD hS 
      · have hf := if_f hf c15
        refine lv_iload_n hx hb dX5_remove_6 rfl (lv_at hl 0 rfl) ?_
        refine lv_iconst (v := 1) hx hb dX5_remove_7 (by decide) ?_
        refine lv_iadd hx hb dX5_remove_8 ?_
        refine lv_aload_n hx hb dX5_remove_9 rfl (lv_at hl 1 rfl) ?_
        refine va_get (D := G.1) (cl := vwCl) (ci := 5) (v := .int (tI 4)) (C := RX5) (T := TX5) (N := 5) hx hb hts inG5 hown hK hP 0 rfl rfl 4 (Nat.le_of_ble_eq_true rfl) (hts _ q169) (fun _ h9 => h9) rfl dX5_remove_10 ?_
        refine lv_icmp_ge (tgt := 64) hx hb dX5_remove_13 (by decide) (fun c16 => ?_) (fun c16 => ?_)
        · have hf := if_t hf c16
          have hf := Option.some.inj hf
          subst hf
          exact Ey10  H locs ls (lv_sub hl [1] rfl) hP hD hS 
        · have hf := if_f hf c16
          refine lv_aload_n hx hb dX5_remove_16 rfl (lv_at hl 1 rfl) ?_
          refine va_get (D := G.1) (cl := vwCl) (ci := 5) (v := .ref ad_t_badRows) (C := RX5) (T := TX5) (N := 5) hx hb hts inG5 hown hK hP 0 rfl rfl 1 (Nat.le_of_ble_eq_true rfl) (hts _ q155) (fun _ h9 => h9) rfl dX5_remove_17 ?_
          refine lv_iload_n hx hb dX5_remove_20 rfl (lv_at hl 0 rfl) ?_
          refine lv_aload_n hx hb dX5_remove_21 rfl (lv_at hl 1 rfl) ?_
          refine va_get (D := G.1) (cl := vwCl) (ci := 5) (v := .ref ad_t_badRows) (C := RX5) (T := TX5) (N := 5) hx hb hts inG5 hown hK hP 0 rfl rfl 1 (Nat.le_of_ble_eq_true rfl) (hts _ q155) (fun _ h9 => h9) rfl dX5_remove_22 ?_
          refine lv_iload_n hx hb dX5_remove_25 rfl (lv_at hl 0 rfl) ?_
          refine lv_iconst (v := 1) hx hb dX5_remove_26 (by decide) ?_
          refine lv_iadd hx hb dX5_remove_27 ?_
          obtain ⟨h17, hf⟩ := gd_some hf
          refine va_iald (D := G.1) (cl := vwCl) hx hb hK hP 1 0 rfl rfl (gi_in h17) dX5_remove_28 ?_
          obtain ⟨h18, hf⟩ := gd_some hf
          refine va_iast (D := G.1) (cl := vwCl) hx hb hK hP hD hS 1 0 rfl rfl (gi_in h18) dX5_remove_29 (fun H locs hP hD hS => ?_)
          have hP : va_P G.1 vwCl [(ad_t, .inr (5, [.ref ad_t_numbers, .ref ad_t_badRows, .ref ad_t_badColumns, .ref ad_t_badBits, .int (tI 4)])), (ad_t_badRows, .inl (G.2.1 0, 12, .inl (upd g12 x11.toNatClampNeg (g12 (x11 + (1 : Int32)).toNatClampNeg)))), (ad_t_badColumns, .inl (G.2.1 0, 12, .inl g13)), (ad_t_badBits, .inl (G.2.1 0, 12, .inl g14))] H := hP
          have hD : va_D A [(ad_t, .inr (5, [.ref ad_t_numbers, .ref ad_t_badRows, .ref ad_t_badColumns, .ref ad_t_badBits, .int (tI 4)])), (ad_t_badRows, .inl (G.2.1 0, 12, .inl (upd g12 x11.toNatClampNeg (g12 (x11 + (1 : Int32)).toNatClampNeg)))), (ad_t_badColumns, .inl (G.2.1 0, 12, .inl g13)), (ad_t_badBits, .inl (G.2.1 0, 12, .inl g14))] := hD
          refine lv_aload_n hx hb dX5_remove_30 rfl (lv_at hl 1 rfl) ?_
          refine va_get (D := G.1) (cl := vwCl) (ci := 5) (v := .ref ad_t_badColumns) (C := RX5) (T := TX5) (N := 5) hx hb hts inG5 hown hK hP 0 rfl rfl 2 (Nat.le_of_ble_eq_true rfl) (hts _ q160) (fun _ h9 => h9) rfl dX5_remove_31 ?_
          refine lv_iload_n hx hb dX5_remove_34 rfl (lv_at hl 0 rfl) ?_
          refine lv_aload_n hx hb dX5_remove_35 rfl (lv_at hl 1 rfl) ?_
          refine va_get (D := G.1) (cl := vwCl) (ci := 5) (v := .ref ad_t_badColumns) (C := RX5) (T := TX5) (N := 5) hx hb hts inG5 hown hK hP 0 rfl rfl 2 (Nat.le_of_ble_eq_true rfl) (hts _ q160) (fun _ h9 => h9) rfl dX5_remove_36 ?_
          refine lv_iload_n hx hb dX5_remove_39 rfl (lv_at hl 0 rfl) ?_
          refine lv_iconst (v := 1) hx hb dX5_remove_40 (by decide) ?_
          refine lv_iadd hx hb dX5_remove_41 ?_
          obtain ⟨h19, hf⟩ := gd_some hf
          refine va_iald (D := G.1) (cl := vwCl) hx hb hK hP 2 0 rfl rfl (gi_in h19) dX5_remove_42 ?_
          obtain ⟨h20, hf⟩ := gd_some hf
          refine va_iast (D := G.1) (cl := vwCl) hx hb hK hP hD hS 2 0 rfl rfl (gi_in h20) dX5_remove_43 (fun H locs hP hD hS => ?_)
          have hP : va_P G.1 vwCl [(ad_t, .inr (5, [.ref ad_t_numbers, .ref ad_t_badRows, .ref ad_t_badColumns, .ref ad_t_badBits, .int (tI 4)])), (ad_t_badRows, .inl (G.2.1 0, 12, .inl (upd g12 x11.toNatClampNeg (g12 (x11 + (1 : Int32)).toNatClampNeg)))), (ad_t_badColumns, .inl (G.2.1 0, 12, .inl (upd g13 x11.toNatClampNeg (g13 (x11 + (1 : Int32)).toNatClampNeg)))), (ad_t_badBits, .inl (G.2.1 0, 12, .inl g14))] H := hP
          have hD : va_D A [(ad_t, .inr (5, [.ref ad_t_numbers, .ref ad_t_badRows, .ref ad_t_badColumns, .ref ad_t_badBits, .int (tI 4)])), (ad_t_badRows, .inl (G.2.1 0, 12, .inl (upd g12 x11.toNatClampNeg (g12 (x11 + (1 : Int32)).toNatClampNeg)))), (ad_t_badColumns, .inl (G.2.1 0, 12, .inl (upd g13 x11.toNatClampNeg (g13 (x11 + (1 : Int32)).toNatClampNeg)))), (ad_t_badBits, .inl (G.2.1 0, 12, .inl g14))] := hD
          refine lv_aload_n hx hb dX5_remove_44 rfl (lv_at hl 1 rfl) ?_
          refine va_get (D := G.1) (cl := vwCl) (ci := 5) (v := .ref ad_t_badBits) (C := RX5) (T := TX5) (N := 5) hx hb hts inG5 hown hK hP 0 rfl rfl 3 (Nat.le_of_ble_eq_true rfl) (hts _ q165) (fun _ h9 => h9) rfl dX5_remove_45 ?_
          refine lv_iload_n hx hb dX5_remove_48 rfl (lv_at hl 0 rfl) ?_
          refine lv_aload_n hx hb dX5_remove_49 rfl (lv_at hl 1 rfl) ?_
          refine va_get (D := G.1) (cl := vwCl) (ci := 5) (v := .ref ad_t_badBits) (C := RX5) (T := TX5) (N := 5) hx hb hts inG5 hown hK hP 0 rfl rfl 3 (Nat.le_of_ble_eq_true rfl) (hts _ q165) (fun _ h9 => h9) rfl dX5_remove_50 ?_
          refine lv_iload_n hx hb dX5_remove_53 rfl (lv_at hl 0 rfl) ?_
          refine lv_iconst (v := 1) hx hb dX5_remove_54 (by decide) ?_
          refine lv_iadd hx hb dX5_remove_55 ?_
          obtain ⟨h21, hf⟩ := gd_some hf
          refine va_iald (D := G.1) (cl := vwCl) hx hb hK hP 3 0 rfl rfl (gi_in h21) dX5_remove_56 ?_
          obtain ⟨h22, hf⟩ := gd_some hf
          refine va_iast (D := G.1) (cl := vwCl) hx hb hK hP hD hS 3 0 rfl rfl (gi_in h22) dX5_remove_57 (fun H locs hP hD hS => ?_)
          have hP : va_P G.1 vwCl [(ad_t, .inr (5, [.ref ad_t_numbers, .ref ad_t_badRows, .ref ad_t_badColumns, .ref ad_t_badBits, .int (tI 4)])), (ad_t_badRows, .inl (G.2.1 0, 12, .inl (upd g12 x11.toNatClampNeg (g12 (x11 + (1 : Int32)).toNatClampNeg)))), (ad_t_badColumns, .inl (G.2.1 0, 12, .inl (upd g13 x11.toNatClampNeg (g13 (x11 + (1 : Int32)).toNatClampNeg)))), (ad_t_badBits, .inl (G.2.1 0, 12, .inl (upd g14 x11.toNatClampNeg (g14 (x11 + (1 : Int32)).toNatClampNeg))))] H := hP
          have hD : va_D A [(ad_t, .inr (5, [.ref ad_t_numbers, .ref ad_t_badRows, .ref ad_t_badColumns, .ref ad_t_badBits, .int (tI 4)])), (ad_t_badRows, .inl (G.2.1 0, 12, .inl (upd g12 x11.toNatClampNeg (g12 (x11 + (1 : Int32)).toNatClampNeg)))), (ad_t_badColumns, .inl (G.2.1 0, 12, .inl (upd g13 x11.toNatClampNeg (g13 (x11 + (1 : Int32)).toNatClampNeg)))), (ad_t_badBits, .inl (G.2.1 0, 12, .inl (upd g14 x11.toNatClampNeg (g14 (x11 + (1 : Int32)).toNatClampNeg))))] := hD
          refine lv_iinc (v := (x11 + (1 : Int32))) (lv' := [(2, .int (x11 + (1 : Int32))), (0, .ref ad_t)]) hx hb dX5_remove_58 hl (k := 0) rfl (ii_1 _) (by decide) rfl (fun ls hl => ?_)
          refine lv_goto (tgt := 2) hx hb dX5_remove_61 (by decide) ?_
          exact ih (x11 + (1 : Int32)) (upd g12 x11.toNatClampNeg (g12 (x11 + (1 : Int32)).toNatClampNeg)) (upd g13 x11.toNatClampNeg (g13 (x11 + (1 : Int32)).toNatClampNeg)) (upd g14 x11.toNatClampNeg (g14 (x11 + (1 : Int32)).toNatClampNeg)) H locs ls (lv_sub hl [0, 1] rfl) hP hD hS hf
  exact Ly10 FU p0 t_badRows t_badColumns t_badBits H locs ls (lv_sub hl [0, 1] rfl) hP hD hS hLy10

def fX5_liesIn_l2 (x1 : Int32) (x2 : Int32) (tI : Nat → Int32) (t_badRows : Nat → Int32) (t_badColumns : Nat → Int32) : Nat → Int32 → Option ((Unit) ⊕ (Bool))
  | 0, _ => none
  | n + 1, x3 =>
    (if (tI 4) ≤ x3 then some (.inl ()) else gd (gi x3 12) ((if x1 ≤ (t_badRows x3.toNatClampNeg) then some (.inr false) else gd (gi x3 12) ((if (t_badColumns x3.toNatClampNeg) < x2 then fX5_liesIn_l2 x1 x2 tI t_badRows t_badColumns n (x3 + (1 : Int32)) else some (.inr false))))))
def fX5_liesIn (tI : Nat → Int32) (t_badRows : Nat → Int32) (t_badColumns : Nat → Int32) (p0 : Int32) (p1 : Int32) : Option (Bool) :=
  (bn (fX5_liesIn_l2 p0 p1 tI t_badRows t_badColumns FU (0 : Int32)) fun y6 => match y6 with | .inl y6z => some true | .inr y6o => some y6o)
set_option maxRecDepth 100000 in
set_option maxHeartbeats 4000000 in
theorem tX5_liesIn (l : Launch) (G : gG) (ad_t ad_t_numbers ad_t_badRows ad_t_badColumns ad_t_badBits : Nat) (tI : Nat → Int32) (t_badRows : Nat → Int32) (t_badColumns : Nat → Int32) (p0 : Int32) (p1 : Int32) (o : Bool) (hf : fX5_liesIn tI t_badRows t_badColumns p0 p1 = some o) : mP G l yX5_liesIn cX5_liesIn 4 (some .boolean) 0 0 [.ref ad_t, .int p0, .int p1] [(ad_t, .inr (5, [.ref ad_t_numbers, .ref ad_t_badRows, .ref ad_t_badColumns, .ref ad_t_badBits, .int (tI 4)])), (ad_t_badRows, .inl (G.2.1 0, 12, .inl t_badRows)), (ad_t_badColumns, .inl (G.2.1 0, 12, .inl t_badColumns))] (some (.int (bi o))) := by
  refine mP_of (by decide) (Nat.le_of_ble_eq_true rfl) ?_
  intro p e s m below meth cd ls hx hb hml hown hts hr hlocks hl hP hG
  have hK := hG.1
  have hown : s.vm.findClass RX5 = some m.cls := hown
  have hl : lv_has ls 4 [(0, .ref ad_t), (1, .int p0), (2, .int p1)] := hl
  have hS : va_S no s.heap s.heap [] := va_S.rf
  generalize ([] : List Loc) = locs at hS ⊢
  unfold fX5_liesIn at hf
  show wG p l e 0 0 s m [.ref ad_t, .int p0, .int p1] below meth cd s.heap locs (pQ (some (.int (bi o)))) no (F0 m 0 ls [])
  refine lv_iconst (v := 0) hx hb dX5_liesIn_0 (by decide) ?_
  refine lv_istore_n (lv' := [(3, .int (0 : Int32)), (0, .ref ad_t), (1, .int p0), (2, .int p1)]) hx hb dX5_liesIn_1 rfl hl (by decide) rfl (fun ls hl => ?_)
  obtain ⟨y7, hLy7, hky7⟩ := bn_some hf
  have Ey7 : ∀ y7z, y7 = .inl y7z → ∀  (locs : List Loc) (ls : Array Slot), lv_has ls 4 [] → va_S no s.heap s.heap locs → wG p l e 0 0 s m [.ref ad_t, .int p0, .int p1] below meth cd s.heap locs (pQ (some (.int (bi o)))) no (F0 m 38 ls []) := by
    intro y7z ez
    intro  locs ls hl hS
    subst ez
    have hf := hky7
    (try dsimp only at hf)
    refine lv_iconst (v := 1) hx hb dX5_liesIn_38 (by decide) ?_
    have hf := Option.some.inj hf
    subst hf
    exact pRetZ (v := true) hx hb hr hlocks hS dX5_liesIn_39
  have Ly7 : ∀ (n : Nat), ∀ (x8 : Int32) (locs : List Loc) (ls : Array Slot), lv_has ls 4 [(3, .int x8), (0, .ref ad_t), (1, .int p0), (2, .int p1)] → va_S no s.heap s.heap locs → fX5_liesIn_l2 p0 p1 tI t_badRows t_badColumns n x8 = some y7 → wG p l e 0 0 s m [.ref ad_t, .int p0, .int p1] below meth cd s.heap locs (pQ (some (.int (bi o)))) no (F0 m 2 ls []) := by
    intro n
    induction n with
    | zero =>
      intro x8 locs ls hl hS hf
      rw [fX5_liesIn_l2] at hf
      cases hf
    | succ n ih =>
      intro x8 locs ls hl hS hf
      rw [fX5_liesIn_l2] at hf
      refine lv_iload_n hx hb dX5_liesIn_2 rfl (lv_at hl 0 rfl) ?_
      refine lv_aload_n hx hb dX5_liesIn_3 rfl (lv_at hl 1 rfl) ?_
      refine va_get (D := G.1) (cl := vwCl) (ci := 5) (v := .int (tI 4)) (C := RX5) (T := TX5) (N := 5) hx hb hts inG5 hown hK hP 0 rfl rfl 4 (Nat.le_of_ble_eq_true rfl) (hts _ q169) (fun _ h9 => h9) rfl dX5_liesIn_4 ?_
      refine lv_icmp_ge (tgt := 38) hx hb dX5_liesIn_7 (by decide) (fun c9 => ?_) (fun c9 => ?_)
      · have hf := if_t hf c9
        have hf := Option.some.inj hf
        subst hf
        exact Ey7 _ rfl locs ls (lv_sub hl [] rfl) hS 
      · have hf := if_f hf c9
        refine lv_aload_n hx hb dX5_liesIn_10 rfl (lv_at hl 1 rfl) ?_
        refine va_get (D := G.1) (cl := vwCl) (ci := 5) (v := .ref ad_t_badRows) (C := RX5) (T := TX5) (N := 5) hx hb hts inG5 hown hK hP 0 rfl rfl 1 (Nat.le_of_ble_eq_true rfl) (hts _ q155) (fun _ h9 => h9) rfl dX5_liesIn_11 ?_
        refine lv_iload_n hx hb dX5_liesIn_14 rfl (lv_at hl 0 rfl) ?_
        obtain ⟨h10, hf⟩ := gd_some hf
        refine va_iald (D := G.1) (cl := vwCl) hx hb hK hP 1 0 rfl rfl (gi_in h10) dX5_liesIn_15 ?_
        refine lv_iload_n hx hb dX5_liesIn_16 rfl (lv_at hl 2 rfl) ?_
        refine lv_icmp_ge (tgt := 30) hx hb dX5_liesIn_17 (by decide) (fun c11 => ?_) (fun c11 => ?_)
        · have hf := if_t hf c11
          refine lv_iconst (v := 0) hx hb dX5_liesIn_30 (by decide) ?_
          have hf := Option.some.inj hf
          subst hf
          have hf := hky7
          (try dsimp only at hf)
          have hf := Option.some.inj hf
          subst hf
          exact pRetZ (v := false) hx hb hr hlocks hS dX5_liesIn_31
        · have hf := if_f hf c11
          refine lv_aload_n hx hb dX5_liesIn_20 rfl (lv_at hl 1 rfl) ?_
          refine va_get (D := G.1) (cl := vwCl) (ci := 5) (v := .ref ad_t_badColumns) (C := RX5) (T := TX5) (N := 5) hx hb hts inG5 hown hK hP 0 rfl rfl 2 (Nat.le_of_ble_eq_true rfl) (hts _ q160) (fun _ h9 => h9) rfl dX5_liesIn_21 ?_
          refine lv_iload_n hx hb dX5_liesIn_24 rfl (lv_at hl 0 rfl) ?_
          obtain ⟨h12, hf⟩ := gd_some hf
          refine va_iald (D := G.1) (cl := vwCl) hx hb hK hP 2 0 rfl rfl (gi_in h12) dX5_liesIn_25 ?_
          refine lv_iload_n hx hb dX5_liesIn_26 rfl (lv_at hl 3 rfl) ?_
          refine lv_icmp_lt (tgt := 32) hx hb dX5_liesIn_27 (by decide) (fun c13 => ?_) (fun c13 => ?_)
          · have hf := if_t hf c13
            refine lv_iinc (v := (x8 + (1 : Int32))) (lv' := [(3, .int (x8 + (1 : Int32))), (0, .ref ad_t), (1, .int p0), (2, .int p1)]) hx hb dX5_liesIn_32 hl (k := 0) rfl (ii_1 _) (by decide) rfl (fun ls hl => ?_)
            refine lv_goto (tgt := 2) hx hb dX5_liesIn_35 (by decide) ?_
            exact ih (x8 + (1 : Int32)) locs ls (lv_sub hl [0, 1, 2, 3] rfl) hS hf
          · have hf := if_f hf c13
            refine lv_iconst (v := 0) hx hb dX5_liesIn_30 (by decide) ?_
            have hf := Option.some.inj hf
            subst hf
            have hf := hky7
            (try dsimp only at hf)
            have hf := Option.some.inj hf
            subst hf
            exact pRetZ (v := false) hx hb hr hlocks hS dX5_liesIn_31
  exact Ly7 FU (0 : Int32) locs ls (lv_sub hl [0, 1, 2, 3] rfl) hS hLy7

def fX7_hasRoom (tI : Nat → Int32) (p0 : Int32) : Bool :=
  (if (300 : Int32) < ((tI 1) + p0) then false else true)
set_option maxRecDepth 100000 in
set_option maxHeartbeats 4000000 in
theorem tX7_hasRoom (l : Launch) (G : gG) (ad_t ad_t_bytes : Nat) (tI : Nat → Int32) (p0 : Int32) (o : Bool) (hf : fX7_hasRoom tI p0 = o) : mP G l yX7_hasRoom cX7_hasRoom 2 (some .boolean) 0 0 [.ref ad_t, .int p0] [(ad_t, .inr (7, [.ref ad_t_bytes, .int (tI 1)]))] (some (.int (bi o))) := by
  refine mP_of (by decide) (Nat.le_of_ble_eq_true rfl) ?_
  intro p e s m below meth cd ls hx hb hml hown hts hr hlocks hl hP hG
  have hK := hG.1
  have hown : s.vm.findClass RX7 = some m.cls := hown
  have hl : lv_has ls 2 [(0, .ref ad_t), (1, .int p0)] := hl
  have hS : va_S no s.heap s.heap [] := va_S.rf
  generalize ([] : List Loc) = locs at hS ⊢
  unfold fX7_hasRoom at hf
  show wG p l e 0 0 s m [.ref ad_t, .int p0] below meth cd s.heap locs (pQ (some (.int (bi o)))) no (F0 m 0 ls [])
  refine lv_aload_n hx hb dX7_hasRoom_0 rfl (lv_at hl 0 rfl) ?_
  refine va_get (D := G.1) (cl := vwCl) (ci := 7) (v := .int (tI 1)) (C := RX7) (T := TX7) (N := 2) hx hb hts inG7 hown hK hP 0 rfl rfl 1 (Nat.le_of_ble_eq_true rfl) (hts _ q208) (fun _ h9 => h9) rfl dX7_hasRoom_1 ?_
  refine lv_iload_n hx hb dX7_hasRoom_4 rfl (lv_at hl 1 rfl) ?_
  refine lv_iadd hx hb dX7_hasRoom_5 ?_
  refine lv_sipush (v := 300) hx hb dX7_hasRoom_6 (by decide) ?_
  refine lv_icmp_gt (tgt := 16) hx hb dX7_hasRoom_9 (by decide) (fun c2 => ?_) (fun c2 => ?_)
  · have hf := if_t hf c2
    refine lv_iconst (v := 0) hx hb dX7_hasRoom_16 (by decide) ?_
    subst hf
    exact pRetZ (v := false) hx hb hr hlocks hS dX7_hasRoom_17
  · have hf := if_f hf c2
    refine lv_iconst (v := 1) hx hb dX7_hasRoom_12 (by decide) ?_
    refine lv_goto (tgt := 17) hx hb dX7_hasRoom_13 (by decide) ?_
    subst hf
    exact pRetZ (v := true) hx hb hr hlocks hS dX7_hasRoom_17

def fX7_append_l3 (x1 : Int32) : Nat → Int32 → (Nat → Int32) → (Nat → Int32) → Option ((Nat → Int32) × (Nat → Int32))
  | 0, _, _, _ => none
  | n + 1, x2, tI, t_bytes =>
    (if x2 < 0 then some (tI, t_bytes) else (if (bi (fX7_hasRoom tI (1 : Int32))) = 0 then some (tI, t_bytes) else gd (gi (tI 1) 300) (fX7_append_l3 x1 n (x2 + (-8 : Int32)) (upd tI 1 ((tI 1) + (1 : Int32))) (upd t_bytes (tI 1).toNatClampNeg (vp_nar .byte ((x1 >>> (x2 &&& 31)).toInt8.toInt32))))))
def fX7_append (tI : Nat → Int32) (t_bytes : Nat → Int32) (p0 : Int32) : Option ((Nat → Int32) × (Nat → Int32)) :=
  bn (fX7_append_l3 p0 FU (24 : Int32) tI t_bytes) fun y4 => some (y4.1, y4.2)
set_option maxRecDepth 100000 in
set_option maxHeartbeats 4000000 in
theorem tX7_append (l : Launch) (G : gG) (ad_t ad_t_bytes : Nat) (tI : Nat → Int32) (t_bytes : Nat → Int32) (p0 : Int32) (o : (Nat → Int32) × (Nat → Int32)) (hf : fX7_append tI t_bytes p0 = some o) : mE G l yX7_append cX7_append 3 none 1 21 0 0 [.ref ad_t, .int p0] [(ad_t, .inr (7, [.ref ad_t_bytes, .int (tI 1)])), (ad_t_bytes, .inl (G.2.1 1, 300, .inl t_bytes))] (fun r w => r = none ∧ w = [(ad_t, .inr (7, [.ref ad_t_bytes, .int (o.1 1)])), (ad_t_bytes, .inl (G.2.1 1, 300, .inl o.2))]) := by
  refine mE_of (by decide) (Nat.le_of_ble_eq_true rfl) ?_
  intro p e s m below meth cd ls A hx hb hml hown hts hr hlocks hnm hl hA hP hD hS hG
  have hK := hG.1
  have hown : s.vm.findClass RX7 = some m.cls := hown
  have hl : lv_has ls 3 [(0, .ref ad_t), (1, .int p0)] := hl
  have hS := hS
  unfold fX7_append at hf
  obtain ⟨H, locs, eH, eL⟩ : ∃ (H : Heap) (locs : List Loc), H = s.heap ∧ locs = [] := ⟨_, _, rfl, rfl⟩
  have hP : va_P G.1 vwCl [(ad_t, .inr (7, [.ref ad_t_bytes, .int (tI 1)])), (ad_t_bytes, .inl (G.2.1 1, 300, .inl t_bytes))] H := eH ▸ hP
  have hS : va_S A s.heap H locs := by rw [eH, eL]; exact hS
  suffices hgo : wG p l e 1 21 s m [.ref ad_t, .int p0] below meth cd H locs (eQ G A (fun r w => r = none ∧ w = [(ad_t, .inr (7, [.ref ad_t_bytes, .int (o.1 1)])), (ad_t_bytes, .inl (G.2.1 1, 300, .inl o.2))])) A (F0 m 0 ls []) by rw [eH, eL] at hgo; exact hgo
  clear eH eL
  refine lv_bipush (v := 24) hx hb dX7_append_0 (by decide) ?_
  refine lv_istore_n (lv' := [(2, .int (24 : Int32)), (0, .ref ad_t), (1, .int p0)]) hx hb dX7_append_2 rfl hl (by decide) rfl (fun ls hl => ?_)
  obtain ⟨y5, hLy5, hky5⟩ := bn_some hf
  have Ey5 : ∀  (H : Heap) (locs : List Loc) (ls : Array Slot), lv_has ls 3 [] → va_P G.1 vwCl [(ad_t, .inr (7, [.ref ad_t_bytes, .int (y5.1 1)])), (ad_t_bytes, .inl (G.2.1 1, 300, .inl y5.2))] H → va_D A [(ad_t, .inr (7, [.ref ad_t_bytes, .int (y5.1 1)])), (ad_t_bytes, .inl (G.2.1 1, 300, .inl y5.2))] → va_S A s.heap H locs → wG p l e 1 21 s m [.ref ad_t, .int p0] below meth cd H locs (eQ G A (fun r w => r = none ∧ w = [(ad_t, .inr (7, [.ref ad_t_bytes, .int (o.1 1)])), (ad_t_bytes, .inl (G.2.1 1, 300, .inl o.2))])) A (F0 m 44 ls []) := by
    intro  H locs ls hl hP hD hS
    have hf := hky5
    have hf := Option.some.inj hf
    subst hf
    exact eRetV hx hb hr hlocks hP hD hS ⟨rfl, rfl⟩ dX7_append_44
  have Ly5 : ∀ (n : Nat), ∀ (x6 : Int32) (g7 : Nat → Int32) (g8 : Nat → Int32) (H : Heap) (locs : List Loc) (ls : Array Slot), lv_has ls 3 [(2, .int x6), (0, .ref ad_t), (1, .int p0)] → va_P G.1 vwCl [(ad_t, .inr (7, [.ref ad_t_bytes, .int (g7 1)])), (ad_t_bytes, .inl (G.2.1 1, 300, .inl g8))] H → va_D A [(ad_t, .inr (7, [.ref ad_t_bytes, .int (g7 1)])), (ad_t_bytes, .inl (G.2.1 1, 300, .inl g8))] → va_S A s.heap H locs → fX7_append_l3 p0 n x6 g7 g8 = some y5 → wG p l e 1 21 s m [.ref ad_t, .int p0] below meth cd H locs (eQ G A (fun r w => r = none ∧ w = [(ad_t, .inr (7, [.ref ad_t_bytes, .int (o.1 1)])), (ad_t_bytes, .inl (G.2.1 1, 300, .inl o.2))])) A (F0 m 3 ls []) := by
    intro n
    induction n with
    | zero =>
      intro x6 g7 g8 H locs ls hl hP hD hS hf
      rw [fX7_append_l3] at hf
      cases hf
    | succ n ih =>
      intro x6 g7 g8 H locs ls hl hP hD hS hf
      rw [fX7_append_l3] at hf
      refine lv_iload_n hx hb dX7_append_3 rfl (lv_at hl 0 rfl) ?_
      refine lv_if_lt (tgt := 44) hx hb dX7_append_4 (by decide) (fun c9 => ?_) (fun c9 => ?_)
      · have hf := if_t hf c9
        have hf := Option.some.inj hf
        subst hf
        exact Ey5  H locs ls (lv_sub hl [] rfl) hP hD hS 
      · have hf := if_f hf c9
        refine lv_aload_n hx hb dX7_append_7 rfl (lv_at hl 1 rfl) ?_
        refine lv_iconst (v := 1) hx hb dX7_append_8 (by decide) ?_
        refine kPV (tX7_hasRoom l G ad_t ad_t_bytes g7 (1 : Int32) _ rfl) ⟨hx, hb, hml, hown, hts⟩ q597 q590 q591 q99 q592 okyX7_hasRoom ⟨Nat.le_of_ble_eq_true rfl, Nat.le_of_ble_eq_true rfl⟩ hP hG hS [0] rfl 0 rfl rfl hl.1 rfl (Nat.le_of_ble_eq_true rfl) dX7_append_9 ⟨Nat.zero_le _, Nat.zero_le _⟩ (fun locs hS => ?_)
        refine W.eq (g2 := F0 m 12 ls [.int (bi (fX7_hasRoom g7 (1 : Int32)))]) rfl ?_
        refine lv_if_eq (tgt := 44) hx hb dX7_append_12 (by decide) (fun c10 => ?_) (fun c10 => ?_)
        · have hf := if_t hf c10
          have hf := Option.some.inj hf
          subst hf
          exact Ey5  H locs ls (lv_sub hl [] rfl) hP hD hS 
        · have hf := if_f hf c10
          refine lv_aload_n hx hb dX7_append_15 rfl (lv_at hl 1 rfl) ?_
          refine va_get (D := G.1) (cl := vwCl) (ci := 7) (v := .ref ad_t_bytes) (C := RX7) (T := TX7) (N := 2) hx hb hts inG7 hown hK hP 0 rfl rfl 0 (Nat.le_of_ble_eq_true rfl) (hts _ q205) (fun _ h9 => h9) rfl dX7_append_16 ?_
          refine lv_aload_n hx hb dX7_append_19 rfl (lv_at hl 1 rfl) ?_
          refine va_get (D := G.1) (cl := vwCl) (ci := 7) (v := .int (g7 1)) (C := RX7) (T := TX7) (N := 2) hx hb hts inG7 hown hK hP 0 rfl rfl 1 (Nat.le_of_ble_eq_true rfl) (hts _ q208) (fun _ h9 => h9) rfl dX7_append_20 ?_
          refine lv_iload_n hx hb dX7_append_23 rfl (lv_at hl 2 rfl) ?_
          refine lv_iload_n hx hb dX7_append_24 rfl (lv_at hl 0 rfl) ?_
          refine lv_ishr hx hb dX7_append_25 ?_
          refine lv_i2b (v := ((p0 >>> (x6 &&& 31)).toInt8.toInt32)) hx hb dX7_append_26 rfl ?_
          obtain ⟨h11, hf⟩ := gd_some hf
          refine va_bast (D := G.1) (cl := vwCl) hx hb hK hP hD hS 1 1 rfl rfl (gi_in h11) dX7_append_27 (fun H locs hP hD hS => ?_)
          have hP : va_P G.1 vwCl [(ad_t, .inr (7, [.ref ad_t_bytes, .int (g7 1)])), (ad_t_bytes, .inl (G.2.1 1, 300, .inl (upd g8 (g7 1).toNatClampNeg (vp_nar .byte ((p0 >>> (x6 &&& 31)).toInt8.toInt32)))))] H := hP
          have hD : va_D A [(ad_t, .inr (7, [.ref ad_t_bytes, .int (g7 1)])), (ad_t_bytes, .inl (G.2.1 1, 300, .inl (upd g8 (g7 1).toNatClampNeg (vp_nar .byte ((p0 >>> (x6 &&& 31)).toInt8.toInt32)))))] := hD
          refine lv_aload_n hx hb dX7_append_28 rfl (lv_at hl 1 rfl) ?_
          refine lv_dup hx hb dX7_append_29 rfl ?_
          refine va_get (D := G.1) (cl := vwCl) (ci := 7) (v := .int (g7 1)) (C := RX7) (T := TX7) (N := 2) hx hb hts inG7 hown hK hP 0 rfl rfl 1 (Nat.le_of_ble_eq_true rfl) (hts _ q208) (fun _ h9 => h9) rfl dX7_append_30 ?_
          refine lv_iconst (v := 1) hx hb dX7_append_33 (by decide) ?_
          refine lv_iadd hx hb dX7_append_34 ?_
          refine va_put (D := G.1) (cl := vwCl) (ci := 7) (v := .int ((g7 1) + (1 : Int32))) (ty := .int) (C := RX7) (T := TX7) (N := 2) hx hb hts inG7 tyX7 tyX7_ok nmX7 hown hK hP hD hS 0 rfl rfl 1 (Nat.le_of_ble_eq_true rfl) (hts _ q208) (fun _ h9 => h9) rfl (tyX7_ok 1 (Nat.le_of_ble_eq_true rfl)) rfl rfl (Nat.le_of_ble_eq_true rfl) dX7_append_35 (fun H locs hP hD hS => ?_)
          have hP : va_P G.1 vwCl [(ad_t, .inr (7, [.ref ad_t_bytes, .int ((g7 1) + (1 : Int32))])), (ad_t_bytes, .inl (G.2.1 1, 300, .inl (upd g8 (g7 1).toNatClampNeg (vp_nar .byte ((p0 >>> (x6 &&& 31)).toInt8.toInt32)))))] H := hP
          have hD : va_D A [(ad_t, .inr (7, [.ref ad_t_bytes, .int ((g7 1) + (1 : Int32))])), (ad_t_bytes, .inl (G.2.1 1, 300, .inl (upd g8 (g7 1).toNatClampNeg (vp_nar .byte ((p0 >>> (x6 &&& 31)).toInt8.toInt32)))))] := hD
          refine lv_iinc (v := (x6 + (-8 : Int32))) (lv' := [(2, .int (x6 + (-8 : Int32))), (0, .ref ad_t), (1, .int p0)]) hx hb dX7_append_38 hl (k := 0) rfl (ii_m8 _) (by decide) rfl (fun ls hl => ?_)
          refine lv_goto (tgt := 3) hx hb dX7_append_41 (by decide) ?_
          exact ih (x6 + (-8 : Int32)) (upd g7 1 ((g7 1) + (1 : Int32))) (upd g8 (g7 1).toNatClampNeg (vp_nar .byte ((p0 >>> (x6 &&& 31)).toInt8.toInt32))) H locs ls (lv_sub hl [0, 1, 2] rfl) hP hD hS hf
  exact Ly5 FU (24 : Int32) tI t_bytes H locs ls (lv_sub hl [0, 1, 2] rfl) hP hD hS hLy5

def fX8_putSign (tI : Nat → Int32) (t_bytes : Nat → Int32) (p0 : Int32) : Option ((Nat → Int32) × (Nat → Int32)) :=
  (if (400 : Int32) ≤ (tI 1) then some (tI, t_bytes) else gd (gi (tI 1) 400) (some ((upd tI 1 ((tI 1) + (1 : Int32))), (upd t_bytes (tI 1).toNatClampNeg (vp_nar .byte (p0.toInt8.toInt32))))))
set_option maxRecDepth 100000 in
set_option maxHeartbeats 4000000 in
theorem tX8_putSign (l : Launch) (G : gG) (ad_t ad_t_bytes : Nat) (tI : Nat → Int32) (t_bytes : Nat → Int32) (p0 : Int32) (o : (Nat → Int32) × (Nat → Int32)) (hf : fX8_putSign tI t_bytes p0 = some o) : mE G l yX8_putSign cX8_putSign 2 none 0 0 0 0 [.ref ad_t, .int p0] [(ad_t, .inr (8, [.ref ad_t_bytes, .int (tI 1)])), (ad_t_bytes, .inl (G.2.1 1, 400, .inl t_bytes))] (fun r w => r = none ∧ w = [(ad_t, .inr (8, [.ref ad_t_bytes, .int (o.1 1)])), (ad_t_bytes, .inl (G.2.1 1, 400, .inl o.2))]) := by
  refine mE_of (by decide) (Nat.le_of_ble_eq_true rfl) ?_
  intro p e s m below meth cd ls A hx hb hml hown hts hr hlocks hnm hl hA hP hD hS hG
  have hK := hG.1
  have hown : s.vm.findClass RX8 = some m.cls := hown
  have hl : lv_has ls 2 [(0, .ref ad_t), (1, .int p0)] := hl
  have hS := hS
  unfold fX8_putSign at hf
  obtain ⟨H, locs, eH, eL⟩ : ∃ (H : Heap) (locs : List Loc), H = s.heap ∧ locs = [] := ⟨_, _, rfl, rfl⟩
  have hP : va_P G.1 vwCl [(ad_t, .inr (8, [.ref ad_t_bytes, .int (tI 1)])), (ad_t_bytes, .inl (G.2.1 1, 400, .inl t_bytes))] H := eH ▸ hP
  have hS : va_S A s.heap H locs := by rw [eH, eL]; exact hS
  suffices hgo : wG p l e 0 0 s m [.ref ad_t, .int p0] below meth cd H locs (eQ G A (fun r w => r = none ∧ w = [(ad_t, .inr (8, [.ref ad_t_bytes, .int (o.1 1)])), (ad_t_bytes, .inl (G.2.1 1, 400, .inl o.2))])) A (F0 m 0 ls []) by rw [eH, eL] at hgo; exact hgo
  clear eH eL
  refine lv_aload_n hx hb dX8_putSign_0 rfl (lv_at hl 0 rfl) ?_
  refine va_get (D := G.1) (cl := vwCl) (ci := 8) (v := .int (tI 1)) (C := RX8) (T := TX8) (N := 2) hx hb hts inG8 hown hK hP 0 rfl rfl 1 (Nat.le_of_ble_eq_true rfl) (hts _ q456) (fun _ h9 => h9) rfl dX8_putSign_1 ?_
  refine lv_sipush (v := 400) hx hb dX8_putSign_4 (by decide) ?_
  refine lv_icmp_ge (tgt := 31) hx hb dX8_putSign_7 (by decide) (fun c3 => ?_) (fun c3 => ?_)
  · have hf := if_t hf c3
    have hf := Option.some.inj hf
    subst hf
    exact eRetV hx hb hr hlocks hP hD hS ⟨rfl, rfl⟩ dX8_putSign_31
  · have hf := if_f hf c3
    refine lv_aload_n hx hb dX8_putSign_10 rfl (lv_at hl 0 rfl) ?_
    refine va_get (D := G.1) (cl := vwCl) (ci := 8) (v := .ref ad_t_bytes) (C := RX8) (T := TX8) (N := 2) hx hb hts inG8 hown hK hP 0 rfl rfl 0 (Nat.le_of_ble_eq_true rfl) (hts _ q454) (fun _ h9 => h9) rfl dX8_putSign_11 ?_
    refine lv_aload_n hx hb dX8_putSign_14 rfl (lv_at hl 0 rfl) ?_
    refine va_get (D := G.1) (cl := vwCl) (ci := 8) (v := .int (tI 1)) (C := RX8) (T := TX8) (N := 2) hx hb hts inG8 hown hK hP 0 rfl rfl 1 (Nat.le_of_ble_eq_true rfl) (hts _ q456) (fun _ h9 => h9) rfl dX8_putSign_15 ?_
    refine lv_iload_n hx hb dX8_putSign_18 rfl (lv_at hl 1 rfl) ?_
    refine lv_i2b (v := (p0.toInt8.toInt32)) hx hb dX8_putSign_19 rfl ?_
    obtain ⟨h4, hf⟩ := gd_some hf
    refine va_bast (D := G.1) (cl := vwCl) hx hb hK hP hD hS 1 1 rfl rfl (gi_in h4) dX8_putSign_20 (fun H locs hP hD hS => ?_)
    have hP : va_P G.1 vwCl [(ad_t, .inr (8, [.ref ad_t_bytes, .int (tI 1)])), (ad_t_bytes, .inl (G.2.1 1, 400, .inl (upd t_bytes (tI 1).toNatClampNeg (vp_nar .byte (p0.toInt8.toInt32)))))] H := hP
    have hD : va_D A [(ad_t, .inr (8, [.ref ad_t_bytes, .int (tI 1)])), (ad_t_bytes, .inl (G.2.1 1, 400, .inl (upd t_bytes (tI 1).toNatClampNeg (vp_nar .byte (p0.toInt8.toInt32)))))] := hD
    refine lv_aload_n hx hb dX8_putSign_21 rfl (lv_at hl 0 rfl) ?_
    refine lv_dup hx hb dX8_putSign_22 rfl ?_
    refine va_get (D := G.1) (cl := vwCl) (ci := 8) (v := .int (tI 1)) (C := RX8) (T := TX8) (N := 2) hx hb hts inG8 hown hK hP 0 rfl rfl 1 (Nat.le_of_ble_eq_true rfl) (hts _ q456) (fun _ h9 => h9) rfl dX8_putSign_23 ?_
    refine lv_iconst (v := 1) hx hb dX8_putSign_26 (by decide) ?_
    refine lv_iadd hx hb dX8_putSign_27 ?_
    refine va_put (D := G.1) (cl := vwCl) (ci := 8) (v := .int ((tI 1) + (1 : Int32))) (ty := .int) (C := RX8) (T := TX8) (N := 2) hx hb hts inG8 tyX8 tyX8_ok nmX8 hown hK hP hD hS 0 rfl rfl 1 (Nat.le_of_ble_eq_true rfl) (hts _ q456) (fun _ h9 => h9) rfl (tyX8_ok 1 (Nat.le_of_ble_eq_true rfl)) rfl rfl (Nat.le_of_ble_eq_true rfl) dX8_putSign_28 (fun H locs hP hD hS => ?_)
    have hP : va_P G.1 vwCl [(ad_t, .inr (8, [.ref ad_t_bytes, .int ((tI 1) + (1 : Int32))])), (ad_t_bytes, .inl (G.2.1 1, 400, .inl (upd t_bytes (tI 1).toNatClampNeg (vp_nar .byte (p0.toInt8.toInt32)))))] H := hP
    have hD : va_D A [(ad_t, .inr (8, [.ref ad_t_bytes, .int ((tI 1) + (1 : Int32))])), (ad_t_bytes, .inl (G.2.1 1, 400, .inl (upd t_bytes (tI 1).toNatClampNeg (vp_nar .byte (p0.toInt8.toInt32)))))] := hD
    have hf := Option.some.inj hf
    subst hf
    exact eRetV hx hb hr hlocks hP hD hS ⟨rfl, rfl⟩ dX8_putSign_31

def fX9_rowOf (tI : Nat → Int32) (p0 : Int32) : Int32 :=
  (p0 >>> ((tI 2) &&& 31))
set_option maxRecDepth 100000 in
set_option maxHeartbeats 4000000 in
theorem tX9_rowOf (l : Launch) (G : gG) (ad_t ad_t_repair : Nat) (tI : Nat → Int32) (p0 : Int32) (o : Int32) (hf : fX9_rowOf tI p0 = o) : mP G l yX9_rowOf cX9_rowOf 2 (some .int) 0 0 [.ref ad_t, .int p0] [(ad_t, .inr (9, [.ref ad_t_repair, .int (tI 1), .int (tI 2), .int (tI 3), .int (tI 4)]))] (some (.int o)) := by
  refine mP_of (by decide) (Nat.le_of_ble_eq_true rfl) ?_
  intro p e s m below meth cd ls hx hb hml hown hts hr hlocks hl hP hG
  have hK := hG.1
  have hown : s.vm.findClass RX9 = some m.cls := hown
  have hl : lv_has ls 2 [(0, .ref ad_t), (1, .int p0)] := hl
  have hS : va_S no s.heap s.heap [] := va_S.rf
  generalize ([] : List Loc) = locs at hS ⊢
  unfold fX9_rowOf at hf
  show wG p l e 0 0 s m [.ref ad_t, .int p0] below meth cd s.heap locs (pQ (some (.int o))) no (F0 m 0 ls [])
  refine lv_iload_n hx hb dX9_rowOf_0 rfl (lv_at hl 1 rfl) ?_
  refine lv_aload_n hx hb dX9_rowOf_1 rfl (lv_at hl 0 rfl) ?_
  refine va_get (D := G.1) (cl := vwCl) (ci := 9) (v := .int (tI 2)) (C := RX9) (T := TX9) (N := 5) hx hb hts inG9 hown hK hP 0 rfl rfl 2 (Nat.le_of_ble_eq_true rfl) (hts _ q323) (fun _ h9 => h9) rfl dX9_rowOf_2 ?_
  refine lv_ishr hx hb dX9_rowOf_5 ?_
  subst hf
  exact pRet hx hb hr hlocks hS dX9_rowOf_6
