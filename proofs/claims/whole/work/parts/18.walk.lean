def fX11_canBad (p0 : Int32) (p1 : Int32) : Bool :=
  (if (bi (fX11_isIn p0 (0 : Int32) (511 : Int32))) = 0 then false else (if (bi (fX11_isIn p1 (0 : Int32) (255 : Int32))) = 0 then false else true))
set_option maxRecDepth 100000 in
set_option maxHeartbeats 4000000 in
theorem tX11_canBad (l : Launch) (G : gG) (p0 : Int32) (p1 : Int32) (o : Bool) (hf : fX11_canBad p0 p1 = o) : mP G l yX11_canBad cX11_canBad 2 (some .boolean) 1 22 [.int p0, .int p1] [] (some (.int (bi o))) := by
  refine mP_of (by decide) (Nat.le_of_ble_eq_true rfl) ?_
  intro p e s m below meth cd ls hx hb hml hown hts hr hlocks hl hP hG
  have hK := hG.1
  have hown : s.vm.findClass RX11 = some m.cls := hown
  have hl : lv_has ls 2 [(0, .int p0), (1, .int p1)] := hl
  have hS : va_S no s.heap s.heap [] := va_S.rf
  generalize ([] : List Loc) = locs at hS ⊢
  unfold fX11_canBad at hf
  show wG p l e 1 22 s m [.int p0, .int p1] below meth cd s.heap locs (pQ (some (.int (bi o)))) no (F0 m 0 ls [])
  refine lv_iload_n hx hb dX11_canBad_0 rfl (lv_at hl 0 rfl) ?_
  refine lv_iconst (v := 0) hx hb dX11_canBad_1 (by decide) ?_
  refine lv_sipush (v := 511) hx hb dX11_canBad_2 (by decide) ?_
  refine kPS (tX11_isIn l G p0 (0 : Int32) (511 : Int32) _ rfl) ⟨hx, hb, hml, hown, hts⟩ q1137 q1138 q108 q1139 okyX11_isIn ⟨Nat.le_of_ble_eq_true rfl, Nat.le_of_ble_eq_true rfl⟩ hP hG hS [] rfl hl.1 rfl (Nat.le_of_ble_eq_true rfl) dX11_canBad_5 ⟨Nat.zero_le _, Nat.zero_le _⟩ (fun locs hS => ?_)
  refine W.eq (g2 := F0 m 8 ls [.int (bi (fX11_isIn p0 (0 : Int32) (511 : Int32)))]) rfl ?_
  refine lv_if_eq (tgt := 26) hx hb dX11_canBad_8 (by decide) (fun c3 => ?_) (fun c3 => ?_)
  · have hf := if_t hf c3
    refine lv_iconst (v := 0) hx hb dX11_canBad_26 (by decide) ?_
    subst hf
    exact pRetZ (v := false) hx hb hr hlocks hS dX11_canBad_27
  · have hf := if_f hf c3
    refine lv_iload_n hx hb dX11_canBad_11 rfl (lv_at hl 1 rfl) ?_
    refine lv_iconst (v := 0) hx hb dX11_canBad_12 (by decide) ?_
    refine lv_sipush (v := 255) hx hb dX11_canBad_13 (by decide) ?_
    refine kPS (tX11_isIn l G p1 (0 : Int32) (255 : Int32) _ rfl) ⟨hx, hb, hml, hown, hts⟩ q1137 q1138 q108 q1139 okyX11_isIn ⟨Nat.le_of_ble_eq_true rfl, Nat.le_of_ble_eq_true rfl⟩ hP hG hS [] rfl hl.1 rfl (Nat.le_of_ble_eq_true rfl) dX11_canBad_16 ⟨Nat.zero_le _, Nat.zero_le _⟩ (fun locs hS => ?_)
    refine W.eq (g2 := F0 m 19 ls [.int (bi (fX11_isIn p1 (0 : Int32) (255 : Int32)))]) rfl ?_
    refine lv_if_eq (tgt := 26) hx hb dX11_canBad_19 (by decide) (fun c4 => ?_) (fun c4 => ?_)
    · have hf := if_t hf c4
      refine lv_iconst (v := 0) hx hb dX11_canBad_26 (by decide) ?_
      subst hf
      exact pRetZ (v := false) hx hb hr hlocks hS dX11_canBad_27
    · have hf := if_f hf c4
      refine lv_iconst (v := 1) hx hb dX11_canBad_22 (by decide) ?_
      refine lv_goto (tgt := 27) hx hb dX11_canBad_23 (by decide) ?_
      subst hf
      exact pRetZ (v := true) hx hb hr hlocks hS dX11_canBad_27

def fX11_badBy_l3 (x1 : Int32) (x2 : Int32) (x3 : Int32) (t_all : Nat → Int32) : Nat → Int32 → Option ((Unit) ⊕ (Int32))
  | 0, _ => none
  | n + 1, x4 =>
    gd (gi (x1 + (9 : Int32)) 43047) ((if (t_all (x1 + (9 : Int32)).toNatClampNeg) ≤ x4 then some (.inl ()) else gd (gi (fX11_badOf x1 x4) 43047) ((if (t_all (fX11_badOf x1 x4).toNatClampNeg) = x2 then gd (gi ((fX11_badOf x1 x4) + (1 : Int32)) 43047) ((if (t_all ((fX11_badOf x1 x4) + (1 : Int32)).toNatClampNeg) = x3 then some (.inr x4) else fX11_badBy_l3 x1 x2 x3 t_all n (x4 + (1 : Int32)))) else fX11_badBy_l3 x1 x2 x3 t_all n (x4 + (1 : Int32))))))
def fX11_badBy (t_all : Nat → Int32) (p0 : Int32) (p1 : Int32) (p2 : Int32) : Option (Int32) :=
  (bn (fX11_badBy_l3 p0 p1 p2 t_all FU (0 : Int32)) fun y7 => match y7 with | .inl y7z => some (-1 : Int32) | .inr y7o => some y7o)
set_option maxRecDepth 100000 in
set_option maxHeartbeats 4000000 in
theorem tX11_badBy (l : Launch) (G : gG) (ad_t ad_t_all ad_t_tape ad_t_isImage ad_t_size ad_t_givenRow ad_t_givenColumn ad_t_newRow ad_t_view : Nat) (tI : Nat → Int32) (t_value : Int64) (t_all : Nat → Int32) (p0 : Int32) (p1 : Int32) (p2 : Int32) (o : Int32) (hf : fX11_badBy t_all p0 p1 p2 = some o) : mP G l yX11_badBy cX11_badBy 5 (some .int) 1 21 [.ref ad_t, .int p0, .int p1, .int p2] [(ad_t, .inr (11, [.ref ad_t_all, .ref ad_t_tape, .ref ad_t_isImage, .int (tI 3), .int (tI 4), .int (tI 5), .int (tI 6), .ref ad_t_size, .ref ad_t_givenRow, .ref ad_t_givenColumn, .ref ad_t_newRow, .int (tI 11), .int (tI 12), .int (tI 13), .int (tI 14), .int (tI 15), .int (tI 16), .int (tI 17), .int (tI 18), .int (tI 19), .ref ad_t_view, .int (tI 21), .int (tI 22), .int (tI 23), .int (tI 24), .int (tI 25), .long t_value, .int (tI 27), .int (tI 28)])), (ad_t_all, .inl (G.2.1 0, 43047, .inl t_all))] (some (.int o)) := by
  refine mP_of (by decide) (Nat.le_of_ble_eq_true rfl) ?_
  intro p e s m below meth cd ls hx hb hml hown hts hr hlocks hl hP hG
  have hK := hG.1
  have hown : s.vm.findClass RX11 = some m.cls := hown
  have hl : lv_has ls 5 [(0, .ref ad_t), (1, .int p0), (2, .int p1), (3, .int p2)] := hl
  have hS : va_S no s.heap s.heap [] := va_S.rf
  generalize ([] : List Loc) = locs at hS ⊢
  unfold fX11_badBy at hf
  show wG p l e 1 21 s m [.ref ad_t, .int p0, .int p1, .int p2] below meth cd s.heap locs (pQ (some (.int o))) no (F0 m 0 ls [])
  refine lv_iconst (v := 0) hx hb dX11_badBy_0 (by decide) ?_
  refine lv_istore (lv' := [(4, .int (0 : Int32)), (0, .ref ad_t), (1, .int p0), (2, .int p1), (3, .int p2)]) hx hb dX11_badBy_1 hl (by decide) rfl (fun ls hl => ?_)
  obtain ⟨y8, hLy8, hky8⟩ := bn_some hf
  have Ey8 : ∀ y8z, y8 = .inl y8z → ∀  (locs : List Loc) (ls : Array Slot), lv_has ls 5 [] → va_S no s.heap s.heap locs → wG p l e 1 21 s m [.ref ad_t, .int p0, .int p1, .int p2] below meth cd s.heap locs (pQ (some (.int o))) no (F0 m 58 ls []) := by
    intro y8z ez
    intro  locs ls hl hS
    subst ez
    have hf := hky8
    (try dsimp only at hf)
    refine lv_iconst (v := -1) hx hb dX11_badBy_58 (by decide) ?_
    have hf := Option.some.inj hf
    subst hf
    exact pRet hx hb hr hlocks hS dX11_badBy_59
  have Ly8 : ∀ (n : Nat), ∀ (x9 : Int32) (locs : List Loc) (ls : Array Slot), lv_has ls 5 [(4, .int x9), (0, .ref ad_t), (1, .int p0), (2, .int p1), (3, .int p2)] → va_S no s.heap s.heap locs → fX11_badBy_l3 p0 p1 p2 t_all n x9 = some y8 → wG p l e 1 21 s m [.ref ad_t, .int p0, .int p1, .int p2] below meth cd s.heap locs (pQ (some (.int o))) no (F0 m 3 ls []) := by
    intro n
    induction n with
    | zero =>
      intro x9 locs ls hl hS hf
      rw [fX11_badBy_l3] at hf
      cases hf
    | succ n ih =>
      intro x9 locs ls hl hS hf
      rw [fX11_badBy_l3] at hf
      refine lv_iload hx hb dX11_badBy_3 (lv_at hl 0 rfl) ?_
      refine lv_aload_n hx hb dX11_badBy_5 rfl (lv_at hl 1 rfl) ?_
      refine va_get (D := G.1) (cl := vwCl) (ci := 11) (v := .ref ad_t_all) (C := RX11) (T := TX11) (N := 29) hx hb hts inG11 hown hK hP 0 rfl rfl 0 (Nat.le_of_ble_eq_true rfl) (hts _ q1041) (fun _ h9 => h9) rfl dX11_badBy_6 ?_
      refine lv_iload_n hx hb dX11_badBy_9 rfl (lv_at hl 2 rfl) ?_
      refine lv_bipush (v := 9) hx hb dX11_badBy_10 (by decide) ?_
      refine lv_iadd hx hb dX11_badBy_12 ?_
      obtain ⟨h10, hf⟩ := gd_some hf
      refine va_iald (D := G.1) (cl := vwCl) hx hb hK hP 1 0 rfl rfl (gi_in h10) dX11_badBy_13 ?_
      refine lv_icmp_ge (tgt := 58) hx hb dX11_badBy_14 (by decide) (fun c11 => ?_) (fun c11 => ?_)
      · have hf := if_t hf c11
        have hf := Option.some.inj hf
        subst hf
        exact Ey8 _ rfl locs ls (lv_sub hl [] rfl) hS 
      · have hf := if_f hf c11
        refine lv_aload_n hx hb dX11_badBy_17 rfl (lv_at hl 1 rfl) ?_
        refine va_get (D := G.1) (cl := vwCl) (ci := 11) (v := .ref ad_t_all) (C := RX11) (T := TX11) (N := 29) hx hb hts inG11 hown hK hP 0 rfl rfl 0 (Nat.le_of_ble_eq_true rfl) (hts _ q1041) (fun _ h9 => h9) rfl dX11_badBy_18 ?_
        refine lv_iload_n hx hb dX11_badBy_21 rfl (lv_at hl 2 rfl) ?_
        refine lv_iload hx hb dX11_badBy_22 (lv_at hl 0 rfl) ?_
        refine kPS (tX11_badOf l G p0 x9 _ rfl) ⟨hx, hb, hml, hown, hts⟩ q1257 q1258 q108 q1259 okyX11_badOf ⟨Nat.le_of_ble_eq_true rfl, Nat.le_of_ble_eq_true rfl⟩ hP hG hS [] rfl hl.1 rfl (Nat.le_of_ble_eq_true rfl) dX11_badBy_24 ⟨Nat.zero_le _, Nat.zero_le _⟩ (fun locs hS => ?_)
        refine W.eq (g2 := F0 m 27 ls [.int (fX11_badOf p0 x9), .ref ad_t_all]) rfl ?_
        obtain ⟨h12, hf⟩ := gd_some hf
        refine va_iald (D := G.1) (cl := vwCl) hx hb hK hP 1 0 rfl rfl (gi_in h12) dX11_badBy_27 ?_
        refine lv_iload_n hx hb dX11_badBy_28 rfl (lv_at hl 3 rfl) ?_
        refine lv_icmp_ne (tgt := 52) hx hb dX11_badBy_29 (by decide) (fun c13 => ?_) (fun c13 => ?_)
        · have hf := if_f hf c13
          refine lv_iinc (v := (x9 + (1 : Int32))) (lv' := [(4, .int (x9 + (1 : Int32))), (0, .ref ad_t), (1, .int p0), (2, .int p1), (3, .int p2)]) hx hb dX11_badBy_52 hl (k := 0) rfl (ii_1 _) (by decide) rfl (fun ls hl => ?_)
          refine lv_goto (tgt := 3) hx hb dX11_badBy_55 (by decide) ?_
          exact ih (x9 + (1 : Int32)) locs ls (lv_sub hl [0, 1, 2, 3, 4] rfl) hS hf
        · have hf := if_t hf c13
          refine lv_aload_n hx hb dX11_badBy_32 rfl (lv_at hl 1 rfl) ?_
          refine va_get (D := G.1) (cl := vwCl) (ci := 11) (v := .ref ad_t_all) (C := RX11) (T := TX11) (N := 29) hx hb hts inG11 hown hK hP 0 rfl rfl 0 (Nat.le_of_ble_eq_true rfl) (hts _ q1041) (fun _ h9 => h9) rfl dX11_badBy_33 ?_
          refine lv_iload_n hx hb dX11_badBy_36 rfl (lv_at hl 2 rfl) ?_
          refine lv_iload hx hb dX11_badBy_37 (lv_at hl 0 rfl) ?_
          refine kPS (tX11_badOf l G p0 x9 _ rfl) ⟨hx, hb, hml, hown, hts⟩ q1257 q1258 q108 q1259 okyX11_badOf ⟨Nat.le_of_ble_eq_true rfl, Nat.le_of_ble_eq_true rfl⟩ hP hG hS [] rfl hl.1 rfl (Nat.le_of_ble_eq_true rfl) dX11_badBy_39 ⟨Nat.zero_le _, Nat.zero_le _⟩ (fun locs hS => ?_)
          refine W.eq (g2 := F0 m 42 ls [.int (fX11_badOf p0 x9), .ref ad_t_all]) rfl ?_
          refine lv_iconst (v := 1) hx hb dX11_badBy_42 (by decide) ?_
          refine lv_iadd hx hb dX11_badBy_43 ?_
          obtain ⟨h14, hf⟩ := gd_some hf
          refine va_iald (D := G.1) (cl := vwCl) hx hb hK hP 1 0 rfl rfl (gi_in h14) dX11_badBy_44 ?_
          refine lv_iload_n hx hb dX11_badBy_45 rfl (lv_at hl 4 rfl) ?_
          refine lv_icmp_ne (tgt := 52) hx hb dX11_badBy_46 (by decide) (fun c15 => ?_) (fun c15 => ?_)
          · have hf := if_f hf c15
            refine lv_iinc (v := (x9 + (1 : Int32))) (lv' := [(4, .int (x9 + (1 : Int32))), (0, .ref ad_t), (1, .int p0), (2, .int p1), (3, .int p2)]) hx hb dX11_badBy_52 hl (k := 0) rfl (ii_1 _) (by decide) rfl (fun ls hl => ?_)
            refine lv_goto (tgt := 3) hx hb dX11_badBy_55 (by decide) ?_
            exact ih (x9 + (1 : Int32)) locs ls (lv_sub hl [0, 1, 2, 3, 4] rfl) hS hf
          · have hf := if_t hf c15
            refine lv_iload hx hb dX11_badBy_49 (lv_at hl 0 rfl) ?_
            have hf := Option.some.inj hf
            subst hf
            have hf := hky8
            (try dsimp only at hf)
            have hf := Option.some.inj hf
            subst hf
            exact pRet hx hb hr hlocks hS dX11_badBy_51
  exact Ly8 FU (0 : Int32) locs ls (lv_sub hl [0, 1, 2, 3, 4] rfl) hS hLy8

def fX11_comes (t_all : Nat → Int32) (p0 : Int32) (p1 : Int32) (p2 : Int32) (p3 : Int32) : Option ((Nat → Int32)) :=
  gd (gi (p0 + (9 : Int32)) 43047) (gd (gi (fX11_badOf p0 (t_all (p0 + (9 : Int32)).toNatClampNeg)) 43047) (gd (gi ((fX11_badOf p0 (t_all (p0 + (9 : Int32)).toNatClampNeg)) + (1 : Int32)) 43047) (gd (gi ((fX11_badOf p0 (t_all (p0 + (9 : Int32)).toNatClampNeg)) + (2 : Int32)) 43047) (gd (gi (p0 + (9 : Int32)) 43047) (gd (gi (p0 + (9 : Int32)) 43047) (some (upd (upd (upd (upd t_all (fX11_badOf p0 (t_all (p0 + (9 : Int32)).toNatClampNeg)).toNatClampNeg p1) ((fX11_badOf p0 (t_all (p0 + (9 : Int32)).toNatClampNeg)) + (1 : Int32)).toNatClampNeg p2) ((fX11_badOf p0 (t_all (p0 + (9 : Int32)).toNatClampNeg)) + (2 : Int32)).toNatClampNeg p3) (p0 + (9 : Int32)).toNatClampNeg (((upd (upd (upd t_all (fX11_badOf p0 (t_all (p0 + (9 : Int32)).toNatClampNeg)).toNatClampNeg p1) ((fX11_badOf p0 (t_all (p0 + (9 : Int32)).toNatClampNeg)) + (1 : Int32)).toNatClampNeg p2) ((fX11_badOf p0 (t_all (p0 + (9 : Int32)).toNatClampNeg)) + (2 : Int32)).toNatClampNeg p3) (p0 + (9 : Int32)).toNatClampNeg) + (1 : Int32)))))))))
set_option maxRecDepth 100000 in
set_option maxHeartbeats 4000000 in
theorem tX11_comes (l : Launch) (G : gG) (ad_t ad_t_all ad_t_tape ad_t_isImage ad_t_size ad_t_givenRow ad_t_givenColumn ad_t_newRow ad_t_view : Nat) (tI : Nat → Int32) (t_value : Int64) (t_all : Nat → Int32) (p0 : Int32) (p1 : Int32) (p2 : Int32) (p3 : Int32) (o : (Nat → Int32)) (hf : fX11_comes t_all p0 p1 p2 p3 = some o) : mE G l yX11_comes cX11_comes 6 none 1 21 0 0 [.ref ad_t, .int p0, .int p1, .int p2, .int p3] [(ad_t, .inr (11, [.ref ad_t_all, .ref ad_t_tape, .ref ad_t_isImage, .int (tI 3), .int (tI 4), .int (tI 5), .int (tI 6), .ref ad_t_size, .ref ad_t_givenRow, .ref ad_t_givenColumn, .ref ad_t_newRow, .int (tI 11), .int (tI 12), .int (tI 13), .int (tI 14), .int (tI 15), .int (tI 16), .int (tI 17), .int (tI 18), .int (tI 19), .ref ad_t_view, .int (tI 21), .int (tI 22), .int (tI 23), .int (tI 24), .int (tI 25), .long t_value, .int (tI 27), .int (tI 28)])), (ad_t_all, .inl (G.2.1 0, 43047, .inl t_all))] (fun r w => r = none ∧ w = [(ad_t, .inr (11, [.ref ad_t_all, .ref ad_t_tape, .ref ad_t_isImage, .int (tI 3), .int (tI 4), .int (tI 5), .int (tI 6), .ref ad_t_size, .ref ad_t_givenRow, .ref ad_t_givenColumn, .ref ad_t_newRow, .int (tI 11), .int (tI 12), .int (tI 13), .int (tI 14), .int (tI 15), .int (tI 16), .int (tI 17), .int (tI 18), .int (tI 19), .ref ad_t_view, .int (tI 21), .int (tI 22), .int (tI 23), .int (tI 24), .int (tI 25), .long t_value, .int (tI 27), .int (tI 28)])), (ad_t_all, .inl (G.2.1 0, 43047, .inl o))]) := by
  refine mE_of (by decide) (Nat.le_of_ble_eq_true rfl) ?_
  intro p e s m below meth cd ls A hx hb hml hown hts hr hlocks hnm hl hA hP hD hS hG
  have hK := hG.1
  have hown : s.vm.findClass RX11 = some m.cls := hown
  have hl : lv_has ls 6 [(0, .ref ad_t), (1, .int p0), (2, .int p1), (3, .int p2), (4, .int p3)] := hl
  have hS := hS
  unfold fX11_comes at hf
  obtain ⟨H, locs, eH, eL⟩ : ∃ (H : Heap) (locs : List Loc), H = s.heap ∧ locs = [] := ⟨_, _, rfl, rfl⟩
  have hP : va_P G.1 vwCl [(ad_t, .inr (11, [.ref ad_t_all, .ref ad_t_tape, .ref ad_t_isImage, .int (tI 3), .int (tI 4), .int (tI 5), .int (tI 6), .ref ad_t_size, .ref ad_t_givenRow, .ref ad_t_givenColumn, .ref ad_t_newRow, .int (tI 11), .int (tI 12), .int (tI 13), .int (tI 14), .int (tI 15), .int (tI 16), .int (tI 17), .int (tI 18), .int (tI 19), .ref ad_t_view, .int (tI 21), .int (tI 22), .int (tI 23), .int (tI 24), .int (tI 25), .long t_value, .int (tI 27), .int (tI 28)])), (ad_t_all, .inl (G.2.1 0, 43047, .inl t_all))] H := eH ▸ hP
  have hS : va_S A s.heap H locs := by rw [eH, eL]; exact hS
  suffices hgo : wG p l e 1 21 s m [.ref ad_t, .int p0, .int p1, .int p2, .int p3] below meth cd H locs (eQ G A (fun r w => r = none ∧ w = [(ad_t, .inr (11, [.ref ad_t_all, .ref ad_t_tape, .ref ad_t_isImage, .int (tI 3), .int (tI 4), .int (tI 5), .int (tI 6), .ref ad_t_size, .ref ad_t_givenRow, .ref ad_t_givenColumn, .ref ad_t_newRow, .int (tI 11), .int (tI 12), .int (tI 13), .int (tI 14), .int (tI 15), .int (tI 16), .int (tI 17), .int (tI 18), .int (tI 19), .ref ad_t_view, .int (tI 21), .int (tI 22), .int (tI 23), .int (tI 24), .int (tI 25), .long t_value, .int (tI 27), .int (tI 28)])), (ad_t_all, .inl (G.2.1 0, 43047, .inl o))])) A (F0 m 0 ls []) by rw [eH, eL] at hgo; exact hgo
  clear eH eL
  refine lv_iload_n hx hb dX11_comes_0 rfl (lv_at hl 1 rfl) ?_
  refine lv_aload_n hx hb dX11_comes_1 rfl (lv_at hl 0 rfl) ?_
  refine va_get (D := G.1) (cl := vwCl) (ci := 11) (v := .ref ad_t_all) (C := RX11) (T := TX11) (N := 29) hx hb hts inG11 hown hK hP 0 rfl rfl 0 (Nat.le_of_ble_eq_true rfl) (hts _ q1041) (fun _ h9 => h9) rfl dX11_comes_2 ?_
  refine lv_iload_n hx hb dX11_comes_5 rfl (lv_at hl 1 rfl) ?_
  refine lv_bipush (v := 9) hx hb dX11_comes_6 (by decide) ?_
  refine lv_iadd hx hb dX11_comes_8 ?_
  obtain ⟨h7, hf⟩ := gd_some hf
  refine va_iald (D := G.1) (cl := vwCl) hx hb hK hP 1 0 rfl rfl (gi_in h7) dX11_comes_9 ?_
  refine kPS (tX11_badOf l G p0 (t_all (p0 + (9 : Int32)).toNatClampNeg) _ rfl) ⟨hx, hb, hml, hown, hts⟩ q1257 q1258 q108 q1259 okyX11_badOf ⟨Nat.le_of_ble_eq_true rfl, Nat.le_of_ble_eq_true rfl⟩ hP hG hS [] rfl hl.1 rfl (Nat.le_of_ble_eq_true rfl) dX11_comes_10 ⟨Nat.zero_le _, Nat.zero_le _⟩ (fun locs hS => ?_)
  refine W.eq (g2 := F0 m 13 ls [.int (fX11_badOf p0 (t_all (p0 + (9 : Int32)).toNatClampNeg))]) rfl ?_
  refine lv_istore (lv' := [(5, .int (fX11_badOf p0 (t_all (p0 + (9 : Int32)).toNatClampNeg))), (0, .ref ad_t), (1, .int p0), (2, .int p1), (3, .int p2), (4, .int p3)]) hx hb dX11_comes_13 hl (by decide) rfl (fun ls hl => ?_)
  refine lv_aload_n hx hb dX11_comes_15 rfl (lv_at hl 1 rfl) ?_
  refine va_get (D := G.1) (cl := vwCl) (ci := 11) (v := .ref ad_t_all) (C := RX11) (T := TX11) (N := 29) hx hb hts inG11 hown hK hP 0 rfl rfl 0 (Nat.le_of_ble_eq_true rfl) (hts _ q1041) (fun _ h9 => h9) rfl dX11_comes_16 ?_
  refine lv_iload hx hb dX11_comes_19 (lv_at hl 0 rfl) ?_
  refine lv_iload_n hx hb dX11_comes_21 rfl (lv_at hl 3 rfl) ?_
  obtain ⟨h8, hf⟩ := gd_some hf
  refine va_iast (D := G.1) (cl := vwCl) hx hb hK hP hD hS 1 0 rfl rfl (gi_in h8) dX11_comes_22 (fun H locs hP hD hS => ?_)
  have hP : va_P G.1 vwCl [(ad_t, .inr (11, [.ref ad_t_all, .ref ad_t_tape, .ref ad_t_isImage, .int (tI 3), .int (tI 4), .int (tI 5), .int (tI 6), .ref ad_t_size, .ref ad_t_givenRow, .ref ad_t_givenColumn, .ref ad_t_newRow, .int (tI 11), .int (tI 12), .int (tI 13), .int (tI 14), .int (tI 15), .int (tI 16), .int (tI 17), .int (tI 18), .int (tI 19), .ref ad_t_view, .int (tI 21), .int (tI 22), .int (tI 23), .int (tI 24), .int (tI 25), .long t_value, .int (tI 27), .int (tI 28)])), (ad_t_all, .inl (G.2.1 0, 43047, .inl (upd t_all (fX11_badOf p0 (t_all (p0 + (9 : Int32)).toNatClampNeg)).toNatClampNeg p1)))] H := hP
  have hD : va_D A [(ad_t, .inr (11, [.ref ad_t_all, .ref ad_t_tape, .ref ad_t_isImage, .int (tI 3), .int (tI 4), .int (tI 5), .int (tI 6), .ref ad_t_size, .ref ad_t_givenRow, .ref ad_t_givenColumn, .ref ad_t_newRow, .int (tI 11), .int (tI 12), .int (tI 13), .int (tI 14), .int (tI 15), .int (tI 16), .int (tI 17), .int (tI 18), .int (tI 19), .ref ad_t_view, .int (tI 21), .int (tI 22), .int (tI 23), .int (tI 24), .int (tI 25), .long t_value, .int (tI 27), .int (tI 28)])), (ad_t_all, .inl (G.2.1 0, 43047, .inl (upd t_all (fX11_badOf p0 (t_all (p0 + (9 : Int32)).toNatClampNeg)).toNatClampNeg p1)))] := hD
  refine lv_aload_n hx hb dX11_comes_23 rfl (lv_at hl 1 rfl) ?_
  refine va_get (D := G.1) (cl := vwCl) (ci := 11) (v := .ref ad_t_all) (C := RX11) (T := TX11) (N := 29) hx hb hts inG11 hown hK hP 0 rfl rfl 0 (Nat.le_of_ble_eq_true rfl) (hts _ q1041) (fun _ h9 => h9) rfl dX11_comes_24 ?_
  refine lv_iload hx hb dX11_comes_27 (lv_at hl 0 rfl) ?_
  refine lv_iconst (v := 1) hx hb dX11_comes_29 (by decide) ?_
  refine lv_iadd hx hb dX11_comes_30 ?_
  refine lv_iload_n hx hb dX11_comes_31 rfl (lv_at hl 4 rfl) ?_
  obtain ⟨h9, hf⟩ := gd_some hf
  refine va_iast (D := G.1) (cl := vwCl) hx hb hK hP hD hS 1 0 rfl rfl (gi_in h9) dX11_comes_32 (fun H locs hP hD hS => ?_)
  have hP : va_P G.1 vwCl [(ad_t, .inr (11, [.ref ad_t_all, .ref ad_t_tape, .ref ad_t_isImage, .int (tI 3), .int (tI 4), .int (tI 5), .int (tI 6), .ref ad_t_size, .ref ad_t_givenRow, .ref ad_t_givenColumn, .ref ad_t_newRow, .int (tI 11), .int (tI 12), .int (tI 13), .int (tI 14), .int (tI 15), .int (tI 16), .int (tI 17), .int (tI 18), .int (tI 19), .ref ad_t_view, .int (tI 21), .int (tI 22), .int (tI 23), .int (tI 24), .int (tI 25), .long t_value, .int (tI 27), .int (tI 28)])), (ad_t_all, .inl (G.2.1 0, 43047, .inl (upd (upd t_all (fX11_badOf p0 (t_all (p0 + (9 : Int32)).toNatClampNeg)).toNatClampNeg p1) ((fX11_badOf p0 (t_all (p0 + (9 : Int32)).toNatClampNeg)) + (1 : Int32)).toNatClampNeg p2)))] H := hP
  have hD : va_D A [(ad_t, .inr (11, [.ref ad_t_all, .ref ad_t_tape, .ref ad_t_isImage, .int (tI 3), .int (tI 4), .int (tI 5), .int (tI 6), .ref ad_t_size, .ref ad_t_givenRow, .ref ad_t_givenColumn, .ref ad_t_newRow, .int (tI 11), .int (tI 12), .int (tI 13), .int (tI 14), .int (tI 15), .int (tI 16), .int (tI 17), .int (tI 18), .int (tI 19), .ref ad_t_view, .int (tI 21), .int (tI 22), .int (tI 23), .int (tI 24), .int (tI 25), .long t_value, .int (tI 27), .int (tI 28)])), (ad_t_all, .inl (G.2.1 0, 43047, .inl (upd (upd t_all (fX11_badOf p0 (t_all (p0 + (9 : Int32)).toNatClampNeg)).toNatClampNeg p1) ((fX11_badOf p0 (t_all (p0 + (9 : Int32)).toNatClampNeg)) + (1 : Int32)).toNatClampNeg p2)))] := hD
  refine lv_aload_n hx hb dX11_comes_33 rfl (lv_at hl 1 rfl) ?_
  refine va_get (D := G.1) (cl := vwCl) (ci := 11) (v := .ref ad_t_all) (C := RX11) (T := TX11) (N := 29) hx hb hts inG11 hown hK hP 0 rfl rfl 0 (Nat.le_of_ble_eq_true rfl) (hts _ q1041) (fun _ h9 => h9) rfl dX11_comes_34 ?_
  refine lv_iload hx hb dX11_comes_37 (lv_at hl 0 rfl) ?_
  refine lv_iconst (v := 2) hx hb dX11_comes_39 (by decide) ?_
  refine lv_iadd hx hb dX11_comes_40 ?_
  refine lv_iload hx hb dX11_comes_41 (lv_at hl 5 rfl) ?_
  obtain ⟨h10, hf⟩ := gd_some hf
  refine va_iast (D := G.1) (cl := vwCl) hx hb hK hP hD hS 1 0 rfl rfl (gi_in h10) dX11_comes_43 (fun H locs hP hD hS => ?_)
  have hP : va_P G.1 vwCl [(ad_t, .inr (11, [.ref ad_t_all, .ref ad_t_tape, .ref ad_t_isImage, .int (tI 3), .int (tI 4), .int (tI 5), .int (tI 6), .ref ad_t_size, .ref ad_t_givenRow, .ref ad_t_givenColumn, .ref ad_t_newRow, .int (tI 11), .int (tI 12), .int (tI 13), .int (tI 14), .int (tI 15), .int (tI 16), .int (tI 17), .int (tI 18), .int (tI 19), .ref ad_t_view, .int (tI 21), .int (tI 22), .int (tI 23), .int (tI 24), .int (tI 25), .long t_value, .int (tI 27), .int (tI 28)])), (ad_t_all, .inl (G.2.1 0, 43047, .inl (upd (upd (upd t_all (fX11_badOf p0 (t_all (p0 + (9 : Int32)).toNatClampNeg)).toNatClampNeg p1) ((fX11_badOf p0 (t_all (p0 + (9 : Int32)).toNatClampNeg)) + (1 : Int32)).toNatClampNeg p2) ((fX11_badOf p0 (t_all (p0 + (9 : Int32)).toNatClampNeg)) + (2 : Int32)).toNatClampNeg p3)))] H := hP
  have hD : va_D A [(ad_t, .inr (11, [.ref ad_t_all, .ref ad_t_tape, .ref ad_t_isImage, .int (tI 3), .int (tI 4), .int (tI 5), .int (tI 6), .ref ad_t_size, .ref ad_t_givenRow, .ref ad_t_givenColumn, .ref ad_t_newRow, .int (tI 11), .int (tI 12), .int (tI 13), .int (tI 14), .int (tI 15), .int (tI 16), .int (tI 17), .int (tI 18), .int (tI 19), .ref ad_t_view, .int (tI 21), .int (tI 22), .int (tI 23), .int (tI 24), .int (tI 25), .long t_value, .int (tI 27), .int (tI 28)])), (ad_t_all, .inl (G.2.1 0, 43047, .inl (upd (upd (upd t_all (fX11_badOf p0 (t_all (p0 + (9 : Int32)).toNatClampNeg)).toNatClampNeg p1) ((fX11_badOf p0 (t_all (p0 + (9 : Int32)).toNatClampNeg)) + (1 : Int32)).toNatClampNeg p2) ((fX11_badOf p0 (t_all (p0 + (9 : Int32)).toNatClampNeg)) + (2 : Int32)).toNatClampNeg p3)))] := hD
  refine lv_aload_n hx hb dX11_comes_44 rfl (lv_at hl 1 rfl) ?_
  refine va_get (D := G.1) (cl := vwCl) (ci := 11) (v := .ref ad_t_all) (C := RX11) (T := TX11) (N := 29) hx hb hts inG11 hown hK hP 0 rfl rfl 0 (Nat.le_of_ble_eq_true rfl) (hts _ q1041) (fun _ h9 => h9) rfl dX11_comes_45 ?_
  refine lv_iload_n hx hb dX11_comes_48 rfl (lv_at hl 2 rfl) ?_
  refine lv_bipush (v := 9) hx hb dX11_comes_49 (by decide) ?_
  refine lv_iadd hx hb dX11_comes_51 ?_
  refine lv_dup2_11 hx hb dX11_comes_52 rfl rfl ?_
  obtain ⟨h11, hf⟩ := gd_some hf
  refine va_iald (D := G.1) (cl := vwCl) hx hb hK hP 1 0 rfl rfl (gi_in h11) dX11_comes_53 ?_
  refine lv_iconst (v := 1) hx hb dX11_comes_54 (by decide) ?_
  refine lv_iadd hx hb dX11_comes_55 ?_
  obtain ⟨h12, hf⟩ := gd_some hf
  refine va_iast (D := G.1) (cl := vwCl) hx hb hK hP hD hS 1 0 rfl rfl (gi_in h12) dX11_comes_56 (fun H locs hP hD hS => ?_)
  have hP : va_P G.1 vwCl [(ad_t, .inr (11, [.ref ad_t_all, .ref ad_t_tape, .ref ad_t_isImage, .int (tI 3), .int (tI 4), .int (tI 5), .int (tI 6), .ref ad_t_size, .ref ad_t_givenRow, .ref ad_t_givenColumn, .ref ad_t_newRow, .int (tI 11), .int (tI 12), .int (tI 13), .int (tI 14), .int (tI 15), .int (tI 16), .int (tI 17), .int (tI 18), .int (tI 19), .ref ad_t_view, .int (tI 21), .int (tI 22), .int (tI 23), .int (tI 24), .int (tI 25), .long t_value, .int (tI 27), .int (tI 28)])), (ad_t_all, .inl (G.2.1 0, 43047, .inl (upd (upd (upd (upd t_all (fX11_badOf p0 (t_all (p0 + (9 : Int32)).toNatClampNeg)).toNatClampNeg p1) ((fX11_badOf p0 (t_all (p0 + (9 : Int32)).toNatClampNeg)) + (1 : Int32)).toNatClampNeg p2) ((fX11_badOf p0 (t_all (p0 + (9 : Int32)).toNatClampNeg)) + (2 : Int32)).toNatClampNeg p3) (p0 + (9 : Int32)).toNatClampNeg (((upd (upd (upd t_all (fX11_badOf p0 (t_all (p0 + (9 : Int32)).toNatClampNeg)).toNatClampNeg p1) ((fX11_badOf p0 (t_all (p0 + (9 : Int32)).toNatClampNeg)) + (1 : Int32)).toNatClampNeg p2) ((fX11_badOf p0 (t_all (p0 + (9 : Int32)).toNatClampNeg)) + (2 : Int32)).toNatClampNeg p3) (p0 + (9 : Int32)).toNatClampNeg) + (1 : Int32)))))] H := hP
  have hD : va_D A [(ad_t, .inr (11, [.ref ad_t_all, .ref ad_t_tape, .ref ad_t_isImage, .int (tI 3), .int (tI 4), .int (tI 5), .int (tI 6), .ref ad_t_size, .ref ad_t_givenRow, .ref ad_t_givenColumn, .ref ad_t_newRow, .int (tI 11), .int (tI 12), .int (tI 13), .int (tI 14), .int (tI 15), .int (tI 16), .int (tI 17), .int (tI 18), .int (tI 19), .ref ad_t_view, .int (tI 21), .int (tI 22), .int (tI 23), .int (tI 24), .int (tI 25), .long t_value, .int (tI 27), .int (tI 28)])), (ad_t_all, .inl (G.2.1 0, 43047, .inl (upd (upd (upd (upd t_all (fX11_badOf p0 (t_all (p0 + (9 : Int32)).toNatClampNeg)).toNatClampNeg p1) ((fX11_badOf p0 (t_all (p0 + (9 : Int32)).toNatClampNeg)) + (1 : Int32)).toNatClampNeg p2) ((fX11_badOf p0 (t_all (p0 + (9 : Int32)).toNatClampNeg)) + (2 : Int32)).toNatClampNeg p3) (p0 + (9 : Int32)).toNatClampNeg (((upd (upd (upd t_all (fX11_badOf p0 (t_all (p0 + (9 : Int32)).toNatClampNeg)).toNatClampNeg p1) ((fX11_badOf p0 (t_all (p0 + (9 : Int32)).toNatClampNeg)) + (1 : Int32)).toNatClampNeg p2) ((fX11_badOf p0 (t_all (p0 + (9 : Int32)).toNatClampNeg)) + (2 : Int32)).toNatClampNeg p3) (p0 + (9 : Int32)).toNatClampNeg) + (1 : Int32)))))] := hD
  have hf := Option.some.inj hf
  subst hf
  exact eRetV hx hb hr hlocks hP hD hS ⟨rfl, rfl⟩ dX11_comes_57

def fX11_bad (tI : Nat → Int32) (t_all : Nat → Int32) (t_size : Nat → Int32) (p0 : Int32) (p1 : Int32) (p2 : Int32) : Option (Int32 × (Nat → Int32) × (Nat → Int32) × (Nat → Int32)) :=
  (if (bi (fX11_canBad p0 p1)) = 0 then bn (fX11_refused t_all (1 : Int32) (0 : Int32)) fun a2 => some (a2.1, tI, a2.2, t_size) else (if (bi (fX11_isIn p2 (0 : Int32) (1 : Int32))) = 0 then bn (fX11_refused t_all (1 : Int32) (0 : Int32)) fun a31 => some (a31.1, tI, a31.2, t_size) else bn (fX11_badBy t_all (0 : Int32) p0 p1) fun a5 => (if a5 = (-1 : Int32) then (if (t_all 9) = (12 : Int32) then bn (fX11_refused t_all (3 : Int32) (0 : Int32)) fun a27 => some (a27.1, tI, a27.2, t_size) else bn (fX11_mux t_all t_size (0 : Int32)) fun a9 => bn (fX11_rows t_all (0 : Int32) a9.1) fun a11 => (if a11 ≤ p0 then bn (fX11_refused t_all (4 : Int32) (6 : Int32)) fun a14 => some (a14.1, tI, a14.2, a9.2) else bn (fX11_columns t_all (0 : Int32) a9.1) fun a16 => (if p1 < a16 then bn (fX11_keeps tI t_all) fun a19 => bn (fX11_comes a19.2 (0 : Int32) p0 p1 p2) fun a21 => bn (fX11_refused a21 (0 : Int32) (0 : Int32)) fun a23 => some (a23.1, a19.1, a23.2, a9.2) else bn (fX11_refused t_all (4 : Int32) (6 : Int32)) fun a25 => some (a25.1, tI, a25.2, a9.2)))) else bn (fX11_refused t_all (2 : Int32) (0 : Int32)) fun a29 => some (a29.1, tI, a29.2, t_size))))
set_option maxRecDepth 100000 in
set_option maxHeartbeats 4000000 in
theorem tX11_bad (l : Launch) (G : gG) (ad_t ad_t_all ad_t_tape ad_t_isImage ad_t_size ad_t_givenRow ad_t_givenColumn ad_t_newRow ad_t_view : Nat) (tI : Nat → Int32) (t_value : Int64) (t_all : Nat → Int32) (t_size : Nat → Int32) (p0 : Int32) (p1 : Int32) (p2 : Int32) (o : Int32 × (Nat → Int32) × (Nat → Int32) × (Nat → Int32)) (hf : fX11_bad tI t_all t_size p0 p1 p2 = some o) : mE G l yX11_bad cX11_bad 5 (some .int) 12 282 0 0 [.ref ad_t, .int p0, .int p1, .int p2] [(ad_t, .inr (11, [.ref ad_t_all, .ref ad_t_tape, .ref ad_t_isImage, .int (tI 3), .int (tI 4), .int (tI 5), .int (tI 6), .ref ad_t_size, .ref ad_t_givenRow, .ref ad_t_givenColumn, .ref ad_t_newRow, .int (tI 11), .int (tI 12), .int (tI 13), .int (tI 14), .int (tI 15), .int (tI 16), .int (tI 17), .int (tI 18), .int (tI 19), .ref ad_t_view, .int (tI 21), .int (tI 22), .int (tI 23), .int (tI 24), .int (tI 25), .long t_value, .int (tI 27), .int (tI 28)])), (ad_t_all, .inl (G.2.1 0, 43047, .inl t_all)), (ad_t_size, .inl (G.2.1 0, 8, .inl t_size))] (fun r w => r = (some (.int o.1)) ∧ w = [(ad_t, .inr (11, [.ref ad_t_all, .ref ad_t_tape, .ref ad_t_isImage, .int (o.2.1 3), .int (o.2.1 4), .int (o.2.1 5), .int (o.2.1 6), .ref ad_t_size, .ref ad_t_givenRow, .ref ad_t_givenColumn, .ref ad_t_newRow, .int (o.2.1 11), .int (o.2.1 12), .int (o.2.1 13), .int (o.2.1 14), .int (o.2.1 15), .int (o.2.1 16), .int (o.2.1 17), .int (o.2.1 18), .int (o.2.1 19), .ref ad_t_view, .int (o.2.1 21), .int (o.2.1 22), .int (o.2.1 23), .int (o.2.1 24), .int (o.2.1 25), .long t_value, .int (o.2.1 27), .int (o.2.1 28)])), (ad_t_all, .inl (G.2.1 0, 43047, .inl o.2.2.1)), (ad_t_size, .inl (G.2.1 0, 8, .inl o.2.2.2))]) := by
  refine mE_of (by decide) (Nat.le_of_ble_eq_true rfl) ?_
  intro p e s m below meth cd ls A hx hb hml hown hts hr hlocks hnm hl hA hP hD hS hG
  have hK := hG.1
  have hown : s.vm.findClass RX11 = some m.cls := hown
  have hl : lv_has ls 5 [(0, .ref ad_t), (1, .int p0), (2, .int p1), (3, .int p2)] := hl
  have hS := hS
  unfold fX11_bad at hf
  obtain ⟨H, locs, eH, eL⟩ : ∃ (H : Heap) (locs : List Loc), H = s.heap ∧ locs = [] := ⟨_, _, rfl, rfl⟩
  have hP : va_P G.1 vwCl [(ad_t, .inr (11, [.ref ad_t_all, .ref ad_t_tape, .ref ad_t_isImage, .int (tI 3), .int (tI 4), .int (tI 5), .int (tI 6), .ref ad_t_size, .ref ad_t_givenRow, .ref ad_t_givenColumn, .ref ad_t_newRow, .int (tI 11), .int (tI 12), .int (tI 13), .int (tI 14), .int (tI 15), .int (tI 16), .int (tI 17), .int (tI 18), .int (tI 19), .ref ad_t_view, .int (tI 21), .int (tI 22), .int (tI 23), .int (tI 24), .int (tI 25), .long t_value, .int (tI 27), .int (tI 28)])), (ad_t_all, .inl (G.2.1 0, 43047, .inl t_all)), (ad_t_size, .inl (G.2.1 0, 8, .inl t_size))] H := eH ▸ hP
  have hS : va_S A s.heap H locs := by rw [eH, eL]; exact hS
  suffices hgo : wG p l e 12 282 s m [.ref ad_t, .int p0, .int p1, .int p2] below meth cd H locs (eQ G A (fun r w => r = (some (.int o.1)) ∧ w = [(ad_t, .inr (11, [.ref ad_t_all, .ref ad_t_tape, .ref ad_t_isImage, .int (o.2.1 3), .int (o.2.1 4), .int (o.2.1 5), .int (o.2.1 6), .ref ad_t_size, .ref ad_t_givenRow, .ref ad_t_givenColumn, .ref ad_t_newRow, .int (o.2.1 11), .int (o.2.1 12), .int (o.2.1 13), .int (o.2.1 14), .int (o.2.1 15), .int (o.2.1 16), .int (o.2.1 17), .int (o.2.1 18), .int (o.2.1 19), .ref ad_t_view, .int (o.2.1 21), .int (o.2.1 22), .int (o.2.1 23), .int (o.2.1 24), .int (o.2.1 25), .long t_value, .int (o.2.1 27), .int (o.2.1 28)])), (ad_t_all, .inl (G.2.1 0, 43047, .inl o.2.2.1)), (ad_t_size, .inl (G.2.1 0, 8, .inl o.2.2.2))])) A (F0 m 0 ls []) by rw [eH, eL] at hgo; exact hgo
  clear eH eL
  refine lv_iload_n hx hb dX11_bad_0 rfl (lv_at hl 1 rfl) ?_
  refine lv_iload_n hx hb dX11_bad_1 rfl (lv_at hl 2 rfl) ?_
  refine kPS (tX11_canBad l G p0 p1 _ rfl) ⟨hx, hb, hml, hown, hts⟩ q1272 q1273 q108 q1274 okyX11_canBad ⟨Nat.le_of_ble_eq_true rfl, Nat.le_of_ble_eq_true rfl⟩ hP hG hS [] rfl hl.1 rfl (Nat.le_of_ble_eq_true rfl) dX11_bad_2 ⟨Nat.zero_le _, Nat.zero_le _⟩ (fun locs hS => ?_)
  refine W.eq (g2 := F0 m 5 ls [.int (bi (fX11_canBad p0 p1))]) rfl ?_
  refine lv_if_eq (tgt := 17) hx hb dX11_bad_5 (by decide) (fun c33 => ?_) (fun c33 => ?_)
  · have hf := if_t hf c33
    refine lv_aload_n hx hb dX11_bad_17 rfl (lv_at hl 0 rfl) ?_
    refine lv_iconst (v := 1) hx hb dX11_bad_18 (by decide) ?_
    refine lv_iconst (v := 0) hx hb dX11_bad_19 (by decide) ?_
    obtain ⟨a34, h35, hf⟩ := bn_some hf
    refine kEV (tX11_refused l G ad_t ad_t_all ad_t_tape ad_t_isImage ad_t_size ad_t_givenRow ad_t_givenColumn ad_t_newRow ad_t_view tI t_value t_all (1 : Int32) (0 : Int32) a34 h35) ⟨hx, hb, hml, hown, hts⟩ q1143 q1145 q39 q108 q1146 okyX11_refused ⟨Nat.le_of_ble_eq_true rfl, Nat.le_of_ble_eq_true rfl⟩ hP hD hG hS hA [0, 1] [2] rfl (wr := [(ad_t_size, .inl (G.2.1 0, 8, .inl t_size))]) rfl (by decide) 0 rfl rfl hl.1 rfl (Nat.le_of_ble_eq_true rfl) dX11_bad_20 ⟨Nat.zero_le _, Nat.zero_le _⟩ (fun r w H locs hR hP hD hS => ?_)
    obtain ⟨rfl, rfl⟩ := hR
    have hP : va_P G.1 vwCl [(ad_t_size, .inl (G.2.1 0, 8, .inl t_size)), (ad_t, .inr (11, [.ref ad_t_all, .ref ad_t_tape, .ref ad_t_isImage, .int (tI 3), .int (tI 4), .int (tI 5), .int (tI 6), .ref ad_t_size, .ref ad_t_givenRow, .ref ad_t_givenColumn, .ref ad_t_newRow, .int (tI 11), .int (tI 12), .int (tI 13), .int (tI 14), .int (tI 15), .int (tI 16), .int (tI 17), .int (tI 18), .int (tI 19), .ref ad_t_view, .int (tI 21), .int (tI 22), .int (tI 23), .int (tI 24), .int (tI 25), .long t_value, .int (tI 27), .int (tI 28)])), (ad_t_all, .inl (G.2.1 0, 43047, .inl a34.2))] H := hP
    have hD : va_D A [(ad_t_size, .inl (G.2.1 0, 8, .inl t_size)), (ad_t, .inr (11, [.ref ad_t_all, .ref ad_t_tape, .ref ad_t_isImage, .int (tI 3), .int (tI 4), .int (tI 5), .int (tI 6), .ref ad_t_size, .ref ad_t_givenRow, .ref ad_t_givenColumn, .ref ad_t_newRow, .int (tI 11), .int (tI 12), .int (tI 13), .int (tI 14), .int (tI 15), .int (tI 16), .int (tI 17), .int (tI 18), .int (tI 19), .ref ad_t_view, .int (tI 21), .int (tI 22), .int (tI 23), .int (tI 24), .int (tI 25), .long t_value, .int (tI 27), .int (tI 28)])), (ad_t_all, .inl (G.2.1 0, 43047, .inl a34.2))] := hD
    refine W.eq (g2 := F0 m 23 ls [.int a34.1]) rfl ?_
    have hf := Option.some.inj hf
    subst hf
    have hP := hP.sub (ws' := [(ad_t, .inr (11, [.ref ad_t_all, .ref ad_t_tape, .ref ad_t_isImage, .int (tI 3), .int (tI 4), .int (tI 5), .int (tI 6), .ref ad_t_size, .ref ad_t_givenRow, .ref ad_t_givenColumn, .ref ad_t_newRow, .int (tI 11), .int (tI 12), .int (tI 13), .int (tI 14), .int (tI 15), .int (tI 16), .int (tI 17), .int (tI 18), .int (tI 19), .ref ad_t_view, .int (tI 21), .int (tI 22), .int (tI 23), .int (tI 24), .int (tI 25), .long t_value, .int (tI 27), .int (tI 28)])), (ad_t_all, .inl (G.2.1 0, 43047, .inl a34.2)), (ad_t_size, .inl (G.2.1 0, 8, .inl t_size))]) [1, 2, 0] rfl
    have hD := hD.sub (ws' := [(ad_t, .inr (11, [.ref ad_t_all, .ref ad_t_tape, .ref ad_t_isImage, .int (tI 3), .int (tI 4), .int (tI 5), .int (tI 6), .ref ad_t_size, .ref ad_t_givenRow, .ref ad_t_givenColumn, .ref ad_t_newRow, .int (tI 11), .int (tI 12), .int (tI 13), .int (tI 14), .int (tI 15), .int (tI 16), .int (tI 17), .int (tI 18), .int (tI 19), .ref ad_t_view, .int (tI 21), .int (tI 22), .int (tI 23), .int (tI 24), .int (tI 25), .long t_value, .int (tI 27), .int (tI 28)])), (ad_t_all, .inl (G.2.1 0, 43047, .inl a34.2)), (ad_t_size, .inl (G.2.1 0, 8, .inl t_size))]) [1, 2, 0] (by decide) rfl
    exact eRet hx hb hr hlocks hP hD hS ⟨rfl, rfl⟩ dX11_bad_23
  · have hf := if_f hf c33
    refine lv_iload_n hx hb dX11_bad_8 rfl (lv_at hl 3 rfl) ?_
    refine lv_iconst (v := 0) hx hb dX11_bad_9 (by decide) ?_
    refine lv_iconst (v := 1) hx hb dX11_bad_10 (by decide) ?_
    refine kPS (tX11_isIn l G p2 (0 : Int32) (1 : Int32) _ rfl) ⟨hx, hb, hml, hown, hts⟩ q1137 q1138 q108 q1139 okyX11_isIn ⟨Nat.le_of_ble_eq_true rfl, Nat.le_of_ble_eq_true rfl⟩ hP hG hS [] rfl hl.1 rfl (Nat.le_of_ble_eq_true rfl) dX11_bad_11 ⟨Nat.zero_le _, Nat.zero_le _⟩ (fun locs hS => ?_)
    refine W.eq (g2 := F0 m 14 ls [.int (bi (fX11_isIn p2 (0 : Int32) (1 : Int32)))]) rfl ?_
    refine lv_if_ne (tgt := 24) hx hb dX11_bad_14 (by decide) (fun c36 => ?_) (fun c36 => ?_)
    · have hf := if_f hf c36
      refine lv_aload_n hx hb dX11_bad_24 rfl (lv_at hl 0 rfl) ?_
      refine lv_iconst (v := 0) hx hb dX11_bad_25 (by decide) ?_
      refine lv_iload_n hx hb dX11_bad_26 rfl (lv_at hl 1 rfl) ?_
      refine lv_iload_n hx hb dX11_bad_27 rfl (lv_at hl 2 rfl) ?_
      obtain ⟨a37, h38, hf⟩ := bn_some hf
      refine kPV (tX11_badBy l G ad_t ad_t_all ad_t_tape ad_t_isImage ad_t_size ad_t_givenRow ad_t_givenColumn ad_t_newRow ad_t_view tI t_value t_all (0 : Int32) p0 p1 a37 h38) ⟨hx, hb, hml, hown, hts⟩ q1275 q1277 q67 q108 q1278 okyX11_badBy ⟨Nat.le_of_ble_eq_true rfl, Nat.le_of_ble_eq_true rfl⟩ hP hG hS [0, 1] rfl 0 rfl rfl hl.1 rfl (Nat.le_of_ble_eq_true rfl) dX11_bad_28 ⟨Nat.zero_le _, Nat.zero_le _⟩ (fun locs hS => ?_)
      refine W.eq (g2 := F0 m 31 ls [.int a37]) rfl ?_
      refine lv_iconst (v := -1) hx hb dX11_bad_31 (by decide) ?_
      refine lv_icmp_eq (tgt := 42) hx hb dX11_bad_32 (by decide) (fun c39 => ?_) (fun c39 => ?_)
      · have hf := if_t hf c39
        refine lv_aload_n hx hb dX11_bad_42 rfl (lv_at hl 0 rfl) ?_
        refine va_get (D := G.1) (cl := vwCl) (ci := 11) (v := .ref ad_t_all) (C := RX11) (T := TX11) (N := 29) hx hb hts inG11 hown hK hP 0 rfl rfl 0 (Nat.le_of_ble_eq_true rfl) (hts _ q1041) (fun _ h9 => h9) rfl dX11_bad_43 ?_
        refine lv_bipush (v := 9) hx hb dX11_bad_46 (by decide) ?_
        refine va_iald (D := G.1) (cl := vwCl) hx hb hK hP 1 0 rfl rfl (vin (by decide)) dX11_bad_48 ?_
        refine lv_ti (v := (t_all 9)) (congrArg (t_all) (tn 9)) ?_
        refine lv_bipush (v := 12) hx hb dX11_bad_49 (by decide) ?_
        refine lv_icmp_ne (tgt := 61) hx hb dX11_bad_51 (by decide) (fun c40 => ?_) (fun c40 => ?_)
        · have hf := if_f hf c40
          refine lv_aload_n hx hb dX11_bad_61 rfl (lv_at hl 0 rfl) ?_
          refine lv_iconst (v := 0) hx hb dX11_bad_62 (by decide) ?_
          obtain ⟨a41, h42, hf⟩ := bn_some hf
          refine kEV (tX11_mux l G ad_t ad_t_all ad_t_tape ad_t_isImage ad_t_size ad_t_givenRow ad_t_givenColumn ad_t_newRow ad_t_view tI t_value t_all t_size (0 : Int32) a41 h42) ⟨hx, hb, hml, hown, hts⟩ q1163 q1165 q44 q108 q1166 okyX11_mux ⟨Nat.le_of_ble_eq_true rfl, Nat.le_of_ble_eq_true rfl⟩ hP hD hG hS hA [0, 1, 2] [] rfl (wr := []) rfl (by decide) 0 rfl rfl hl.1 rfl (Nat.le_of_ble_eq_true rfl) dX11_bad_63 ⟨Nat.zero_le _, Nat.zero_le _⟩ (fun r w H locs hR hP hD hS => ?_)
          obtain ⟨rfl, rfl⟩ := hR
          have hP : va_P G.1 vwCl [(ad_t, .inr (11, [.ref ad_t_all, .ref ad_t_tape, .ref ad_t_isImage, .int (tI 3), .int (tI 4), .int (tI 5), .int (tI 6), .ref ad_t_size, .ref ad_t_givenRow, .ref ad_t_givenColumn, .ref ad_t_newRow, .int (tI 11), .int (tI 12), .int (tI 13), .int (tI 14), .int (tI 15), .int (tI 16), .int (tI 17), .int (tI 18), .int (tI 19), .ref ad_t_view, .int (tI 21), .int (tI 22), .int (tI 23), .int (tI 24), .int (tI 25), .long t_value, .int (tI 27), .int (tI 28)])), (ad_t_all, .inl (G.2.1 0, 43047, .inl t_all)), (ad_t_size, .inl (G.2.1 0, 8, .inl a41.2))] H := hP
          have hD : va_D A [(ad_t, .inr (11, [.ref ad_t_all, .ref ad_t_tape, .ref ad_t_isImage, .int (tI 3), .int (tI 4), .int (tI 5), .int (tI 6), .ref ad_t_size, .ref ad_t_givenRow, .ref ad_t_givenColumn, .ref ad_t_newRow, .int (tI 11), .int (tI 12), .int (tI 13), .int (tI 14), .int (tI 15), .int (tI 16), .int (tI 17), .int (tI 18), .int (tI 19), .ref ad_t_view, .int (tI 21), .int (tI 22), .int (tI 23), .int (tI 24), .int (tI 25), .long t_value, .int (tI 27), .int (tI 28)])), (ad_t_all, .inl (G.2.1 0, 43047, .inl t_all)), (ad_t_size, .inl (G.2.1 0, 8, .inl a41.2))] := hD
          refine W.eq (g2 := F0 m 66 ls [.int a41.1]) rfl ?_
          refine lv_istore (lv' := [(4, .int a41.1), (0, .ref ad_t), (1, .int p0), (2, .int p1), (3, .int p2)]) hx hb dX11_bad_66 hl (by decide) rfl (fun ls hl => ?_)
          refine lv_iload_n hx hb dX11_bad_68 rfl (lv_at hl 2 rfl) ?_
          refine lv_aload_n hx hb dX11_bad_69 rfl (lv_at hl 1 rfl) ?_
          refine lv_iconst (v := 0) hx hb dX11_bad_70 (by decide) ?_
          refine lv_iload hx hb dX11_bad_71 (lv_at hl 0 rfl) ?_
          obtain ⟨a43, h44, hf⟩ := bn_some hf
          refine kPV (tX11_rows l G ad_t ad_t_all ad_t_tape ad_t_isImage ad_t_size ad_t_givenRow ad_t_givenColumn ad_t_newRow ad_t_view tI t_value t_all (0 : Int32) a41.1 a43 h44) ⟨hx, hb, hml, hown, hts⟩ q1159 q1161 q43 q108 q1162 okyX11_rows ⟨Nat.le_of_ble_eq_true rfl, Nat.le_of_ble_eq_true rfl⟩ hP hG hS [0, 1] rfl 0 rfl rfl hl.1 rfl (Nat.le_of_ble_eq_true rfl) dX11_bad_73 ⟨Nat.zero_le _, Nat.zero_le _⟩ (fun locs hS => ?_)
          refine W.eq (g2 := F0 m 76 ls [.int a43, .int p0]) rfl ?_
          refine lv_icmp_ge (tgt := 90) hx hb dX11_bad_76 (by decide) (fun c45 => ?_) (fun c45 => ?_)
          · have hf := if_t hf c45
            refine lv_aload_n hx hb dX11_bad_90 rfl (lv_at hl 1 rfl) ?_
            refine lv_iconst (v := 4) hx hb dX11_bad_91 (by decide) ?_
            refine lv_bipush (v := 6) hx hb dX11_bad_92 (by decide) ?_
            obtain ⟨a46, h47, hf⟩ := bn_some hf
            refine kEV (tX11_refused l G ad_t ad_t_all ad_t_tape ad_t_isImage ad_t_size ad_t_givenRow ad_t_givenColumn ad_t_newRow ad_t_view tI t_value t_all (4 : Int32) (6 : Int32) a46 h47) ⟨hx, hb, hml, hown, hts⟩ q1143 q1145 q39 q108 q1146 okyX11_refused ⟨Nat.le_of_ble_eq_true rfl, Nat.le_of_ble_eq_true rfl⟩ hP hD hG hS hA [0, 1] [2] rfl (wr := [(ad_t_size, .inl (G.2.1 0, 8, .inl a41.2))]) rfl (by decide) 0 rfl rfl hl.1 rfl (Nat.le_of_ble_eq_true rfl) dX11_bad_94 ⟨Nat.zero_le _, Nat.zero_le _⟩ (fun r w H locs hR hP hD hS => ?_)
            obtain ⟨rfl, rfl⟩ := hR
            have hP : va_P G.1 vwCl [(ad_t_size, .inl (G.2.1 0, 8, .inl a41.2)), (ad_t, .inr (11, [.ref ad_t_all, .ref ad_t_tape, .ref ad_t_isImage, .int (tI 3), .int (tI 4), .int (tI 5), .int (tI 6), .ref ad_t_size, .ref ad_t_givenRow, .ref ad_t_givenColumn, .ref ad_t_newRow, .int (tI 11), .int (tI 12), .int (tI 13), .int (tI 14), .int (tI 15), .int (tI 16), .int (tI 17), .int (tI 18), .int (tI 19), .ref ad_t_view, .int (tI 21), .int (tI 22), .int (tI 23), .int (tI 24), .int (tI 25), .long t_value, .int (tI 27), .int (tI 28)])), (ad_t_all, .inl (G.2.1 0, 43047, .inl a46.2))] H := hP
            have hD : va_D A [(ad_t_size, .inl (G.2.1 0, 8, .inl a41.2)), (ad_t, .inr (11, [.ref ad_t_all, .ref ad_t_tape, .ref ad_t_isImage, .int (tI 3), .int (tI 4), .int (tI 5), .int (tI 6), .ref ad_t_size, .ref ad_t_givenRow, .ref ad_t_givenColumn, .ref ad_t_newRow, .int (tI 11), .int (tI 12), .int (tI 13), .int (tI 14), .int (tI 15), .int (tI 16), .int (tI 17), .int (tI 18), .int (tI 19), .ref ad_t_view, .int (tI 21), .int (tI 22), .int (tI 23), .int (tI 24), .int (tI 25), .long t_value, .int (tI 27), .int (tI 28)])), (ad_t_all, .inl (G.2.1 0, 43047, .inl a46.2))] := hD
            refine W.eq (g2 := F0 m 97 ls [.int a46.1]) rfl ?_
            have hf := Option.some.inj hf
            subst hf
            have hP := hP.sub (ws' := [(ad_t, .inr (11, [.ref ad_t_all, .ref ad_t_tape, .ref ad_t_isImage, .int (tI 3), .int (tI 4), .int (tI 5), .int (tI 6), .ref ad_t_size, .ref ad_t_givenRow, .ref ad_t_givenColumn, .ref ad_t_newRow, .int (tI 11), .int (tI 12), .int (tI 13), .int (tI 14), .int (tI 15), .int (tI 16), .int (tI 17), .int (tI 18), .int (tI 19), .ref ad_t_view, .int (tI 21), .int (tI 22), .int (tI 23), .int (tI 24), .int (tI 25), .long t_value, .int (tI 27), .int (tI 28)])), (ad_t_all, .inl (G.2.1 0, 43047, .inl a46.2)), (ad_t_size, .inl (G.2.1 0, 8, .inl a41.2))]) [1, 2, 0] rfl
            have hD := hD.sub (ws' := [(ad_t, .inr (11, [.ref ad_t_all, .ref ad_t_tape, .ref ad_t_isImage, .int (tI 3), .int (tI 4), .int (tI 5), .int (tI 6), .ref ad_t_size, .ref ad_t_givenRow, .ref ad_t_givenColumn, .ref ad_t_newRow, .int (tI 11), .int (tI 12), .int (tI 13), .int (tI 14), .int (tI 15), .int (tI 16), .int (tI 17), .int (tI 18), .int (tI 19), .ref ad_t_view, .int (tI 21), .int (tI 22), .int (tI 23), .int (tI 24), .int (tI 25), .long t_value, .int (tI 27), .int (tI 28)])), (ad_t_all, .inl (G.2.1 0, 43047, .inl a46.2)), (ad_t_size, .inl (G.2.1 0, 8, .inl a41.2))]) [1, 2, 0] (by decide) rfl
            exact eRet hx hb hr hlocks hP hD hS ⟨rfl, rfl⟩ dX11_bad_97
          · have hf := if_f hf c45
            refine lv_iload_n hx hb dX11_bad_79 rfl (lv_at hl 3 rfl) ?_
            refine lv_aload_n hx hb dX11_bad_80 rfl (lv_at hl 1 rfl) ?_
            refine lv_iconst (v := 0) hx hb dX11_bad_81 (by decide) ?_
            refine lv_iload hx hb dX11_bad_82 (lv_at hl 0 rfl) ?_
            obtain ⟨a48, h49, hf⟩ := bn_some hf
            refine kPV (tX11_columns l G ad_t ad_t_all ad_t_tape ad_t_isImage ad_t_size ad_t_givenRow ad_t_givenColumn ad_t_newRow ad_t_view tI t_value t_all (0 : Int32) a41.1 a48 h49) ⟨hx, hb, hml, hown, hts⟩ q1217 q1219 q56 q108 q1220 okyX11_columns ⟨Nat.le_of_ble_eq_true rfl, Nat.le_of_ble_eq_true rfl⟩ hP hG hS [0, 1] rfl 0 rfl rfl hl.1 rfl (Nat.le_of_ble_eq_true rfl) dX11_bad_84 ⟨Nat.zero_le _, Nat.zero_le _⟩ (fun locs hS => ?_)
            refine W.eq (g2 := F0 m 87 ls [.int a48, .int p1]) rfl ?_
            refine lv_icmp_lt (tgt := 98) hx hb dX11_bad_87 (by decide) (fun c50 => ?_) (fun c50 => ?_)
            · have hf := if_t hf c50
              refine lv_aload_n hx hb dX11_bad_98 rfl (lv_at hl 1 rfl) ?_
              obtain ⟨a51, h52, hf⟩ := bn_some hf
              refine kEV (tX11_keeps l G ad_t ad_t_all ad_t_tape ad_t_isImage ad_t_size ad_t_givenRow ad_t_givenColumn ad_t_newRow ad_t_view tI t_value t_all a51 h52) ⟨hx, hb, hml, hown, hts⟩ q1260 q1262 q65 q108 q1263 okyX11_keeps ⟨Nat.le_of_ble_eq_true rfl, Nat.le_of_ble_eq_true rfl⟩ hP hD hG hS hA [0, 1] [2] rfl (wr := [(ad_t_size, .inl (G.2.1 0, 8, .inl a41.2))]) rfl (by decide) 0 rfl rfl hl.1 rfl (Nat.le_of_ble_eq_true rfl) dX11_bad_99 ⟨Nat.zero_le _, Nat.zero_le _⟩ (fun r w H locs hR hP hD hS => ?_)
              obtain ⟨rfl, rfl⟩ := hR
              have hP : va_P G.1 vwCl [(ad_t_size, .inl (G.2.1 0, 8, .inl a41.2)), (ad_t, .inr (11, [.ref ad_t_all, .ref ad_t_tape, .ref ad_t_isImage, .int (a51.1 3), .int (a51.1 4), .int (a51.1 5), .int (a51.1 6), .ref ad_t_size, .ref ad_t_givenRow, .ref ad_t_givenColumn, .ref ad_t_newRow, .int (a51.1 11), .int (a51.1 12), .int (a51.1 13), .int (a51.1 14), .int (a51.1 15), .int (a51.1 16), .int (a51.1 17), .int (a51.1 18), .int (a51.1 19), .ref ad_t_view, .int (a51.1 21), .int (a51.1 22), .int (a51.1 23), .int (a51.1 24), .int (a51.1 25), .long t_value, .int (a51.1 27), .int (a51.1 28)])), (ad_t_all, .inl (G.2.1 0, 43047, .inl a51.2))] H := hP
              have hD : va_D A [(ad_t_size, .inl (G.2.1 0, 8, .inl a41.2)), (ad_t, .inr (11, [.ref ad_t_all, .ref ad_t_tape, .ref ad_t_isImage, .int (a51.1 3), .int (a51.1 4), .int (a51.1 5), .int (a51.1 6), .ref ad_t_size, .ref ad_t_givenRow, .ref ad_t_givenColumn, .ref ad_t_newRow, .int (a51.1 11), .int (a51.1 12), .int (a51.1 13), .int (a51.1 14), .int (a51.1 15), .int (a51.1 16), .int (a51.1 17), .int (a51.1 18), .int (a51.1 19), .ref ad_t_view, .int (a51.1 21), .int (a51.1 22), .int (a51.1 23), .int (a51.1 24), .int (a51.1 25), .long t_value, .int (a51.1 27), .int (a51.1 28)])), (ad_t_all, .inl (G.2.1 0, 43047, .inl a51.2))] := hD
              refine W.eq (g2 := F0 m 102 ls []) rfl ?_
              refine lv_aload_n hx hb dX11_bad_102 rfl (lv_at hl 1 rfl) ?_
              refine lv_iconst (v := 0) hx hb dX11_bad_103 (by decide) ?_
              refine lv_iload_n hx hb dX11_bad_104 rfl (lv_at hl 2 rfl) ?_
              refine lv_iload_n hx hb dX11_bad_105 rfl (lv_at hl 3 rfl) ?_
              refine lv_iload_n hx hb dX11_bad_106 rfl (lv_at hl 4 rfl) ?_
              obtain ⟨a53, h54, hf⟩ := bn_some hf
              refine kEV (tX11_comes l G ad_t ad_t_all ad_t_tape ad_t_isImage ad_t_size ad_t_givenRow ad_t_givenColumn ad_t_newRow ad_t_view a51.1 t_value a51.2 (0 : Int32) p0 p1 p2 a53 h54) ⟨hx, hb, hml, hown, hts⟩ q1279 q1281 q68 q108 q1282 okyX11_comes ⟨Nat.le_of_ble_eq_true rfl, Nat.le_of_ble_eq_true rfl⟩ hP hD hG hS hA [1, 2] [0] rfl (wr := [(ad_t_size, .inl (G.2.1 0, 8, .inl a41.2))]) rfl (by decide) 1 rfl rfl hl.1 rfl (Nat.le_of_ble_eq_true rfl) dX11_bad_107 ⟨Nat.zero_le _, Nat.zero_le _⟩ (fun r w H locs hR hP hD hS => ?_)
              obtain ⟨rfl, rfl⟩ := hR
              have hP : va_P G.1 vwCl [(ad_t_size, .inl (G.2.1 0, 8, .inl a41.2)), (ad_t, .inr (11, [.ref ad_t_all, .ref ad_t_tape, .ref ad_t_isImage, .int (a51.1 3), .int (a51.1 4), .int (a51.1 5), .int (a51.1 6), .ref ad_t_size, .ref ad_t_givenRow, .ref ad_t_givenColumn, .ref ad_t_newRow, .int (a51.1 11), .int (a51.1 12), .int (a51.1 13), .int (a51.1 14), .int (a51.1 15), .int (a51.1 16), .int (a51.1 17), .int (a51.1 18), .int (a51.1 19), .ref ad_t_view, .int (a51.1 21), .int (a51.1 22), .int (a51.1 23), .int (a51.1 24), .int (a51.1 25), .long t_value, .int (a51.1 27), .int (a51.1 28)])), (ad_t_all, .inl (G.2.1 0, 43047, .inl a53))] H := hP
              have hD : va_D A [(ad_t_size, .inl (G.2.1 0, 8, .inl a41.2)), (ad_t, .inr (11, [.ref ad_t_all, .ref ad_t_tape, .ref ad_t_isImage, .int (a51.1 3), .int (a51.1 4), .int (a51.1 5), .int (a51.1 6), .ref ad_t_size, .ref ad_t_givenRow, .ref ad_t_givenColumn, .ref ad_t_newRow, .int (a51.1 11), .int (a51.1 12), .int (a51.1 13), .int (a51.1 14), .int (a51.1 15), .int (a51.1 16), .int (a51.1 17), .int (a51.1 18), .int (a51.1 19), .ref ad_t_view, .int (a51.1 21), .int (a51.1 22), .int (a51.1 23), .int (a51.1 24), .int (a51.1 25), .long t_value, .int (a51.1 27), .int (a51.1 28)])), (ad_t_all, .inl (G.2.1 0, 43047, .inl a53))] := hD
              refine W.eq (g2 := F0 m 110 ls []) rfl ?_
              refine lv_aload_n hx hb dX11_bad_110 rfl (lv_at hl 1 rfl) ?_
              refine lv_iconst (v := 0) hx hb dX11_bad_111 (by decide) ?_
              refine lv_iconst (v := 0) hx hb dX11_bad_112 (by decide) ?_
              obtain ⟨a55, h56, hf⟩ := bn_some hf
              refine kEV (tX11_refused l G ad_t ad_t_all ad_t_tape ad_t_isImage ad_t_size ad_t_givenRow ad_t_givenColumn ad_t_newRow ad_t_view a51.1 t_value a53 (0 : Int32) (0 : Int32) a55 h56) ⟨hx, hb, hml, hown, hts⟩ q1143 q1145 q39 q108 q1146 okyX11_refused ⟨Nat.le_of_ble_eq_true rfl, Nat.le_of_ble_eq_true rfl⟩ hP hD hG hS hA [1, 2] [0] rfl (wr := [(ad_t_size, .inl (G.2.1 0, 8, .inl a41.2))]) rfl (by decide) 1 rfl rfl hl.1 rfl (Nat.le_of_ble_eq_true rfl) dX11_bad_113 ⟨Nat.zero_le _, Nat.zero_le _⟩ (fun r w H locs hR hP hD hS => ?_)
              obtain ⟨rfl, rfl⟩ := hR
              have hP : va_P G.1 vwCl [(ad_t_size, .inl (G.2.1 0, 8, .inl a41.2)), (ad_t, .inr (11, [.ref ad_t_all, .ref ad_t_tape, .ref ad_t_isImage, .int (a51.1 3), .int (a51.1 4), .int (a51.1 5), .int (a51.1 6), .ref ad_t_size, .ref ad_t_givenRow, .ref ad_t_givenColumn, .ref ad_t_newRow, .int (a51.1 11), .int (a51.1 12), .int (a51.1 13), .int (a51.1 14), .int (a51.1 15), .int (a51.1 16), .int (a51.1 17), .int (a51.1 18), .int (a51.1 19), .ref ad_t_view, .int (a51.1 21), .int (a51.1 22), .int (a51.1 23), .int (a51.1 24), .int (a51.1 25), .long t_value, .int (a51.1 27), .int (a51.1 28)])), (ad_t_all, .inl (G.2.1 0, 43047, .inl a55.2))] H := hP
              have hD : va_D A [(ad_t_size, .inl (G.2.1 0, 8, .inl a41.2)), (ad_t, .inr (11, [.ref ad_t_all, .ref ad_t_tape, .ref ad_t_isImage, .int (a51.1 3), .int (a51.1 4), .int (a51.1 5), .int (a51.1 6), .ref ad_t_size, .ref ad_t_givenRow, .ref ad_t_givenColumn, .ref ad_t_newRow, .int (a51.1 11), .int (a51.1 12), .int (a51.1 13), .int (a51.1 14), .int (a51.1 15), .int (a51.1 16), .int (a51.1 17), .int (a51.1 18), .int (a51.1 19), .ref ad_t_view, .int (a51.1 21), .int (a51.1 22), .int (a51.1 23), .int (a51.1 24), .int (a51.1 25), .long t_value, .int (a51.1 27), .int (a51.1 28)])), (ad_t_all, .inl (G.2.1 0, 43047, .inl a55.2))] := hD
              refine W.eq (g2 := F0 m 116 ls [.int a55.1]) rfl ?_
              have hf := Option.some.inj hf
              subst hf
              have hP := hP.sub (ws' := [(ad_t, .inr (11, [.ref ad_t_all, .ref ad_t_tape, .ref ad_t_isImage, .int (a51.1 3), .int (a51.1 4), .int (a51.1 5), .int (a51.1 6), .ref ad_t_size, .ref ad_t_givenRow, .ref ad_t_givenColumn, .ref ad_t_newRow, .int (a51.1 11), .int (a51.1 12), .int (a51.1 13), .int (a51.1 14), .int (a51.1 15), .int (a51.1 16), .int (a51.1 17), .int (a51.1 18), .int (a51.1 19), .ref ad_t_view, .int (a51.1 21), .int (a51.1 22), .int (a51.1 23), .int (a51.1 24), .int (a51.1 25), .long t_value, .int (a51.1 27), .int (a51.1 28)])), (ad_t_all, .inl (G.2.1 0, 43047, .inl a55.2)), (ad_t_size, .inl (G.2.1 0, 8, .inl a41.2))]) [1, 2, 0] rfl
              have hD := hD.sub (ws' := [(ad_t, .inr (11, [.ref ad_t_all, .ref ad_t_tape, .ref ad_t_isImage, .int (a51.1 3), .int (a51.1 4), .int (a51.1 5), .int (a51.1 6), .ref ad_t_size, .ref ad_t_givenRow, .ref ad_t_givenColumn, .ref ad_t_newRow, .int (a51.1 11), .int (a51.1 12), .int (a51.1 13), .int (a51.1 14), .int (a51.1 15), .int (a51.1 16), .int (a51.1 17), .int (a51.1 18), .int (a51.1 19), .ref ad_t_view, .int (a51.1 21), .int (a51.1 22), .int (a51.1 23), .int (a51.1 24), .int (a51.1 25), .long t_value, .int (a51.1 27), .int (a51.1 28)])), (ad_t_all, .inl (G.2.1 0, 43047, .inl a55.2)), (ad_t_size, .inl (G.2.1 0, 8, .inl a41.2))]) [1, 2, 0] (by decide) rfl
              exact eRet hx hb hr hlocks hP hD hS ⟨rfl, rfl⟩ dX11_bad_116
            · have hf := if_f hf c50
              refine lv_aload_n hx hb dX11_bad_90 rfl (lv_at hl 1 rfl) ?_
              refine lv_iconst (v := 4) hx hb dX11_bad_91 (by decide) ?_
              refine lv_bipush (v := 6) hx hb dX11_bad_92 (by decide) ?_
              obtain ⟨a57, h58, hf⟩ := bn_some hf
              refine kEV (tX11_refused l G ad_t ad_t_all ad_t_tape ad_t_isImage ad_t_size ad_t_givenRow ad_t_givenColumn ad_t_newRow ad_t_view tI t_value t_all (4 : Int32) (6 : Int32) a57 h58) ⟨hx, hb, hml, hown, hts⟩ q1143 q1145 q39 q108 q1146 okyX11_refused ⟨Nat.le_of_ble_eq_true rfl, Nat.le_of_ble_eq_true rfl⟩ hP hD hG hS hA [0, 1] [2] rfl (wr := [(ad_t_size, .inl (G.2.1 0, 8, .inl a41.2))]) rfl (by decide) 0 rfl rfl hl.1 rfl (Nat.le_of_ble_eq_true rfl) dX11_bad_94 ⟨Nat.zero_le _, Nat.zero_le _⟩ (fun r w H locs hR hP hD hS => ?_)
              obtain ⟨rfl, rfl⟩ := hR
              have hP : va_P G.1 vwCl [(ad_t_size, .inl (G.2.1 0, 8, .inl a41.2)), (ad_t, .inr (11, [.ref ad_t_all, .ref ad_t_tape, .ref ad_t_isImage, .int (tI 3), .int (tI 4), .int (tI 5), .int (tI 6), .ref ad_t_size, .ref ad_t_givenRow, .ref ad_t_givenColumn, .ref ad_t_newRow, .int (tI 11), .int (tI 12), .int (tI 13), .int (tI 14), .int (tI 15), .int (tI 16), .int (tI 17), .int (tI 18), .int (tI 19), .ref ad_t_view, .int (tI 21), .int (tI 22), .int (tI 23), .int (tI 24), .int (tI 25), .long t_value, .int (tI 27), .int (tI 28)])), (ad_t_all, .inl (G.2.1 0, 43047, .inl a57.2))] H := hP
              have hD : va_D A [(ad_t_size, .inl (G.2.1 0, 8, .inl a41.2)), (ad_t, .inr (11, [.ref ad_t_all, .ref ad_t_tape, .ref ad_t_isImage, .int (tI 3), .int (tI 4), .int (tI 5), .int (tI 6), .ref ad_t_size, .ref ad_t_givenRow, .ref ad_t_givenColumn, .ref ad_t_newRow, .int (tI 11), .int (tI 12), .int (tI 13), .int (tI 14), .int (tI 15), .int (tI 16), .int (tI 17), .int (tI 18), .int (tI 19), .ref ad_t_view, .int (tI 21), .int (tI 22), .int (tI 23), .int (tI 24), .int (tI 25), .long t_value, .int (tI 27), .int (tI 28)])), (ad_t_all, .inl (G.2.1 0, 43047, .inl a57.2))] := hD
              refine W.eq (g2 := F0 m 97 ls [.int a57.1]) rfl ?_
              have hf := Option.some.inj hf
              subst hf
              have hP := hP.sub (ws' := [(ad_t, .inr (11, [.ref ad_t_all, .ref ad_t_tape, .ref ad_t_isImage, .int (tI 3), .int (tI 4), .int (tI 5), .int (tI 6), .ref ad_t_size, .ref ad_t_givenRow, .ref ad_t_givenColumn, .ref ad_t_newRow, .int (tI 11), .int (tI 12), .int (tI 13), .int (tI 14), .int (tI 15), .int (tI 16), .int (tI 17), .int (tI 18), .int (tI 19), .ref ad_t_view, .int (tI 21), .int (tI 22), .int (tI 23), .int (tI 24), .int (tI 25), .long t_value, .int (tI 27), .int (tI 28)])), (ad_t_all, .inl (G.2.1 0, 43047, .inl a57.2)), (ad_t_size, .inl (G.2.1 0, 8, .inl a41.2))]) [1, 2, 0] rfl
              have hD := hD.sub (ws' := [(ad_t, .inr (11, [.ref ad_t_all, .ref ad_t_tape, .ref ad_t_isImage, .int (tI 3), .int (tI 4), .int (tI 5), .int (tI 6), .ref ad_t_size, .ref ad_t_givenRow, .ref ad_t_givenColumn, .ref ad_t_newRow, .int (tI 11), .int (tI 12), .int (tI 13), .int (tI 14), .int (tI 15), .int (tI 16), .int (tI 17), .int (tI 18), .int (tI 19), .ref ad_t_view, .int (tI 21), .int (tI 22), .int (tI 23), .int (tI 24), .int (tI 25), .long t_value, .int (tI 27), .int (tI 28)])), (ad_t_all, .inl (G.2.1 0, 43047, .inl a57.2)), (ad_t_size, .inl (G.2.1 0, 8, .inl a41.2))]) [1, 2, 0] (by decide) rfl
              exact eRet hx hb hr hlocks hP hD hS ⟨rfl, rfl⟩ dX11_bad_97
        · have hf := if_t hf c40
          refine lv_aload_n hx hb dX11_bad_54 rfl (lv_at hl 0 rfl) ?_
          refine lv_iconst (v := 3) hx hb dX11_bad_55 (by decide) ?_
          refine lv_iconst (v := 0) hx hb dX11_bad_56 (by decide) ?_
          obtain ⟨a59, h60, hf⟩ := bn_some hf
          refine kEV (tX11_refused l G ad_t ad_t_all ad_t_tape ad_t_isImage ad_t_size ad_t_givenRow ad_t_givenColumn ad_t_newRow ad_t_view tI t_value t_all (3 : Int32) (0 : Int32) a59 h60) ⟨hx, hb, hml, hown, hts⟩ q1143 q1145 q39 q108 q1146 okyX11_refused ⟨Nat.le_of_ble_eq_true rfl, Nat.le_of_ble_eq_true rfl⟩ hP hD hG hS hA [0, 1] [2] rfl (wr := [(ad_t_size, .inl (G.2.1 0, 8, .inl t_size))]) rfl (by decide) 0 rfl rfl hl.1 rfl (Nat.le_of_ble_eq_true rfl) dX11_bad_57 ⟨Nat.zero_le _, Nat.zero_le _⟩ (fun r w H locs hR hP hD hS => ?_)
          obtain ⟨rfl, rfl⟩ := hR
          have hP : va_P G.1 vwCl [(ad_t_size, .inl (G.2.1 0, 8, .inl t_size)), (ad_t, .inr (11, [.ref ad_t_all, .ref ad_t_tape, .ref ad_t_isImage, .int (tI 3), .int (tI 4), .int (tI 5), .int (tI 6), .ref ad_t_size, .ref ad_t_givenRow, .ref ad_t_givenColumn, .ref ad_t_newRow, .int (tI 11), .int (tI 12), .int (tI 13), .int (tI 14), .int (tI 15), .int (tI 16), .int (tI 17), .int (tI 18), .int (tI 19), .ref ad_t_view, .int (tI 21), .int (tI 22), .int (tI 23), .int (tI 24), .int (tI 25), .long t_value, .int (tI 27), .int (tI 28)])), (ad_t_all, .inl (G.2.1 0, 43047, .inl a59.2))] H := hP
          have hD : va_D A [(ad_t_size, .inl (G.2.1 0, 8, .inl t_size)), (ad_t, .inr (11, [.ref ad_t_all, .ref ad_t_tape, .ref ad_t_isImage, .int (tI 3), .int (tI 4), .int (tI 5), .int (tI 6), .ref ad_t_size, .ref ad_t_givenRow, .ref ad_t_givenColumn, .ref ad_t_newRow, .int (tI 11), .int (tI 12), .int (tI 13), .int (tI 14), .int (tI 15), .int (tI 16), .int (tI 17), .int (tI 18), .int (tI 19), .ref ad_t_view, .int (tI 21), .int (tI 22), .int (tI 23), .int (tI 24), .int (tI 25), .long t_value, .int (tI 27), .int (tI 28)])), (ad_t_all, .inl (G.2.1 0, 43047, .inl a59.2))] := hD
          refine W.eq (g2 := F0 m 60 ls [.int a59.1]) rfl ?_
          have hf := Option.some.inj hf
          subst hf
          have hP := hP.sub (ws' := [(ad_t, .inr (11, [.ref ad_t_all, .ref ad_t_tape, .ref ad_t_isImage, .int (tI 3), .int (tI 4), .int (tI 5), .int (tI 6), .ref ad_t_size, .ref ad_t_givenRow, .ref ad_t_givenColumn, .ref ad_t_newRow, .int (tI 11), .int (tI 12), .int (tI 13), .int (tI 14), .int (tI 15), .int (tI 16), .int (tI 17), .int (tI 18), .int (tI 19), .ref ad_t_view, .int (tI 21), .int (tI 22), .int (tI 23), .int (tI 24), .int (tI 25), .long t_value, .int (tI 27), .int (tI 28)])), (ad_t_all, .inl (G.2.1 0, 43047, .inl a59.2)), (ad_t_size, .inl (G.2.1 0, 8, .inl t_size))]) [1, 2, 0] rfl
          have hD := hD.sub (ws' := [(ad_t, .inr (11, [.ref ad_t_all, .ref ad_t_tape, .ref ad_t_isImage, .int (tI 3), .int (tI 4), .int (tI 5), .int (tI 6), .ref ad_t_size, .ref ad_t_givenRow, .ref ad_t_givenColumn, .ref ad_t_newRow, .int (tI 11), .int (tI 12), .int (tI 13), .int (tI 14), .int (tI 15), .int (tI 16), .int (tI 17), .int (tI 18), .int (tI 19), .ref ad_t_view, .int (tI 21), .int (tI 22), .int (tI 23), .int (tI 24), .int (tI 25), .long t_value, .int (tI 27), .int (tI 28)])), (ad_t_all, .inl (G.2.1 0, 43047, .inl a59.2)), (ad_t_size, .inl (G.2.1 0, 8, .inl t_size))]) [1, 2, 0] (by decide) rfl
          exact eRet hx hb hr hlocks hP hD hS ⟨rfl, rfl⟩ dX11_bad_60
      · have hf := if_f hf c39
        refine lv_aload_n hx hb dX11_bad_35 rfl (lv_at hl 0 rfl) ?_
        refine lv_iconst (v := 2) hx hb dX11_bad_36 (by decide) ?_
        refine lv_iconst (v := 0) hx hb dX11_bad_37 (by decide) ?_
        obtain ⟨a61, h62, hf⟩ := bn_some hf
        refine kEV (tX11_refused l G ad_t ad_t_all ad_t_tape ad_t_isImage ad_t_size ad_t_givenRow ad_t_givenColumn ad_t_newRow ad_t_view tI t_value t_all (2 : Int32) (0 : Int32) a61 h62) ⟨hx, hb, hml, hown, hts⟩ q1143 q1145 q39 q108 q1146 okyX11_refused ⟨Nat.le_of_ble_eq_true rfl, Nat.le_of_ble_eq_true rfl⟩ hP hD hG hS hA [0, 1] [2] rfl (wr := [(ad_t_size, .inl (G.2.1 0, 8, .inl t_size))]) rfl (by decide) 0 rfl rfl hl.1 rfl (Nat.le_of_ble_eq_true rfl) dX11_bad_38 ⟨Nat.zero_le _, Nat.zero_le _⟩ (fun r w H locs hR hP hD hS => ?_)
        obtain ⟨rfl, rfl⟩ := hR
        have hP : va_P G.1 vwCl [(ad_t_size, .inl (G.2.1 0, 8, .inl t_size)), (ad_t, .inr (11, [.ref ad_t_all, .ref ad_t_tape, .ref ad_t_isImage, .int (tI 3), .int (tI 4), .int (tI 5), .int (tI 6), .ref ad_t_size, .ref ad_t_givenRow, .ref ad_t_givenColumn, .ref ad_t_newRow, .int (tI 11), .int (tI 12), .int (tI 13), .int (tI 14), .int (tI 15), .int (tI 16), .int (tI 17), .int (tI 18), .int (tI 19), .ref ad_t_view, .int (tI 21), .int (tI 22), .int (tI 23), .int (tI 24), .int (tI 25), .long t_value, .int (tI 27), .int (tI 28)])), (ad_t_all, .inl (G.2.1 0, 43047, .inl a61.2))] H := hP
        have hD : va_D A [(ad_t_size, .inl (G.2.1 0, 8, .inl t_size)), (ad_t, .inr (11, [.ref ad_t_all, .ref ad_t_tape, .ref ad_t_isImage, .int (tI 3), .int (tI 4), .int (tI 5), .int (tI 6), .ref ad_t_size, .ref ad_t_givenRow, .ref ad_t_givenColumn, .ref ad_t_newRow, .int (tI 11), .int (tI 12), .int (tI 13), .int (tI 14), .int (tI 15), .int (tI 16), .int (tI 17), .int (tI 18), .int (tI 19), .ref ad_t_view, .int (tI 21), .int (tI 22), .int (tI 23), .int (tI 24), .int (tI 25), .long t_value, .int (tI 27), .int (tI 28)])), (ad_t_all, .inl (G.2.1 0, 43047, .inl a61.2))] := hD
        refine W.eq (g2 := F0 m 41 ls [.int a61.1]) rfl ?_
        have hf := Option.some.inj hf
        subst hf
        have hP := hP.sub (ws' := [(ad_t, .inr (11, [.ref ad_t_all, .ref ad_t_tape, .ref ad_t_isImage, .int (tI 3), .int (tI 4), .int (tI 5), .int (tI 6), .ref ad_t_size, .ref ad_t_givenRow, .ref ad_t_givenColumn, .ref ad_t_newRow, .int (tI 11), .int (tI 12), .int (tI 13), .int (tI 14), .int (tI 15), .int (tI 16), .int (tI 17), .int (tI 18), .int (tI 19), .ref ad_t_view, .int (tI 21), .int (tI 22), .int (tI 23), .int (tI 24), .int (tI 25), .long t_value, .int (tI 27), .int (tI 28)])), (ad_t_all, .inl (G.2.1 0, 43047, .inl a61.2)), (ad_t_size, .inl (G.2.1 0, 8, .inl t_size))]) [1, 2, 0] rfl
        have hD := hD.sub (ws' := [(ad_t, .inr (11, [.ref ad_t_all, .ref ad_t_tape, .ref ad_t_isImage, .int (tI 3), .int (tI 4), .int (tI 5), .int (tI 6), .ref ad_t_size, .ref ad_t_givenRow, .ref ad_t_givenColumn, .ref ad_t_newRow, .int (tI 11), .int (tI 12), .int (tI 13), .int (tI 14), .int (tI 15), .int (tI 16), .int (tI 17), .int (tI 18), .int (tI 19), .ref ad_t_view, .int (tI 21), .int (tI 22), .int (tI 23), .int (tI 24), .int (tI 25), .long t_value, .int (tI 27), .int (tI 28)])), (ad_t_all, .inl (G.2.1 0, 43047, .inl a61.2)), (ad_t_size, .inl (G.2.1 0, 8, .inl t_size))]) [1, 2, 0] (by decide) rfl
        exact eRet hx hb hr hlocks hP hD hS ⟨rfl, rfl⟩ dX11_bad_41
    · have hf := if_t hf c36
      refine lv_aload_n hx hb dX11_bad_17 rfl (lv_at hl 0 rfl) ?_
      refine lv_iconst (v := 1) hx hb dX11_bad_18 (by decide) ?_
      refine lv_iconst (v := 0) hx hb dX11_bad_19 (by decide) ?_
      obtain ⟨a63, h64, hf⟩ := bn_some hf
      refine kEV (tX11_refused l G ad_t ad_t_all ad_t_tape ad_t_isImage ad_t_size ad_t_givenRow ad_t_givenColumn ad_t_newRow ad_t_view tI t_value t_all (1 : Int32) (0 : Int32) a63 h64) ⟨hx, hb, hml, hown, hts⟩ q1143 q1145 q39 q108 q1146 okyX11_refused ⟨Nat.le_of_ble_eq_true rfl, Nat.le_of_ble_eq_true rfl⟩ hP hD hG hS hA [0, 1] [2] rfl (wr := [(ad_t_size, .inl (G.2.1 0, 8, .inl t_size))]) rfl (by decide) 0 rfl rfl hl.1 rfl (Nat.le_of_ble_eq_true rfl) dX11_bad_20 ⟨Nat.zero_le _, Nat.zero_le _⟩ (fun r w H locs hR hP hD hS => ?_)
      obtain ⟨rfl, rfl⟩ := hR
      have hP : va_P G.1 vwCl [(ad_t_size, .inl (G.2.1 0, 8, .inl t_size)), (ad_t, .inr (11, [.ref ad_t_all, .ref ad_t_tape, .ref ad_t_isImage, .int (tI 3), .int (tI 4), .int (tI 5), .int (tI 6), .ref ad_t_size, .ref ad_t_givenRow, .ref ad_t_givenColumn, .ref ad_t_newRow, .int (tI 11), .int (tI 12), .int (tI 13), .int (tI 14), .int (tI 15), .int (tI 16), .int (tI 17), .int (tI 18), .int (tI 19), .ref ad_t_view, .int (tI 21), .int (tI 22), .int (tI 23), .int (tI 24), .int (tI 25), .long t_value, .int (tI 27), .int (tI 28)])), (ad_t_all, .inl (G.2.1 0, 43047, .inl a63.2))] H := hP
      have hD : va_D A [(ad_t_size, .inl (G.2.1 0, 8, .inl t_size)), (ad_t, .inr (11, [.ref ad_t_all, .ref ad_t_tape, .ref ad_t_isImage, .int (tI 3), .int (tI 4), .int (tI 5), .int (tI 6), .ref ad_t_size, .ref ad_t_givenRow, .ref ad_t_givenColumn, .ref ad_t_newRow, .int (tI 11), .int (tI 12), .int (tI 13), .int (tI 14), .int (tI 15), .int (tI 16), .int (tI 17), .int (tI 18), .int (tI 19), .ref ad_t_view, .int (tI 21), .int (tI 22), .int (tI 23), .int (tI 24), .int (tI 25), .long t_value, .int (tI 27), .int (tI 28)])), (ad_t_all, .inl (G.2.1 0, 43047, .inl a63.2))] := hD
      refine W.eq (g2 := F0 m 23 ls [.int a63.1]) rfl ?_
      have hf := Option.some.inj hf
      subst hf
      have hP := hP.sub (ws' := [(ad_t, .inr (11, [.ref ad_t_all, .ref ad_t_tape, .ref ad_t_isImage, .int (tI 3), .int (tI 4), .int (tI 5), .int (tI 6), .ref ad_t_size, .ref ad_t_givenRow, .ref ad_t_givenColumn, .ref ad_t_newRow, .int (tI 11), .int (tI 12), .int (tI 13), .int (tI 14), .int (tI 15), .int (tI 16), .int (tI 17), .int (tI 18), .int (tI 19), .ref ad_t_view, .int (tI 21), .int (tI 22), .int (tI 23), .int (tI 24), .int (tI 25), .long t_value, .int (tI 27), .int (tI 28)])), (ad_t_all, .inl (G.2.1 0, 43047, .inl a63.2)), (ad_t_size, .inl (G.2.1 0, 8, .inl t_size))]) [1, 2, 0] rfl
      have hD := hD.sub (ws' := [(ad_t, .inr (11, [.ref ad_t_all, .ref ad_t_tape, .ref ad_t_isImage, .int (tI 3), .int (tI 4), .int (tI 5), .int (tI 6), .ref ad_t_size, .ref ad_t_givenRow, .ref ad_t_givenColumn, .ref ad_t_newRow, .int (tI 11), .int (tI 12), .int (tI 13), .int (tI 14), .int (tI 15), .int (tI 16), .int (tI 17), .int (tI 18), .int (tI 19), .ref ad_t_view, .int (tI 21), .int (tI 22), .int (tI 23), .int (tI 24), .int (tI 25), .long t_value, .int (tI 27), .int (tI 28)])), (ad_t_all, .inl (G.2.1 0, 43047, .inl a63.2)), (ad_t_size, .inl (G.2.1 0, 8, .inl t_size))]) [1, 2, 0] (by decide) rfl
      exact eRet hx hb hr hlocks hP hD hS ⟨rfl, rfl⟩ dX11_bad_23
