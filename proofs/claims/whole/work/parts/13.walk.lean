def fX11_delay (t_all : Nat → Int32) (p0 : Int32) (p1 : Int32) (p2 : Int32) : Option (Int32) :=
  bn (fX11_tenths t_all p0 p1 p2) fun a1 => bn (fX11_firstInputs t_all p0 p1) fun a3 => bn (fX11_lastInputs t_all p0 p1) fun a5 => some ((p2 * a1) + ((10 : Int32) * (((a3 + a5) + p2) - (2 : Int32))))
set_option maxRecDepth 100000 in
set_option maxHeartbeats 4000000 in
theorem tX11_delay (l : Launch) (G : gG) (ad_t ad_t_all ad_t_tape ad_t_isImage ad_t_size ad_t_givenRow ad_t_givenColumn ad_t_newRow ad_t_view : Nat) (tI : Nat → Int32) (t_value : Int64) (t_all : Nat → Int32) (p0 : Int32) (p1 : Int32) (p2 : Int32) (o : Int32) (hf : fX11_delay t_all p0 p1 p2 = some o) : mP G l yX11_delay cX11_delay 4 (some .int) 5 115 [.ref ad_t, .int p0, .int p1, .int p2] [(ad_t, .inr (11, [.ref ad_t_all, .ref ad_t_tape, .ref ad_t_isImage, .int (tI 3), .int (tI 4), .int (tI 5), .int (tI 6), .ref ad_t_size, .ref ad_t_givenRow, .ref ad_t_givenColumn, .ref ad_t_newRow, .int (tI 11), .int (tI 12), .int (tI 13), .int (tI 14), .int (tI 15), .int (tI 16), .int (tI 17), .int (tI 18), .int (tI 19), .ref ad_t_view, .int (tI 21), .int (tI 22), .int (tI 23), .int (tI 24), .int (tI 25), .long t_value, .int (tI 27), .int (tI 28)])), (ad_t_all, .inl (G.2.1 0, 43047, .inl t_all))] (some (.int o)) := by
  refine mP_of (by decide) (Nat.le_of_ble_eq_true rfl) ?_
  intro p e s m below meth cd ls hx hb hml hown hts hr hlocks hl hP hG
  have hK := hG.1
  have hown : s.vm.findClass RX11 = some m.cls := hown
  have hl : lv_has ls 4 [(0, .ref ad_t), (1, .int p0), (2, .int p1), (3, .int p2)] := hl
  have hS : va_S no s.heap s.heap [] := va_S.rf
  generalize ([] : List Loc) = locs at hS ⊢
  unfold fX11_delay at hf
  show wG p l e 5 115 s m [.ref ad_t, .int p0, .int p1, .int p2] below meth cd s.heap locs (pQ (some (.int o))) no (F0 m 0 ls [])
  refine lv_iload_n hx hb dX11_delay_0 rfl (lv_at hl 3 rfl) ?_
  refine lv_aload_n hx hb dX11_delay_1 rfl (lv_at hl 0 rfl) ?_
  refine lv_iload_n hx hb dX11_delay_2 rfl (lv_at hl 1 rfl) ?_
  refine lv_iload_n hx hb dX11_delay_3 rfl (lv_at hl 2 rfl) ?_
  refine lv_iload_n hx hb dX11_delay_4 rfl (lv_at hl 3 rfl) ?_
  obtain ⟨a7, h8, hf⟩ := bn_some hf
  refine kPV (tX11_tenths l G ad_t ad_t_all ad_t_tape ad_t_isImage ad_t_size ad_t_givenRow ad_t_givenColumn ad_t_newRow ad_t_view tI t_value t_all p0 p1 p2 a7 h8) ⟨hx, hb, hml, hown, hts⟩ q1191 q1193 q51 q108 q1194 okyX11_tenths ⟨Nat.le_of_ble_eq_true rfl, Nat.le_of_ble_eq_true rfl⟩ hP hG hS [0, 1] rfl 0 rfl rfl hl.1 rfl (Nat.le_of_ble_eq_true rfl) dX11_delay_5 ⟨Nat.zero_le _, Nat.zero_le _⟩ (fun locs hS => ?_)
  refine W.eq (g2 := F0 m 8 ls [.int a7, .int p2]) rfl ?_
  refine lv_imul hx hb dX11_delay_8 ?_
  refine lv_bipush (v := 10) hx hb dX11_delay_9 (by decide) ?_
  refine lv_aload_n hx hb dX11_delay_11 rfl (lv_at hl 0 rfl) ?_
  refine lv_iload_n hx hb dX11_delay_12 rfl (lv_at hl 1 rfl) ?_
  refine lv_iload_n hx hb dX11_delay_13 rfl (lv_at hl 2 rfl) ?_
  obtain ⟨a9, h10, hf⟩ := bn_some hf
  refine kPV (tX11_firstInputs l G ad_t ad_t_all ad_t_tape ad_t_isImage ad_t_size ad_t_givenRow ad_t_givenColumn ad_t_newRow ad_t_view tI t_value t_all p0 p1 a9 h10) ⟨hx, hb, hml, hown, hts⟩ q1195 q1197 q52 q108 q1198 okyX11_firstInputs ⟨Nat.le_of_ble_eq_true rfl, Nat.le_of_ble_eq_true rfl⟩ hP hG hS [0, 1] rfl 0 rfl rfl hl.1 rfl (Nat.le_of_ble_eq_true rfl) dX11_delay_14 ⟨Nat.zero_le _, Nat.zero_le _⟩ (fun locs hS => ?_)
  refine W.eq (g2 := F0 m 17 ls [.int a9, .int (10 : Int32), .int (p2 * a7)]) rfl ?_
  refine lv_aload_n hx hb dX11_delay_17 rfl (lv_at hl 0 rfl) ?_
  refine lv_iload_n hx hb dX11_delay_18 rfl (lv_at hl 1 rfl) ?_
  refine lv_iload_n hx hb dX11_delay_19 rfl (lv_at hl 2 rfl) ?_
  obtain ⟨a11, h12, hf⟩ := bn_some hf
  refine kPV (tX11_lastInputs l G ad_t ad_t_all ad_t_tape ad_t_isImage ad_t_size ad_t_givenRow ad_t_givenColumn ad_t_newRow ad_t_view tI t_value t_all p0 p1 a11 h12) ⟨hx, hb, hml, hown, hts⟩ q1206 q1208 q54 q108 q1209 okyX11_lastInputs ⟨Nat.le_of_ble_eq_true rfl, Nat.le_of_ble_eq_true rfl⟩ hP hG hS [0, 1] rfl 0 rfl rfl hl.1 rfl (Nat.le_of_ble_eq_true rfl) dX11_delay_20 ⟨Nat.zero_le _, Nat.zero_le _⟩ (fun locs hS => ?_)
  refine W.eq (g2 := F0 m 23 ls [.int a11, .int a9, .int (10 : Int32), .int (p2 * a7)]) rfl ?_
  refine lv_iadd hx hb dX11_delay_23 ?_
  refine lv_iload_n hx hb dX11_delay_24 rfl (lv_at hl 3 rfl) ?_
  refine lv_iadd hx hb dX11_delay_25 ?_
  refine lv_iconst (v := 2) hx hb dX11_delay_26 (by decide) ?_
  refine lv_isub hx hb dX11_delay_27 ?_
  refine lv_imul hx hb dX11_delay_28 ?_
  refine lv_iadd hx hb dX11_delay_29 ?_
  have hf := Option.some.inj hf
  subst hf
  exact pRet hx hb hr hlocks hS dX11_delay_30

def fX11_stages_l14 (x1 : Int32) (x2 : Int32) (t_all : Nat → Int32) : Nat → Int32 → Int32 → Int32 → Option (Int32)
  | 0, _, _, _ => none
  | n + 1, x3, x4, x5 =>
    (if (8 : Int32) < x5 then some x3 else bn (fX11_delay t_all x1 x2 x5) fun a4 => fX11_stages_l14 x1 x2 t_all n (if x4 ≤ a4 then x3 else x5) (if x4 ≤ a4 then x4 else a4) (x5 + (2 : Int32)))
def fX11_stages (t_all : Nat → Int32) (p0 : Int32) (p1 : Int32) : Option (Int32) :=
  bn (fX11_delay t_all p0 p1 (2 : Int32)) fun a1 => bn (fX11_stages_l14 p0 p1 t_all FU (2 : Int32) a1 (4 : Int32)) fun y10 => some y10
set_option maxRecDepth 100000 in
set_option maxHeartbeats 4000000 in
theorem tX11_stages (l : Launch) (G : gG) (ad_t ad_t_all ad_t_tape ad_t_isImage ad_t_size ad_t_givenRow ad_t_givenColumn ad_t_newRow ad_t_view : Nat) (tI : Nat → Int32) (t_value : Int64) (t_all : Nat → Int32) (p0 : Int32) (p1 : Int32) (o : Int32) (hf : fX11_stages t_all p0 p1 = some o) : mP G l yX11_stages cX11_stages 7 (some .int) 6 138 [.ref ad_t, .int p0, .int p1] [(ad_t, .inr (11, [.ref ad_t_all, .ref ad_t_tape, .ref ad_t_isImage, .int (tI 3), .int (tI 4), .int (tI 5), .int (tI 6), .ref ad_t_size, .ref ad_t_givenRow, .ref ad_t_givenColumn, .ref ad_t_newRow, .int (tI 11), .int (tI 12), .int (tI 13), .int (tI 14), .int (tI 15), .int (tI 16), .int (tI 17), .int (tI 18), .int (tI 19), .ref ad_t_view, .int (tI 21), .int (tI 22), .int (tI 23), .int (tI 24), .int (tI 25), .long t_value, .int (tI 27), .int (tI 28)])), (ad_t_all, .inl (G.2.1 0, 43047, .inl t_all))] (some (.int o)) := by
  refine mP_of (by decide) (Nat.le_of_ble_eq_true rfl) ?_
  intro p e s m below meth cd ls hx hb hml hown hts hr hlocks hl hP hG
  have hK := hG.1
  have hown : s.vm.findClass RX11 = some m.cls := hown
  have hl : lv_has ls 7 [(0, .ref ad_t), (1, .int p0), (2, .int p1)] := hl
  have hS : va_S no s.heap s.heap [] := va_S.rf
  generalize ([] : List Loc) = locs at hS ⊢
  unfold fX11_stages at hf
  show wG p l e 6 138 s m [.ref ad_t, .int p0, .int p1] below meth cd s.heap locs (pQ (some (.int o))) no (F0 m 0 ls [])
  refine lv_iconst (v := 2) hx hb dX11_stages_0 (by decide) ?_
  refine lv_istore_n (lv' := [(3, .int (2 : Int32)), (0, .ref ad_t), (1, .int p0), (2, .int p1)]) hx hb dX11_stages_1 rfl hl (by decide) rfl (fun ls hl => ?_)
  refine lv_aload_n hx hb dX11_stages_2 rfl (lv_at hl 1 rfl) ?_
  refine lv_iload_n hx hb dX11_stages_3 rfl (lv_at hl 2 rfl) ?_
  refine lv_iload_n hx hb dX11_stages_4 rfl (lv_at hl 3 rfl) ?_
  refine lv_iconst (v := 2) hx hb dX11_stages_5 (by decide) ?_
  obtain ⟨a11, h12, hf⟩ := bn_some hf
  refine kPV (tX11_delay l G ad_t ad_t_all ad_t_tape ad_t_isImage ad_t_size ad_t_givenRow ad_t_givenColumn ad_t_newRow ad_t_view tI t_value t_all p0 p1 (2 : Int32) a11 h12) ⟨hx, hb, hml, hown, hts⟩ q1187 q1189 q50 q108 q1190 okyX11_delay ⟨Nat.le_of_ble_eq_true rfl, Nat.le_of_ble_eq_true rfl⟩ hP hG hS [0, 1] rfl 0 rfl rfl hl.1 rfl (Nat.le_of_ble_eq_true rfl) dX11_stages_6 ⟨Nat.zero_le _, Nat.zero_le _⟩ (fun locs hS => ?_)
  refine W.eq (g2 := F0 m 9 ls [.int a11]) rfl ?_
  refine lv_istore (lv' := [(4, .int a11), (3, .int (2 : Int32)), (0, .ref ad_t), (1, .int p0), (2, .int p1)]) hx hb dX11_stages_9 hl (by decide) rfl (fun ls hl => ?_)
  refine lv_iconst (v := 4) hx hb dX11_stages_11 (by decide) ?_
  refine lv_istore (lv' := [(5, .int (4 : Int32)), (4, .int a11), (3, .int (2 : Int32)), (0, .ref ad_t), (1, .int p0), (2, .int p1)]) hx hb dX11_stages_12 hl (by decide) rfl (fun ls hl => ?_)
  obtain ⟨y13, hLy13, hky13⟩ := bn_some hf
  have Ey13 : ∀  (locs : List Loc) (ls : Array Slot), lv_has ls 7 [(3, .int y13)] → va_S no s.heap s.heap locs → wG p l e 6 138 s m [.ref ad_t, .int p0, .int p1] below meth cd s.heap locs (pQ (some (.int o))) no (F0 m 67 ls []) := by
    intro  locs ls hl hS
    have hf := hky13
    refine lv_iload_n hx hb dX11_stages_67 rfl (lv_at hl 0 rfl) ?_
    have hf := Option.some.inj hf
    subst hf
    exact pRet hx hb hr hlocks hS dX11_stages_68
  have Ly13 : ∀ (n : Nat), ∀ (x14 : Int32) (x15 : Int32) (x16 : Int32) (locs : List Loc) (ls : Array Slot), lv_has ls 7 [(5, .int x16), (4, .int x15), (3, .int x14), (0, .ref ad_t), (1, .int p0), (2, .int p1)] → va_S no s.heap s.heap locs → fX11_stages_l14 p0 p1 t_all n x14 x15 x16 = some y13 → wG p l e 6 138 s m [.ref ad_t, .int p0, .int p1] below meth cd s.heap locs (pQ (some (.int o))) no (F0 m 14 ls []) := by
    intro n
    induction n with
    | zero =>
      intro x14 x15 x16 locs ls hl hS hf
      rw [fX11_stages_l14] at hf
      cases hf
    | succ n ih =>
      intro x14 x15 x16 locs ls hl hS hf
      rw [fX11_stages_l14] at hf
      refine lv_iload hx hb dX11_stages_14 (lv_at hl 0 rfl) ?_
      refine lv_bipush (v := 8) hx hb dX11_stages_16 (by decide) ?_
      refine lv_icmp_gt (tgt := 67) hx hb dX11_stages_18 (by decide) (fun c17 => ?_) (fun c17 => ?_)
      · have hf := if_t hf c17
        have hf := Option.some.inj hf
        subst hf
        exact Ey13  locs ls (lv_sub hl [2] rfl) hS 
      · have hf := if_f hf c17
        refine lv_aload_n hx hb dX11_stages_21 rfl (lv_at hl 3 rfl) ?_
        refine lv_iload_n hx hb dX11_stages_22 rfl (lv_at hl 4 rfl) ?_
        refine lv_iload_n hx hb dX11_stages_23 rfl (lv_at hl 5 rfl) ?_
        refine lv_iload hx hb dX11_stages_24 (lv_at hl 0 rfl) ?_
        obtain ⟨a18, h19, hf⟩ := bn_some hf
        refine kPV (tX11_delay l G ad_t ad_t_all ad_t_tape ad_t_isImage ad_t_size ad_t_givenRow ad_t_givenColumn ad_t_newRow ad_t_view tI t_value t_all p0 p1 x16 a18 h19) ⟨hx, hb, hml, hown, hts⟩ q1187 q1189 q50 q108 q1190 okyX11_delay ⟨Nat.le_of_ble_eq_true rfl, Nat.le_of_ble_eq_true rfl⟩ hP hG hS [0, 1] rfl 0 rfl rfl hl.1 rfl (Nat.le_of_ble_eq_true rfl) dX11_stages_26 ⟨Nat.zero_le _, Nat.zero_le _⟩ (fun locs hS => ?_)
        refine W.eq (g2 := F0 m 29 ls [.int a18]) rfl ?_
        refine lv_istore (lv' := [(6, .int a18), (5, .int x16), (4, .int x15), (3, .int x14), (0, .ref ad_t), (1, .int p0), (2, .int p1)]) hx hb dX11_stages_29 hl (by decide) rfl (fun ls hl => ?_)
        refine lv_iload hx hb dX11_stages_31 (lv_at hl 0 rfl) ?_
        refine lv_iload hx hb dX11_stages_33 (lv_at hl 2 rfl) ?_
        have J22 : wG p l e 6 138 s m [.ref ad_t, .int p0, .int p1] below meth cd s.heap locs (pQ (some (.int o))) no (F0 m 44 ls [.int (if x15 ≤ a18 then x14 else x16)]) := by
          refine lv_istore_n (lv' := [(3, .int (if x15 ≤ a18 then x14 else x16)), (6, .int a18), (5, .int x16), (4, .int x15), (0, .ref ad_t), (1, .int p0), (2, .int p1)]) hx hb dX11_stages_44 rfl hl (by decide) rfl (fun ls hl => ?_)
          refine lv_iload hx hb dX11_stages_45 (lv_at hl 1 rfl) ?_
          refine lv_iload hx hb dX11_stages_47 (lv_at hl 3 rfl) ?_
          have J20 : wG p l e 6 138 s m [.ref ad_t, .int p0, .int p1] below meth cd s.heap locs (pQ (some (.int o))) no (F0 m 59 ls [.int (if x15 ≤ a18 then x15 else a18)]) := by
            refine lv_istore (lv' := [(4, .int (if x15 ≤ a18 then x15 else a18)), (3, .int (if x15 ≤ a18 then x14 else x16)), (6, .int a18), (5, .int x16), (0, .ref ad_t), (1, .int p0), (2, .int p1)]) hx hb dX11_stages_59 hl (by decide) rfl (fun ls hl => ?_)
            refine lv_iinc (v := (x16 + (2 : Int32))) (lv' := [(5, .int (x16 + (2 : Int32))), (4, .int (if x15 ≤ a18 then x15 else a18)), (3, .int (if x15 ≤ a18 then x14 else x16)), (6, .int a18), (0, .ref ad_t), (1, .int p0), (2, .int p1)]) hx hb dX11_stages_61 hl (k := 3) rfl (ii_2 _) (by decide) rfl (fun ls hl => ?_)
            refine lv_goto (tgt := 14) hx hb dX11_stages_64 (by decide) ?_
            exact ih (if x15 ≤ a18 then x14 else x16) (if x15 ≤ a18 then x15 else a18) (x16 + (2 : Int32)) locs ls (lv_sub hl [0, 1, 2, 4, 5, 6] rfl) hS hf
          refine lv_icmp_ge (tgt := 57) hx hb dX11_stages_49 (by decide) (fun c21 => ?_) (fun c21 => ?_)
          · refine lv_iload hx hb dX11_stages_57 (lv_at hl 3 rfl) ?_
            exact (mgT c21 J20)
          · refine lv_iload hx hb dX11_stages_52 (lv_at hl 1 rfl) ?_
            refine lv_goto (tgt := 59) hx hb dX11_stages_54 (by decide) ?_
            exact (mgF c21 J20)
        refine lv_icmp_ge (tgt := 43) hx hb dX11_stages_35 (by decide) (fun c23 => ?_) (fun c23 => ?_)
        · refine lv_iload_n hx hb dX11_stages_43 rfl (lv_at hl 3 rfl) ?_
          exact (mgT c23 J22)
        · refine lv_iload hx hb dX11_stages_38 (lv_at hl 1 rfl) ?_
          refine lv_goto (tgt := 44) hx hb dX11_stages_40 (by decide) ?_
          exact (mgF c23 J22)
  exact Ly13 FU (2 : Int32) a11 (4 : Int32) locs ls (lv_sub hl [0, 1, 2, 3, 4, 5] rfl) hS hLy13

def fX11_laysSizes_l54 (x4 : Int32) : Nat → Int32 → (Nat → Int32) → Option ((Nat → Int32))
  | 0, _, _ => none
  | n + 1, x5, t_size =>
    (if x5 ≤ 0 then some t_size else gd (gi (x5 + (1 : Int32)) 8) (bn (fX11_up ((30 : Int32) * (t_size (x5 + (1 : Int32)).toNatClampNeg)) x4) fun a14 => gd (gi x5 8) (fX11_laysSizes_l54 x4 n (x5 + (-1 : Int32)) (upd t_size x5.toNatClampNeg a14))))
def fX11_laysSizes (t_all : Nat → Int32) (t_size : Nat → Int32) (p0 : Int32) (p1 : Int32) : Option ((Nat → Int32)) :=
  bn (fX11_stages t_all p0 p1) fun a1 => bn (fX11_tenths t_all p0 p1 a1) fun a3 => bn (fX11_allColumns t_all p0 p1) fun a5 => bn (fX11_lastInputs t_all p0 p1) fun a7 => bn (fX11_up (((10 : Int32) * a5) * (a7 + (2 : Int32))) ((3 : Int32) * a3)) fun a9 => gd (gi (a1 - (1 : Int32)) 8) (bn (fX11_laysSizes_l54 ((3 : Int32) * a3) FU (a1 - (2 : Int32)) (upd t_size (a1 - (1 : Int32)).toNatClampNeg a9)) fun y17 => bn (fX11_rows t_all p0 p1) fun a18 => bn (fX11_firstInputs t_all p0 p1) fun a20 => bn (fX11_up ((y17 1) * a18) ((1 : Int32) <<< (a20 &&& 31))) fun a22 => bn (fX11_firstInputs t_all p0 p1) fun a24 => bn (fX11_up (((10 : Int32) * a22) * (a24 + (2 : Int32))) ((3 : Int32) * a3)) fun a26 => some (upd y17 0 a26))
set_option maxRecDepth 100000 in
set_option maxHeartbeats 4000000 in
theorem tX11_laysSizes (l : Launch) (G : gG) (ad_t ad_t_all ad_t_tape ad_t_isImage ad_t_size ad_t_givenRow ad_t_givenColumn ad_t_newRow ad_t_view : Nat) (tI : Nat → Int32) (t_value : Int64) (t_all : Nat → Int32) (t_size : Nat → Int32) (p0 : Int32) (p1 : Int32) (o : (Nat → Int32)) (hf : fX11_laysSizes t_all t_size p0 p1 = some o) : mE G l yX11_laysSizes cX11_laysSizes 6 none 7 164 0 0 [.ref ad_t, .int p0, .int p1] [(ad_t, .inr (11, [.ref ad_t_all, .ref ad_t_tape, .ref ad_t_isImage, .int (tI 3), .int (tI 4), .int (tI 5), .int (tI 6), .ref ad_t_size, .ref ad_t_givenRow, .ref ad_t_givenColumn, .ref ad_t_newRow, .int (tI 11), .int (tI 12), .int (tI 13), .int (tI 14), .int (tI 15), .int (tI 16), .int (tI 17), .int (tI 18), .int (tI 19), .ref ad_t_view, .int (tI 21), .int (tI 22), .int (tI 23), .int (tI 24), .int (tI 25), .long t_value, .int (tI 27), .int (tI 28)])), (ad_t_all, .inl (G.2.1 0, 43047, .inl t_all)), (ad_t_size, .inl (G.2.1 0, 8, .inl t_size))] (fun r w => r = none ∧ w = [(ad_t, .inr (11, [.ref ad_t_all, .ref ad_t_tape, .ref ad_t_isImage, .int (tI 3), .int (tI 4), .int (tI 5), .int (tI 6), .ref ad_t_size, .ref ad_t_givenRow, .ref ad_t_givenColumn, .ref ad_t_newRow, .int (tI 11), .int (tI 12), .int (tI 13), .int (tI 14), .int (tI 15), .int (tI 16), .int (tI 17), .int (tI 18), .int (tI 19), .ref ad_t_view, .int (tI 21), .int (tI 22), .int (tI 23), .int (tI 24), .int (tI 25), .long t_value, .int (tI 27), .int (tI 28)])), (ad_t_all, .inl (G.2.1 0, 43047, .inl t_all)), (ad_t_size, .inl (G.2.1 0, 8, .inl o))]) := by
  refine mE_of (by decide) (Nat.le_of_ble_eq_true rfl) ?_
  intro p e s m below meth cd ls A hx hb hml hown hts hr hlocks hnm hl hA hP hD hS hG
  have hK := hG.1
  have hown : s.vm.findClass RX11 = some m.cls := hown
  have hl : lv_has ls 6 [(0, .ref ad_t), (1, .int p0), (2, .int p1)] := hl
  have hS := hS
  unfold fX11_laysSizes at hf
  obtain ⟨H, locs, eH, eL⟩ : ∃ (H : Heap) (locs : List Loc), H = s.heap ∧ locs = [] := ⟨_, _, rfl, rfl⟩
  have hP : va_P G.1 vwCl [(ad_t, .inr (11, [.ref ad_t_all, .ref ad_t_tape, .ref ad_t_isImage, .int (tI 3), .int (tI 4), .int (tI 5), .int (tI 6), .ref ad_t_size, .ref ad_t_givenRow, .ref ad_t_givenColumn, .ref ad_t_newRow, .int (tI 11), .int (tI 12), .int (tI 13), .int (tI 14), .int (tI 15), .int (tI 16), .int (tI 17), .int (tI 18), .int (tI 19), .ref ad_t_view, .int (tI 21), .int (tI 22), .int (tI 23), .int (tI 24), .int (tI 25), .long t_value, .int (tI 27), .int (tI 28)])), (ad_t_all, .inl (G.2.1 0, 43047, .inl t_all)), (ad_t_size, .inl (G.2.1 0, 8, .inl t_size))] H := eH ▸ hP
  have hS : va_S A s.heap H locs := by rw [eH, eL]; exact hS
  suffices hgo : wG p l e 7 164 s m [.ref ad_t, .int p0, .int p1] below meth cd H locs (eQ G A (fun r w => r = none ∧ w = [(ad_t, .inr (11, [.ref ad_t_all, .ref ad_t_tape, .ref ad_t_isImage, .int (tI 3), .int (tI 4), .int (tI 5), .int (tI 6), .ref ad_t_size, .ref ad_t_givenRow, .ref ad_t_givenColumn, .ref ad_t_newRow, .int (tI 11), .int (tI 12), .int (tI 13), .int (tI 14), .int (tI 15), .int (tI 16), .int (tI 17), .int (tI 18), .int (tI 19), .ref ad_t_view, .int (tI 21), .int (tI 22), .int (tI 23), .int (tI 24), .int (tI 25), .long t_value, .int (tI 27), .int (tI 28)])), (ad_t_all, .inl (G.2.1 0, 43047, .inl t_all)), (ad_t_size, .inl (G.2.1 0, 8, .inl o))])) A (F0 m 0 ls []) by rw [eH, eL] at hgo; exact hgo
  clear eH eL
  refine lv_aload_n hx hb dX11_laysSizes_0 rfl (lv_at hl 0 rfl) ?_
  refine lv_iload_n hx hb dX11_laysSizes_1 rfl (lv_at hl 1 rfl) ?_
  refine lv_iload_n hx hb dX11_laysSizes_2 rfl (lv_at hl 2 rfl) ?_
  obtain ⟨a28, h29, hf⟩ := bn_some hf
  refine kPV (tX11_stages l G ad_t ad_t_all ad_t_tape ad_t_isImage ad_t_size ad_t_givenRow ad_t_givenColumn ad_t_newRow ad_t_view tI t_value t_all p0 p1 a28 h29) ⟨hx, hb, hml, hown, hts⟩ q1183 q1185 q49 q108 q1186 okyX11_stages ⟨Nat.le_of_ble_eq_true rfl, Nat.le_of_ble_eq_true rfl⟩ hP hG hS [0, 1] rfl 0 rfl rfl hl.1 rfl (Nat.le_of_ble_eq_true rfl) dX11_laysSizes_3 ⟨Nat.zero_le _, Nat.zero_le _⟩ (fun locs hS => ?_)
  refine W.eq (g2 := F0 m 6 ls [.int a28]) rfl ?_
  refine lv_istore_n (lv' := [(3, .int a28), (0, .ref ad_t), (1, .int p0), (2, .int p1)]) hx hb dX11_laysSizes_6 rfl hl (by decide) rfl (fun ls hl => ?_)
  refine lv_iconst (v := 3) hx hb dX11_laysSizes_7 (by decide) ?_
  refine lv_aload_n hx hb dX11_laysSizes_8 rfl (lv_at hl 1 rfl) ?_
  refine lv_iload_n hx hb dX11_laysSizes_9 rfl (lv_at hl 2 rfl) ?_
  refine lv_iload_n hx hb dX11_laysSizes_10 rfl (lv_at hl 3 rfl) ?_
  refine lv_iload_n hx hb dX11_laysSizes_11 rfl (lv_at hl 0 rfl) ?_
  obtain ⟨a30, h31, hf⟩ := bn_some hf
  refine kPV (tX11_tenths l G ad_t ad_t_all ad_t_tape ad_t_isImage ad_t_size ad_t_givenRow ad_t_givenColumn ad_t_newRow ad_t_view tI t_value t_all p0 p1 a28 a30 h31) ⟨hx, hb, hml, hown, hts⟩ q1191 q1193 q51 q108 q1194 okyX11_tenths ⟨Nat.le_of_ble_eq_true rfl, Nat.le_of_ble_eq_true rfl⟩ hP hG hS [0, 1] rfl 0 rfl rfl hl.1 rfl (Nat.le_of_ble_eq_true rfl) dX11_laysSizes_12 ⟨Nat.zero_le _, Nat.zero_le _⟩ (fun locs hS => ?_)
  refine W.eq (g2 := F0 m 15 ls [.int a30, .int (3 : Int32)]) rfl ?_
  refine lv_imul hx hb dX11_laysSizes_15 ?_
  refine lv_istore (lv' := [(4, .int ((3 : Int32) * a30)), (3, .int a28), (0, .ref ad_t), (1, .int p0), (2, .int p1)]) hx hb dX11_laysSizes_16 hl (by decide) rfl (fun ls hl => ?_)
  refine lv_aload_n hx hb dX11_laysSizes_18 rfl (lv_at hl 2 rfl) ?_
  refine va_get (D := G.1) (cl := vwCl) (ci := 11) (v := .ref ad_t_size) (C := RX11) (T := TX11) (N := 29) hx hb hts inG11 hown hK hP 0 rfl rfl 7 (Nat.le_of_ble_eq_true rfl) (hts _ q1048) (fun _ h9 => h9) rfl dX11_laysSizes_19 ?_
  refine lv_iload_n hx hb dX11_laysSizes_22 rfl (lv_at hl 1 rfl) ?_
  refine lv_iconst (v := 1) hx hb dX11_laysSizes_23 (by decide) ?_
  refine lv_isub hx hb dX11_laysSizes_24 ?_
  refine lv_bipush (v := 10) hx hb dX11_laysSizes_25 (by decide) ?_
  refine lv_aload_n hx hb dX11_laysSizes_27 rfl (lv_at hl 2 rfl) ?_
  refine lv_iload_n hx hb dX11_laysSizes_28 rfl (lv_at hl 3 rfl) ?_
  refine lv_iload_n hx hb dX11_laysSizes_29 rfl (lv_at hl 4 rfl) ?_
  obtain ⟨a32, h33, hf⟩ := bn_some hf
  refine kPV (tX11_allColumns l G ad_t ad_t_all ad_t_tape ad_t_isImage ad_t_size ad_t_givenRow ad_t_givenColumn ad_t_newRow ad_t_view tI t_value t_all p0 p1 a32 h33) ⟨hx, hb, hml, hown, hts⟩ q1213 q1215 q55 q108 q1216 okyX11_allColumns ⟨Nat.le_of_ble_eq_true rfl, Nat.le_of_ble_eq_true rfl⟩ hP hG hS [0, 1] rfl 0 rfl rfl hl.1 rfl (Nat.le_of_ble_eq_true rfl) dX11_laysSizes_30 ⟨Nat.zero_le _, Nat.zero_le _⟩ (fun locs hS => ?_)
  refine W.eq (g2 := F0 m 33 ls [.int a32, .int (10 : Int32), .int (a28 - (1 : Int32)), .ref ad_t_size]) rfl ?_
  refine lv_imul hx hb dX11_laysSizes_33 ?_
  refine lv_aload_n hx hb dX11_laysSizes_34 rfl (lv_at hl 2 rfl) ?_
  refine lv_iload_n hx hb dX11_laysSizes_35 rfl (lv_at hl 3 rfl) ?_
  refine lv_iload_n hx hb dX11_laysSizes_36 rfl (lv_at hl 4 rfl) ?_
  obtain ⟨a34, h35, hf⟩ := bn_some hf
  refine kPV (tX11_lastInputs l G ad_t ad_t_all ad_t_tape ad_t_isImage ad_t_size ad_t_givenRow ad_t_givenColumn ad_t_newRow ad_t_view tI t_value t_all p0 p1 a34 h35) ⟨hx, hb, hml, hown, hts⟩ q1206 q1208 q54 q108 q1209 okyX11_lastInputs ⟨Nat.le_of_ble_eq_true rfl, Nat.le_of_ble_eq_true rfl⟩ hP hG hS [0, 1] rfl 0 rfl rfl hl.1 rfl (Nat.le_of_ble_eq_true rfl) dX11_laysSizes_37 ⟨Nat.zero_le _, Nat.zero_le _⟩ (fun locs hS => ?_)
  refine W.eq (g2 := F0 m 40 ls [.int a34, .int ((10 : Int32) * a32), .int (a28 - (1 : Int32)), .ref ad_t_size]) rfl ?_
  refine lv_iconst (v := 2) hx hb dX11_laysSizes_40 (by decide) ?_
  refine lv_iadd hx hb dX11_laysSizes_41 ?_
  refine lv_imul hx hb dX11_laysSizes_42 ?_
  refine lv_iload hx hb dX11_laysSizes_43 (lv_at hl 0 rfl) ?_
  obtain ⟨a36, h37, hf⟩ := bn_some hf
  refine kPS (tX11_up l G (((10 : Int32) * a32) * (a34 + (2 : Int32))) ((3 : Int32) * a30) a36 h37) ⟨hx, hb, hml, hown, hts⟩ q1210 q1211 q108 q1212 okyX11_up ⟨Nat.le_of_ble_eq_true rfl, Nat.le_of_ble_eq_true rfl⟩ hP hG hS [] rfl hl.1 rfl (Nat.le_of_ble_eq_true rfl) dX11_laysSizes_45 ⟨Nat.zero_le _, Nat.zero_le _⟩ (fun locs hS => ?_)
  refine W.eq (g2 := F0 m 48 ls [.int a36, .int (a28 - (1 : Int32)), .ref ad_t_size]) rfl ?_
  obtain ⟨h38, hf⟩ := gd_some hf
  refine va_iast (D := G.1) (cl := vwCl) hx hb hK hP hD hS 2 0 rfl rfl (gi_in h38) dX11_laysSizes_48 (fun H locs hP hD hS => ?_)
  have hP : va_P G.1 vwCl [(ad_t, .inr (11, [.ref ad_t_all, .ref ad_t_tape, .ref ad_t_isImage, .int (tI 3), .int (tI 4), .int (tI 5), .int (tI 6), .ref ad_t_size, .ref ad_t_givenRow, .ref ad_t_givenColumn, .ref ad_t_newRow, .int (tI 11), .int (tI 12), .int (tI 13), .int (tI 14), .int (tI 15), .int (tI 16), .int (tI 17), .int (tI 18), .int (tI 19), .ref ad_t_view, .int (tI 21), .int (tI 22), .int (tI 23), .int (tI 24), .int (tI 25), .long t_value, .int (tI 27), .int (tI 28)])), (ad_t_all, .inl (G.2.1 0, 43047, .inl t_all)), (ad_t_size, .inl (G.2.1 0, 8, .inl (upd t_size (a28 - (1 : Int32)).toNatClampNeg a36)))] H := hP
  have hD : va_D A [(ad_t, .inr (11, [.ref ad_t_all, .ref ad_t_tape, .ref ad_t_isImage, .int (tI 3), .int (tI 4), .int (tI 5), .int (tI 6), .ref ad_t_size, .ref ad_t_givenRow, .ref ad_t_givenColumn, .ref ad_t_newRow, .int (tI 11), .int (tI 12), .int (tI 13), .int (tI 14), .int (tI 15), .int (tI 16), .int (tI 17), .int (tI 18), .int (tI 19), .ref ad_t_view, .int (tI 21), .int (tI 22), .int (tI 23), .int (tI 24), .int (tI 25), .long t_value, .int (tI 27), .int (tI 28)])), (ad_t_all, .inl (G.2.1 0, 43047, .inl t_all)), (ad_t_size, .inl (G.2.1 0, 8, .inl (upd t_size (a28 - (1 : Int32)).toNatClampNeg a36)))] := hD
  refine lv_iload_n hx hb dX11_laysSizes_49 rfl (lv_at hl 1 rfl) ?_
  refine lv_iconst (v := 2) hx hb dX11_laysSizes_50 (by decide) ?_
  refine lv_isub hx hb dX11_laysSizes_51 ?_
  refine lv_istore (lv' := [(5, .int (a28 - (2 : Int32))), (4, .int ((3 : Int32) * a30)), (3, .int a28), (0, .ref ad_t), (1, .int p0), (2, .int p1)]) hx hb dX11_laysSizes_52 hl (by decide) rfl (fun ls hl => ?_)
  obtain ⟨y39, hLy39, hky39⟩ := bn_some hf
  have Ey39 : ∀  (H : Heap) (locs : List Loc) (ls : Array Slot), lv_has ls 6 [(4, .int ((3 : Int32) * a30)), (0, .ref ad_t), (1, .int p0), (2, .int p1)] → va_P G.1 vwCl [(ad_t, .inr (11, [.ref ad_t_all, .ref ad_t_tape, .ref ad_t_isImage, .int (tI 3), .int (tI 4), .int (tI 5), .int (tI 6), .ref ad_t_size, .ref ad_t_givenRow, .ref ad_t_givenColumn, .ref ad_t_newRow, .int (tI 11), .int (tI 12), .int (tI 13), .int (tI 14), .int (tI 15), .int (tI 16), .int (tI 17), .int (tI 18), .int (tI 19), .ref ad_t_view, .int (tI 21), .int (tI 22), .int (tI 23), .int (tI 24), .int (tI 25), .long t_value, .int (tI 27), .int (tI 28)])), (ad_t_all, .inl (G.2.1 0, 43047, .inl t_all)), (ad_t_size, .inl (G.2.1 0, 8, .inl y39))] H → va_D A [(ad_t, .inr (11, [.ref ad_t_all, .ref ad_t_tape, .ref ad_t_isImage, .int (tI 3), .int (tI 4), .int (tI 5), .int (tI 6), .ref ad_t_size, .ref ad_t_givenRow, .ref ad_t_givenColumn, .ref ad_t_newRow, .int (tI 11), .int (tI 12), .int (tI 13), .int (tI 14), .int (tI 15), .int (tI 16), .int (tI 17), .int (tI 18), .int (tI 19), .ref ad_t_view, .int (tI 21), .int (tI 22), .int (tI 23), .int (tI 24), .int (tI 25), .long t_value, .int (tI 27), .int (tI 28)])), (ad_t_all, .inl (G.2.1 0, 43047, .inl t_all)), (ad_t_size, .inl (G.2.1 0, 8, .inl y39))] → va_S A s.heap H locs → wG p l e 7 164 s m [.ref ad_t, .int p0, .int p1] below meth cd H locs (eQ G A (fun r w => r = none ∧ w = [(ad_t, .inr (11, [.ref ad_t_all, .ref ad_t_tape, .ref ad_t_isImage, .int (tI 3), .int (tI 4), .int (tI 5), .int (tI 6), .ref ad_t_size, .ref ad_t_givenRow, .ref ad_t_givenColumn, .ref ad_t_newRow, .int (tI 11), .int (tI 12), .int (tI 13), .int (tI 14), .int (tI 15), .int (tI 16), .int (tI 17), .int (tI 18), .int (tI 19), .ref ad_t_view, .int (tI 21), .int (tI 22), .int (tI 23), .int (tI 24), .int (tI 25), .long t_value, .int (tI 27), .int (tI 28)])), (ad_t_all, .inl (G.2.1 0, 43047, .inl t_all)), (ad_t_size, .inl (G.2.1 0, 8, .inl o))])) A (F0 m 89 ls []) := by
    intro  H locs ls hl hP hD hS
    have hf := hky39
    refine lv_aload_n hx hb dX11_laysSizes_89 rfl (lv_at hl 1 rfl) ?_
    refine va_get (D := G.1) (cl := vwCl) (ci := 11) (v := .ref ad_t_size) (C := RX11) (T := TX11) (N := 29) hx hb hts inG11 hown hK hP 0 rfl rfl 7 (Nat.le_of_ble_eq_true rfl) (hts _ q1048) (fun _ h9 => h9) rfl dX11_laysSizes_90 ?_
    refine lv_iconst (v := 1) hx hb dX11_laysSizes_93 (by decide) ?_
    refine va_iald (D := G.1) (cl := vwCl) hx hb hK hP 2 0 rfl rfl (vin (by decide)) dX11_laysSizes_94 ?_
    refine lv_ti (v := (y39 1)) (congrArg (y39) (tn 1)) ?_
    refine lv_aload_n hx hb dX11_laysSizes_95 rfl (lv_at hl 1 rfl) ?_
    refine lv_iload_n hx hb dX11_laysSizes_96 rfl (lv_at hl 2 rfl) ?_
    refine lv_iload_n hx hb dX11_laysSizes_97 rfl (lv_at hl 3 rfl) ?_
    obtain ⟨a40, h41, hf⟩ := bn_some hf
    refine kPV (tX11_rows l G ad_t ad_t_all ad_t_tape ad_t_isImage ad_t_size ad_t_givenRow ad_t_givenColumn ad_t_newRow ad_t_view tI t_value t_all p0 p1 a40 h41) ⟨hx, hb, hml, hown, hts⟩ q1159 q1161 q43 q108 q1162 okyX11_rows ⟨Nat.le_of_ble_eq_true rfl, Nat.le_of_ble_eq_true rfl⟩ hP hG hS [0, 1] rfl 0 rfl rfl hl.1 rfl (Nat.le_of_ble_eq_true rfl) dX11_laysSizes_98 ⟨Nat.zero_le _, Nat.zero_le _⟩ (fun locs hS => ?_)
    refine W.eq (g2 := F0 m 101 ls [.int a40, .int (y39 1)]) rfl ?_
    refine lv_imul hx hb dX11_laysSizes_101 ?_
    refine lv_iconst (v := 1) hx hb dX11_laysSizes_102 (by decide) ?_
    refine lv_aload_n hx hb dX11_laysSizes_103 rfl (lv_at hl 1 rfl) ?_
    refine lv_iload_n hx hb dX11_laysSizes_104 rfl (lv_at hl 2 rfl) ?_
    refine lv_iload_n hx hb dX11_laysSizes_105 rfl (lv_at hl 3 rfl) ?_
    obtain ⟨a42, h43, hf⟩ := bn_some hf
    refine kPV (tX11_firstInputs l G ad_t ad_t_all ad_t_tape ad_t_isImage ad_t_size ad_t_givenRow ad_t_givenColumn ad_t_newRow ad_t_view tI t_value t_all p0 p1 a42 h43) ⟨hx, hb, hml, hown, hts⟩ q1195 q1197 q52 q108 q1198 okyX11_firstInputs ⟨Nat.le_of_ble_eq_true rfl, Nat.le_of_ble_eq_true rfl⟩ hP hG hS [0, 1] rfl 0 rfl rfl hl.1 rfl (Nat.le_of_ble_eq_true rfl) dX11_laysSizes_106 ⟨Nat.zero_le _, Nat.zero_le _⟩ (fun locs hS => ?_)
    refine W.eq (g2 := F0 m 109 ls [.int a42, .int (1 : Int32), .int ((y39 1) * a40)]) rfl ?_
    refine lv_ishl hx hb dX11_laysSizes_109 ?_
    obtain ⟨a44, h45, hf⟩ := bn_some hf
    refine kPS (tX11_up l G ((y39 1) * a40) ((1 : Int32) <<< (a42 &&& 31)) a44 h45) ⟨hx, hb, hml, hown, hts⟩ q1210 q1211 q108 q1212 okyX11_up ⟨Nat.le_of_ble_eq_true rfl, Nat.le_of_ble_eq_true rfl⟩ hP hG hS [] rfl hl.1 rfl (Nat.le_of_ble_eq_true rfl) dX11_laysSizes_110 ⟨Nat.zero_le _, Nat.zero_le _⟩ (fun locs hS => ?_)
    refine W.eq (g2 := F0 m 113 ls [.int a44]) rfl ?_
    refine lv_istore (lv' := [(5, .int a44), (4, .int ((3 : Int32) * a30)), (0, .ref ad_t), (1, .int p0), (2, .int p1)]) hx hb dX11_laysSizes_113 hl (by decide) rfl (fun ls hl => ?_)
    refine lv_aload_n hx hb dX11_laysSizes_115 rfl (lv_at hl 2 rfl) ?_
    refine va_get (D := G.1) (cl := vwCl) (ci := 11) (v := .ref ad_t_size) (C := RX11) (T := TX11) (N := 29) hx hb hts inG11 hown hK hP 0 rfl rfl 7 (Nat.le_of_ble_eq_true rfl) (hts _ q1048) (fun _ h9 => h9) rfl dX11_laysSizes_116 ?_
    refine lv_iconst (v := 0) hx hb dX11_laysSizes_119 (by decide) ?_
    refine lv_bipush (v := 10) hx hb dX11_laysSizes_120 (by decide) ?_
    refine lv_iload hx hb dX11_laysSizes_122 (lv_at hl 0 rfl) ?_
    refine lv_imul hx hb dX11_laysSizes_124 ?_
    refine lv_aload_n hx hb dX11_laysSizes_125 rfl (lv_at hl 2 rfl) ?_
    refine lv_iload_n hx hb dX11_laysSizes_126 rfl (lv_at hl 3 rfl) ?_
    refine lv_iload_n hx hb dX11_laysSizes_127 rfl (lv_at hl 4 rfl) ?_
    obtain ⟨a46, h47, hf⟩ := bn_some hf
    refine kPV (tX11_firstInputs l G ad_t ad_t_all ad_t_tape ad_t_isImage ad_t_size ad_t_givenRow ad_t_givenColumn ad_t_newRow ad_t_view tI t_value t_all p0 p1 a46 h47) ⟨hx, hb, hml, hown, hts⟩ q1195 q1197 q52 q108 q1198 okyX11_firstInputs ⟨Nat.le_of_ble_eq_true rfl, Nat.le_of_ble_eq_true rfl⟩ hP hG hS [0, 1] rfl 0 rfl rfl hl.1 rfl (Nat.le_of_ble_eq_true rfl) dX11_laysSizes_128 ⟨Nat.zero_le _, Nat.zero_le _⟩ (fun locs hS => ?_)
    refine W.eq (g2 := F0 m 131 ls [.int a46, .int ((10 : Int32) * a44), .int (0 : Int32), .ref ad_t_size]) rfl ?_
    refine lv_iconst (v := 2) hx hb dX11_laysSizes_131 (by decide) ?_
    refine lv_iadd hx hb dX11_laysSizes_132 ?_
    refine lv_imul hx hb dX11_laysSizes_133 ?_
    refine lv_iload hx hb dX11_laysSizes_134 (lv_at hl 1 rfl) ?_
    obtain ⟨a48, h49, hf⟩ := bn_some hf
    refine kPS (tX11_up l G (((10 : Int32) * a44) * (a46 + (2 : Int32))) ((3 : Int32) * a30) a48 h49) ⟨hx, hb, hml, hown, hts⟩ q1210 q1211 q108 q1212 okyX11_up ⟨Nat.le_of_ble_eq_true rfl, Nat.le_of_ble_eq_true rfl⟩ hP hG hS [] rfl hl.1 rfl (Nat.le_of_ble_eq_true rfl) dX11_laysSizes_136 ⟨Nat.zero_le _, Nat.zero_le _⟩ (fun locs hS => ?_)
    refine W.eq (g2 := F0 m 139 ls [.int a48, .int (0 : Int32), .ref ad_t_size]) rfl ?_
    refine va_iast (D := G.1) (cl := vwCl) hx hb hK hP hD hS 2 0 rfl rfl (vin (by decide)) dX11_laysSizes_139 (fun H locs hP hD hS => ?_)
    have hP : va_P G.1 vwCl [(ad_t, .inr (11, [.ref ad_t_all, .ref ad_t_tape, .ref ad_t_isImage, .int (tI 3), .int (tI 4), .int (tI 5), .int (tI 6), .ref ad_t_size, .ref ad_t_givenRow, .ref ad_t_givenColumn, .ref ad_t_newRow, .int (tI 11), .int (tI 12), .int (tI 13), .int (tI 14), .int (tI 15), .int (tI 16), .int (tI 17), .int (tI 18), .int (tI 19), .ref ad_t_view, .int (tI 21), .int (tI 22), .int (tI 23), .int (tI 24), .int (tI 25), .long t_value, .int (tI 27), .int (tI 28)])), (ad_t_all, .inl (G.2.1 0, 43047, .inl t_all)), (ad_t_size, .inl (G.2.1 0, 8, .inl (upd y39 0 a48)))] H := hP
    have hD : va_D A [(ad_t, .inr (11, [.ref ad_t_all, .ref ad_t_tape, .ref ad_t_isImage, .int (tI 3), .int (tI 4), .int (tI 5), .int (tI 6), .ref ad_t_size, .ref ad_t_givenRow, .ref ad_t_givenColumn, .ref ad_t_newRow, .int (tI 11), .int (tI 12), .int (tI 13), .int (tI 14), .int (tI 15), .int (tI 16), .int (tI 17), .int (tI 18), .int (tI 19), .ref ad_t_view, .int (tI 21), .int (tI 22), .int (tI 23), .int (tI 24), .int (tI 25), .long t_value, .int (tI 27), .int (tI 28)])), (ad_t_all, .inl (G.2.1 0, 43047, .inl t_all)), (ad_t_size, .inl (G.2.1 0, 8, .inl (upd y39 0 a48)))] := hD
    have hf := Option.some.inj hf
    subst hf
    exact eRetV hx hb hr hlocks hP hD hS ⟨rfl, rfl⟩ dX11_laysSizes_140
  have Ly39 : ∀ (n : Nat), ∀ (x50 : Int32) (g51 : Nat → Int32) (H : Heap) (locs : List Loc) (ls : Array Slot), lv_has ls 6 [(5, .int x50), (4, .int ((3 : Int32) * a30)), (0, .ref ad_t), (1, .int p0), (2, .int p1)] → va_P G.1 vwCl [(ad_t, .inr (11, [.ref ad_t_all, .ref ad_t_tape, .ref ad_t_isImage, .int (tI 3), .int (tI 4), .int (tI 5), .int (tI 6), .ref ad_t_size, .ref ad_t_givenRow, .ref ad_t_givenColumn, .ref ad_t_newRow, .int (tI 11), .int (tI 12), .int (tI 13), .int (tI 14), .int (tI 15), .int (tI 16), .int (tI 17), .int (tI 18), .int (tI 19), .ref ad_t_view, .int (tI 21), .int (tI 22), .int (tI 23), .int (tI 24), .int (tI 25), .long t_value, .int (tI 27), .int (tI 28)])), (ad_t_all, .inl (G.2.1 0, 43047, .inl t_all)), (ad_t_size, .inl (G.2.1 0, 8, .inl g51))] H → va_D A [(ad_t, .inr (11, [.ref ad_t_all, .ref ad_t_tape, .ref ad_t_isImage, .int (tI 3), .int (tI 4), .int (tI 5), .int (tI 6), .ref ad_t_size, .ref ad_t_givenRow, .ref ad_t_givenColumn, .ref ad_t_newRow, .int (tI 11), .int (tI 12), .int (tI 13), .int (tI 14), .int (tI 15), .int (tI 16), .int (tI 17), .int (tI 18), .int (tI 19), .ref ad_t_view, .int (tI 21), .int (tI 22), .int (tI 23), .int (tI 24), .int (tI 25), .long t_value, .int (tI 27), .int (tI 28)])), (ad_t_all, .inl (G.2.1 0, 43047, .inl t_all)), (ad_t_size, .inl (G.2.1 0, 8, .inl g51))] → va_S A s.heap H locs → fX11_laysSizes_l54 ((3 : Int32) * a30) n x50 g51 = some y39 → wG p l e 7 164 s m [.ref ad_t, .int p0, .int p1] below meth cd H locs (eQ G A (fun r w => r = none ∧ w = [(ad_t, .inr (11, [.ref ad_t_all, .ref ad_t_tape, .ref ad_t_isImage, .int (tI 3), .int (tI 4), .int (tI 5), .int (tI 6), .ref ad_t_size, .ref ad_t_givenRow, .ref ad_t_givenColumn, .ref ad_t_newRow, .int (tI 11), .int (tI 12), .int (tI 13), .int (tI 14), .int (tI 15), .int (tI 16), .int (tI 17), .int (tI 18), .int (tI 19), .ref ad_t_view, .int (tI 21), .int (tI 22), .int (tI 23), .int (tI 24), .int (tI 25), .long t_value, .int (tI 27), .int (tI 28)])), (ad_t_all, .inl (G.2.1 0, 43047, .inl t_all)), (ad_t_size, .inl (G.2.1 0, 8, .inl o))])) A (F0 m 54 ls []) := by
    intro n
    induction n with
    | zero =>
      intro x50 g51 H locs ls hl hP hD hS hf
      rw [fX11_laysSizes_l54] at hf
      cases hf
    | succ n ih =>
      intro x50 g51 H locs ls hl hP hD hS hf
      rw [fX11_laysSizes_l54] at hf
      refine lv_iload hx hb dX11_laysSizes_54 (lv_at hl 0 rfl) ?_
      refine lv_if_le (tgt := 89) hx hb dX11_laysSizes_56 (by decide) (fun c52 => ?_) (fun c52 => ?_)
      · have hf := if_t hf c52
        have hf := Option.some.inj hf
        subst hf
        exact Ey39  H locs ls (lv_sub hl [1, 2, 3, 4] rfl) hP hD hS 
      · have hf := if_f hf c52
        refine lv_aload_n hx hb dX11_laysSizes_59 rfl (lv_at hl 2 rfl) ?_
        refine va_get (D := G.1) (cl := vwCl) (ci := 11) (v := .ref ad_t_size) (C := RX11) (T := TX11) (N := 29) hx hb hts inG11 hown hK hP 0 rfl rfl 7 (Nat.le_of_ble_eq_true rfl) (hts _ q1048) (fun _ h9 => h9) rfl dX11_laysSizes_60 ?_
        refine lv_iload hx hb dX11_laysSizes_63 (lv_at hl 0 rfl) ?_
        refine lv_bipush (v := 30) hx hb dX11_laysSizes_65 (by decide) ?_
        refine lv_aload_n hx hb dX11_laysSizes_67 rfl (lv_at hl 2 rfl) ?_
        refine va_get (D := G.1) (cl := vwCl) (ci := 11) (v := .ref ad_t_size) (C := RX11) (T := TX11) (N := 29) hx hb hts inG11 hown hK hP 0 rfl rfl 7 (Nat.le_of_ble_eq_true rfl) (hts _ q1048) (fun _ h9 => h9) rfl dX11_laysSizes_68 ?_
        refine lv_iload hx hb dX11_laysSizes_71 (lv_at hl 0 rfl) ?_
        refine lv_iconst (v := 1) hx hb dX11_laysSizes_73 (by decide) ?_
        refine lv_iadd hx hb dX11_laysSizes_74 ?_
        obtain ⟨h53, hf⟩ := gd_some hf
        refine va_iald (D := G.1) (cl := vwCl) hx hb hK hP 2 0 rfl rfl (gi_in h53) dX11_laysSizes_75 ?_
        refine lv_imul hx hb dX11_laysSizes_76 ?_
        refine lv_iload hx hb dX11_laysSizes_77 (lv_at hl 1 rfl) ?_
        obtain ⟨a54, h55, hf⟩ := bn_some hf
        refine kPS (tX11_up l G ((30 : Int32) * (g51 (x50 + (1 : Int32)).toNatClampNeg)) ((3 : Int32) * a30) a54 h55) ⟨hx, hb, hml, hown, hts⟩ q1210 q1211 q108 q1212 okyX11_up ⟨Nat.le_of_ble_eq_true rfl, Nat.le_of_ble_eq_true rfl⟩ hP hG hS [] rfl hl.1 rfl (Nat.le_of_ble_eq_true rfl) dX11_laysSizes_79 ⟨Nat.zero_le _, Nat.zero_le _⟩ (fun locs hS => ?_)
        refine W.eq (g2 := F0 m 82 ls [.int a54, .int x50, .ref ad_t_size]) rfl ?_
        obtain ⟨h56, hf⟩ := gd_some hf
        refine va_iast (D := G.1) (cl := vwCl) hx hb hK hP hD hS 2 0 rfl rfl (gi_in h56) dX11_laysSizes_82 (fun H locs hP hD hS => ?_)
        have hP : va_P G.1 vwCl [(ad_t, .inr (11, [.ref ad_t_all, .ref ad_t_tape, .ref ad_t_isImage, .int (tI 3), .int (tI 4), .int (tI 5), .int (tI 6), .ref ad_t_size, .ref ad_t_givenRow, .ref ad_t_givenColumn, .ref ad_t_newRow, .int (tI 11), .int (tI 12), .int (tI 13), .int (tI 14), .int (tI 15), .int (tI 16), .int (tI 17), .int (tI 18), .int (tI 19), .ref ad_t_view, .int (tI 21), .int (tI 22), .int (tI 23), .int (tI 24), .int (tI 25), .long t_value, .int (tI 27), .int (tI 28)])), (ad_t_all, .inl (G.2.1 0, 43047, .inl t_all)), (ad_t_size, .inl (G.2.1 0, 8, .inl (upd g51 x50.toNatClampNeg a54)))] H := hP
        have hD : va_D A [(ad_t, .inr (11, [.ref ad_t_all, .ref ad_t_tape, .ref ad_t_isImage, .int (tI 3), .int (tI 4), .int (tI 5), .int (tI 6), .ref ad_t_size, .ref ad_t_givenRow, .ref ad_t_givenColumn, .ref ad_t_newRow, .int (tI 11), .int (tI 12), .int (tI 13), .int (tI 14), .int (tI 15), .int (tI 16), .int (tI 17), .int (tI 18), .int (tI 19), .ref ad_t_view, .int (tI 21), .int (tI 22), .int (tI 23), .int (tI 24), .int (tI 25), .long t_value, .int (tI 27), .int (tI 28)])), (ad_t_all, .inl (G.2.1 0, 43047, .inl t_all)), (ad_t_size, .inl (G.2.1 0, 8, .inl (upd g51 x50.toNatClampNeg a54)))] := hD
        refine lv_iinc (v := (x50 + (-1 : Int32))) (lv' := [(5, .int (x50 + (-1 : Int32))), (4, .int ((3 : Int32) * a30)), (0, .ref ad_t), (1, .int p0), (2, .int p1)]) hx hb dX11_laysSizes_83 hl (k := 0) rfl (ii_m1 _) (by decide) rfl (fun ls hl => ?_)
        refine lv_goto (tgt := 54) hx hb dX11_laysSizes_86 (by decide) ?_
        exact ih (x50 + (-1 : Int32)) (upd g51 x50.toNatClampNeg a54) H locs ls (lv_sub hl [0, 1, 2, 3, 4] rfl) hP hD hS hf
  exact Ly39 FU (a28 - (2 : Int32)) (upd t_size (a28 - (1 : Int32)).toNatClampNeg a36) H locs ls (lv_sub hl [0, 1, 3, 4, 5] rfl) hP hD hS hLy39

def fX11_width (t_all : Nat → Int32) (t_size : Nat → Int32) (p0 : Int32) (p1 : Int32) : Option (Int32 × (Nat → Int32)) :=
  bn (fX11_laysSizes t_all t_size p0 p1) fun a1 => bn (fX11_allColumns t_all p0 p1) fun a3 => gd (gi (p0 + (5 : Int32)) 43047) (bn (fX11_lines t_all p0 p1) fun a6 => bn (fX11_stages t_all p0 p1) fun a8 => gd (gi (a8 - (1 : Int32)) 8) (some ((((a3 * (t_all (p0 + (5 : Int32)).toNatClampNeg)) + ((12 : Int32) * a6)) + (a1 (a8 - (1 : Int32)).toNatClampNeg)), a1)))
set_option maxRecDepth 100000 in
set_option maxHeartbeats 4000000 in
theorem tX11_width (l : Launch) (G : gG) (ad_t ad_t_all ad_t_tape ad_t_isImage ad_t_size ad_t_givenRow ad_t_givenColumn ad_t_newRow ad_t_view : Nat) (tI : Nat → Int32) (t_value : Int64) (t_all : Nat → Int32) (t_size : Nat → Int32) (p0 : Int32) (p1 : Int32) (o : Int32 × (Nat → Int32)) (hf : fX11_width t_all t_size p0 p1 = some o) : mE G l yX11_width cX11_width 3 (some .int) 8 189 0 0 [.ref ad_t, .int p0, .int p1] [(ad_t, .inr (11, [.ref ad_t_all, .ref ad_t_tape, .ref ad_t_isImage, .int (tI 3), .int (tI 4), .int (tI 5), .int (tI 6), .ref ad_t_size, .ref ad_t_givenRow, .ref ad_t_givenColumn, .ref ad_t_newRow, .int (tI 11), .int (tI 12), .int (tI 13), .int (tI 14), .int (tI 15), .int (tI 16), .int (tI 17), .int (tI 18), .int (tI 19), .ref ad_t_view, .int (tI 21), .int (tI 22), .int (tI 23), .int (tI 24), .int (tI 25), .long t_value, .int (tI 27), .int (tI 28)])), (ad_t_all, .inl (G.2.1 0, 43047, .inl t_all)), (ad_t_size, .inl (G.2.1 0, 8, .inl t_size))] (fun r w => r = (some (.int o.1)) ∧ w = [(ad_t, .inr (11, [.ref ad_t_all, .ref ad_t_tape, .ref ad_t_isImage, .int (tI 3), .int (tI 4), .int (tI 5), .int (tI 6), .ref ad_t_size, .ref ad_t_givenRow, .ref ad_t_givenColumn, .ref ad_t_newRow, .int (tI 11), .int (tI 12), .int (tI 13), .int (tI 14), .int (tI 15), .int (tI 16), .int (tI 17), .int (tI 18), .int (tI 19), .ref ad_t_view, .int (tI 21), .int (tI 22), .int (tI 23), .int (tI 24), .int (tI 25), .long t_value, .int (tI 27), .int (tI 28)])), (ad_t_all, .inl (G.2.1 0, 43047, .inl t_all)), (ad_t_size, .inl (G.2.1 0, 8, .inl o.2))]) := by
  refine mE_of (by decide) (Nat.le_of_ble_eq_true rfl) ?_
  intro p e s m below meth cd ls A hx hb hml hown hts hr hlocks hnm hl hA hP hD hS hG
  have hK := hG.1
  have hown : s.vm.findClass RX11 = some m.cls := hown
  have hl : lv_has ls 3 [(0, .ref ad_t), (1, .int p0), (2, .int p1)] := hl
  have hS := hS
  unfold fX11_width at hf
  obtain ⟨H, locs, eH, eL⟩ : ∃ (H : Heap) (locs : List Loc), H = s.heap ∧ locs = [] := ⟨_, _, rfl, rfl⟩
  have hP : va_P G.1 vwCl [(ad_t, .inr (11, [.ref ad_t_all, .ref ad_t_tape, .ref ad_t_isImage, .int (tI 3), .int (tI 4), .int (tI 5), .int (tI 6), .ref ad_t_size, .ref ad_t_givenRow, .ref ad_t_givenColumn, .ref ad_t_newRow, .int (tI 11), .int (tI 12), .int (tI 13), .int (tI 14), .int (tI 15), .int (tI 16), .int (tI 17), .int (tI 18), .int (tI 19), .ref ad_t_view, .int (tI 21), .int (tI 22), .int (tI 23), .int (tI 24), .int (tI 25), .long t_value, .int (tI 27), .int (tI 28)])), (ad_t_all, .inl (G.2.1 0, 43047, .inl t_all)), (ad_t_size, .inl (G.2.1 0, 8, .inl t_size))] H := eH ▸ hP
  have hS : va_S A s.heap H locs := by rw [eH, eL]; exact hS
  suffices hgo : wG p l e 8 189 s m [.ref ad_t, .int p0, .int p1] below meth cd H locs (eQ G A (fun r w => r = (some (.int o.1)) ∧ w = [(ad_t, .inr (11, [.ref ad_t_all, .ref ad_t_tape, .ref ad_t_isImage, .int (tI 3), .int (tI 4), .int (tI 5), .int (tI 6), .ref ad_t_size, .ref ad_t_givenRow, .ref ad_t_givenColumn, .ref ad_t_newRow, .int (tI 11), .int (tI 12), .int (tI 13), .int (tI 14), .int (tI 15), .int (tI 16), .int (tI 17), .int (tI 18), .int (tI 19), .ref ad_t_view, .int (tI 21), .int (tI 22), .int (tI 23), .int (tI 24), .int (tI 25), .long t_value, .int (tI 27), .int (tI 28)])), (ad_t_all, .inl (G.2.1 0, 43047, .inl t_all)), (ad_t_size, .inl (G.2.1 0, 8, .inl o.2))])) A (F0 m 0 ls []) by rw [eH, eL] at hgo; exact hgo
  clear eH eL
  refine lv_aload_n hx hb dX11_width_0 rfl (lv_at hl 0 rfl) ?_
  refine lv_iload_n hx hb dX11_width_1 rfl (lv_at hl 1 rfl) ?_
  refine lv_iload_n hx hb dX11_width_2 rfl (lv_at hl 2 rfl) ?_
  obtain ⟨a11, h12, hf⟩ := bn_some hf
  refine kEV (tX11_laysSizes l G ad_t ad_t_all ad_t_tape ad_t_isImage ad_t_size ad_t_givenRow ad_t_givenColumn ad_t_newRow ad_t_view tI t_value t_all t_size p0 p1 a11 h12) ⟨hx, hb, hml, hown, hts⟩ q1179 q1181 q48 q108 q1182 okyX11_laysSizes ⟨Nat.le_of_ble_eq_true rfl, Nat.le_of_ble_eq_true rfl⟩ hP hD hG hS hA [0, 1, 2] [] rfl (wr := []) rfl (by decide) 0 rfl rfl hl.1 rfl (Nat.le_of_ble_eq_true rfl) dX11_width_3 ⟨Nat.zero_le _, Nat.zero_le _⟩ (fun r w H locs hR hP hD hS => ?_)
  obtain ⟨rfl, rfl⟩ := hR
  have hP : va_P G.1 vwCl [(ad_t, .inr (11, [.ref ad_t_all, .ref ad_t_tape, .ref ad_t_isImage, .int (tI 3), .int (tI 4), .int (tI 5), .int (tI 6), .ref ad_t_size, .ref ad_t_givenRow, .ref ad_t_givenColumn, .ref ad_t_newRow, .int (tI 11), .int (tI 12), .int (tI 13), .int (tI 14), .int (tI 15), .int (tI 16), .int (tI 17), .int (tI 18), .int (tI 19), .ref ad_t_view, .int (tI 21), .int (tI 22), .int (tI 23), .int (tI 24), .int (tI 25), .long t_value, .int (tI 27), .int (tI 28)])), (ad_t_all, .inl (G.2.1 0, 43047, .inl t_all)), (ad_t_size, .inl (G.2.1 0, 8, .inl a11))] H := hP
  have hD : va_D A [(ad_t, .inr (11, [.ref ad_t_all, .ref ad_t_tape, .ref ad_t_isImage, .int (tI 3), .int (tI 4), .int (tI 5), .int (tI 6), .ref ad_t_size, .ref ad_t_givenRow, .ref ad_t_givenColumn, .ref ad_t_newRow, .int (tI 11), .int (tI 12), .int (tI 13), .int (tI 14), .int (tI 15), .int (tI 16), .int (tI 17), .int (tI 18), .int (tI 19), .ref ad_t_view, .int (tI 21), .int (tI 22), .int (tI 23), .int (tI 24), .int (tI 25), .long t_value, .int (tI 27), .int (tI 28)])), (ad_t_all, .inl (G.2.1 0, 43047, .inl t_all)), (ad_t_size, .inl (G.2.1 0, 8, .inl a11))] := hD
  refine W.eq (g2 := F0 m 6 ls []) rfl ?_
  refine lv_aload_n hx hb dX11_width_6 rfl (lv_at hl 0 rfl) ?_
  refine lv_iload_n hx hb dX11_width_7 rfl (lv_at hl 1 rfl) ?_
  refine lv_iload_n hx hb dX11_width_8 rfl (lv_at hl 2 rfl) ?_
  obtain ⟨a13, h14, hf⟩ := bn_some hf
  refine kPV (tX11_allColumns l G ad_t ad_t_all ad_t_tape ad_t_isImage ad_t_size ad_t_givenRow ad_t_givenColumn ad_t_newRow ad_t_view tI t_value t_all p0 p1 a13 h14) ⟨hx, hb, hml, hown, hts⟩ q1213 q1215 q55 q108 q1216 okyX11_allColumns ⟨Nat.le_of_ble_eq_true rfl, Nat.le_of_ble_eq_true rfl⟩ hP hG hS [0, 1] rfl 0 rfl rfl hl.1 rfl (Nat.le_of_ble_eq_true rfl) dX11_width_9 ⟨Nat.zero_le _, Nat.zero_le _⟩ (fun locs hS => ?_)
  refine W.eq (g2 := F0 m 12 ls [.int a13]) rfl ?_
  refine lv_aload_n hx hb dX11_width_12 rfl (lv_at hl 0 rfl) ?_
  refine va_get (D := G.1) (cl := vwCl) (ci := 11) (v := .ref ad_t_all) (C := RX11) (T := TX11) (N := 29) hx hb hts inG11 hown hK hP 0 rfl rfl 0 (Nat.le_of_ble_eq_true rfl) (hts _ q1041) (fun _ h9 => h9) rfl dX11_width_13 ?_
  refine lv_iload_n hx hb dX11_width_16 rfl (lv_at hl 1 rfl) ?_
  refine lv_iconst (v := 5) hx hb dX11_width_17 (by decide) ?_
  refine lv_iadd hx hb dX11_width_18 ?_
  obtain ⟨h15, hf⟩ := gd_some hf
  refine va_iald (D := G.1) (cl := vwCl) hx hb hK hP 1 0 rfl rfl (gi_in h15) dX11_width_19 ?_
  refine lv_imul hx hb dX11_width_20 ?_
  refine lv_bipush (v := 12) hx hb dX11_width_21 (by decide) ?_
  refine lv_aload_n hx hb dX11_width_23 rfl (lv_at hl 0 rfl) ?_
  refine lv_iload_n hx hb dX11_width_24 rfl (lv_at hl 1 rfl) ?_
  refine lv_iload_n hx hb dX11_width_25 rfl (lv_at hl 2 rfl) ?_
  obtain ⟨a16, h17, hf⟩ := bn_some hf
  refine kPV (tX11_lines l G ad_t ad_t_all ad_t_tape ad_t_isImage ad_t_size ad_t_givenRow ad_t_givenColumn ad_t_newRow ad_t_view tI t_value t_all p0 p1 a16 h17) ⟨hx, hb, hml, hown, hts⟩ q1199 q1201 q53 q108 q1202 okyX11_lines ⟨Nat.le_of_ble_eq_true rfl, Nat.le_of_ble_eq_true rfl⟩ hP hG hS [0, 1] rfl 0 rfl rfl hl.1 rfl (Nat.le_of_ble_eq_true rfl) dX11_width_26 ⟨Nat.zero_le _, Nat.zero_le _⟩ (fun locs hS => ?_)
  refine W.eq (g2 := F0 m 29 ls [.int a16, .int (12 : Int32), .int (a13 * (t_all (p0 + (5 : Int32)).toNatClampNeg))]) rfl ?_
  refine lv_imul hx hb dX11_width_29 ?_
  refine lv_iadd hx hb dX11_width_30 ?_
  refine lv_aload_n hx hb dX11_width_31 rfl (lv_at hl 0 rfl) ?_
  refine va_get (D := G.1) (cl := vwCl) (ci := 11) (v := .ref ad_t_size) (C := RX11) (T := TX11) (N := 29) hx hb hts inG11 hown hK hP 0 rfl rfl 7 (Nat.le_of_ble_eq_true rfl) (hts _ q1048) (fun _ h9 => h9) rfl dX11_width_32 ?_
  refine lv_aload_n hx hb dX11_width_35 rfl (lv_at hl 0 rfl) ?_
  refine lv_iload_n hx hb dX11_width_36 rfl (lv_at hl 1 rfl) ?_
  refine lv_iload_n hx hb dX11_width_37 rfl (lv_at hl 2 rfl) ?_
  obtain ⟨a18, h19, hf⟩ := bn_some hf
  refine kPV (tX11_stages l G ad_t ad_t_all ad_t_tape ad_t_isImage ad_t_size ad_t_givenRow ad_t_givenColumn ad_t_newRow ad_t_view tI t_value t_all p0 p1 a18 h19) ⟨hx, hb, hml, hown, hts⟩ q1183 q1185 q49 q108 q1186 okyX11_stages ⟨Nat.le_of_ble_eq_true rfl, Nat.le_of_ble_eq_true rfl⟩ hP hG hS [0, 1] rfl 0 rfl rfl hl.1 rfl (Nat.le_of_ble_eq_true rfl) dX11_width_38 ⟨Nat.zero_le _, Nat.zero_le _⟩ (fun locs hS => ?_)
  refine W.eq (g2 := F0 m 41 ls [.int a18, .ref ad_t_size, .int ((a13 * (t_all (p0 + (5 : Int32)).toNatClampNeg)) + ((12 : Int32) * a16))]) rfl ?_
  refine lv_iconst (v := 1) hx hb dX11_width_41 (by decide) ?_
  refine lv_isub hx hb dX11_width_42 ?_
  obtain ⟨h20, hf⟩ := gd_some hf
  refine va_iald (D := G.1) (cl := vwCl) hx hb hK hP 2 0 rfl rfl (gi_in h20) dX11_width_43 ?_
  refine lv_iadd hx hb dX11_width_44 ?_
  have hf := Option.some.inj hf
  subst hf
  exact eRet hx hb hr hlocks hP hD hS ⟨rfl, rfl⟩ dX11_width_45

def fX11_height (t_all : Nat → Int32) (p0 : Int32) (p1 : Int32) : Option (Int32) :=
  bn (fX11_allRows t_all p0 p1) fun a1 => gd (gi (p0 + (6 : Int32)) 43047) (bn (fX11_log p1) fun a4 => some (((a1 * (t_all (p0 + (6 : Int32)).toNatClampNeg)) + (30 : Int32)) + ((8 : Int32) * a4)))
set_option maxRecDepth 100000 in
set_option maxHeartbeats 4000000 in
theorem tX11_height (l : Launch) (G : gG) (ad_t ad_t_all ad_t_tape ad_t_isImage ad_t_size ad_t_givenRow ad_t_givenColumn ad_t_newRow ad_t_view : Nat) (tI : Nat → Int32) (t_value : Int64) (t_all : Nat → Int32) (p0 : Int32) (p1 : Int32) (o : Int32) (hf : fX11_height t_all p0 p1 = some o) : mP G l yX11_height cX11_height 3 (some .int) 2 44 [.ref ad_t, .int p0, .int p1] [(ad_t, .inr (11, [.ref ad_t_all, .ref ad_t_tape, .ref ad_t_isImage, .int (tI 3), .int (tI 4), .int (tI 5), .int (tI 6), .ref ad_t_size, .ref ad_t_givenRow, .ref ad_t_givenColumn, .ref ad_t_newRow, .int (tI 11), .int (tI 12), .int (tI 13), .int (tI 14), .int (tI 15), .int (tI 16), .int (tI 17), .int (tI 18), .int (tI 19), .ref ad_t_view, .int (tI 21), .int (tI 22), .int (tI 23), .int (tI 24), .int (tI 25), .long t_value, .int (tI 27), .int (tI 28)])), (ad_t_all, .inl (G.2.1 0, 43047, .inl t_all))] (some (.int o)) := by
  refine mP_of (by decide) (Nat.le_of_ble_eq_true rfl) ?_
  intro p e s m below meth cd ls hx hb hml hown hts hr hlocks hl hP hG
  have hK := hG.1
  have hown : s.vm.findClass RX11 = some m.cls := hown
  have hl : lv_has ls 3 [(0, .ref ad_t), (1, .int p0), (2, .int p1)] := hl
  have hS : va_S no s.heap s.heap [] := va_S.rf
  generalize ([] : List Loc) = locs at hS ⊢
  unfold fX11_height at hf
  show wG p l e 2 44 s m [.ref ad_t, .int p0, .int p1] below meth cd s.heap locs (pQ (some (.int o))) no (F0 m 0 ls [])
  refine lv_aload_n hx hb dX11_height_0 rfl (lv_at hl 0 rfl) ?_
  refine lv_iload_n hx hb dX11_height_1 rfl (lv_at hl 1 rfl) ?_
  refine lv_iload_n hx hb dX11_height_2 rfl (lv_at hl 2 rfl) ?_
  obtain ⟨a6, h7, hf⟩ := bn_some hf
  refine kPV (tX11_allRows l G ad_t ad_t_all ad_t_tape ad_t_isImage ad_t_size ad_t_givenRow ad_t_givenColumn ad_t_newRow ad_t_view tI t_value t_all p0 p1 a6 h7) ⟨hx, hb, hml, hown, hts⟩ q1229 q1231 q58 q108 q1232 okyX11_allRows ⟨Nat.le_of_ble_eq_true rfl, Nat.le_of_ble_eq_true rfl⟩ hP hG hS [0, 1] rfl 0 rfl rfl hl.1 rfl (Nat.le_of_ble_eq_true rfl) dX11_height_3 ⟨Nat.zero_le _, Nat.zero_le _⟩ (fun locs hS => ?_)
  refine W.eq (g2 := F0 m 6 ls [.int a6]) rfl ?_
  refine lv_aload_n hx hb dX11_height_6 rfl (lv_at hl 0 rfl) ?_
  refine va_get (D := G.1) (cl := vwCl) (ci := 11) (v := .ref ad_t_all) (C := RX11) (T := TX11) (N := 29) hx hb hts inG11 hown hK hP 0 rfl rfl 0 (Nat.le_of_ble_eq_true rfl) (hts _ q1041) (fun _ h9 => h9) rfl dX11_height_7 ?_
  refine lv_iload_n hx hb dX11_height_10 rfl (lv_at hl 1 rfl) ?_
  refine lv_bipush (v := 6) hx hb dX11_height_11 (by decide) ?_
  refine lv_iadd hx hb dX11_height_13 ?_
  obtain ⟨h8, hf⟩ := gd_some hf
  refine va_iald (D := G.1) (cl := vwCl) hx hb hK hP 1 0 rfl rfl (gi_in h8) dX11_height_14 ?_
  refine lv_imul hx hb dX11_height_15 ?_
  refine lv_bipush (v := 30) hx hb dX11_height_16 (by decide) ?_
  refine lv_iadd hx hb dX11_height_18 ?_
  refine lv_bipush (v := 8) hx hb dX11_height_19 (by decide) ?_
  refine lv_iload_n hx hb dX11_height_21 rfl (lv_at hl 2 rfl) ?_
  obtain ⟨a9, h10, hf⟩ := bn_some hf
  refine kPS (tX11_log l G p1 a9 h10) ⟨hx, hb, hml, hown, hts⟩ q1203 q1204 q108 q1205 okyX11_log ⟨Nat.le_of_ble_eq_true rfl, Nat.le_of_ble_eq_true rfl⟩ hP hG hS [] rfl hl.1 rfl (Nat.le_of_ble_eq_true rfl) dX11_height_22 ⟨Nat.zero_le _, Nat.zero_le _⟩ (fun locs hS => ?_)
  refine W.eq (g2 := F0 m 25 ls [.int a9, .int (8 : Int32), .int ((a6 * (t_all (p0 + (6 : Int32)).toNatClampNeg)) + (30 : Int32))]) rfl ?_
  refine lv_imul hx hb dX11_height_25 ?_
  refine lv_iadd hx hb dX11_height_26 ?_
  have hf := Option.some.inj hf
  subst hf
  exact pRet hx hb hr hlocks hS dX11_height_27

def fX11_wire (t_all : Nat → Int32) (p0 : Int32) (p1 : Int32) : Option (Int32) :=
  bn (fX11_allColumns t_all p0 p1) fun a1 => bn (fX11_allColumns t_all p0 p1) fun a3 => some ((a1 * a3) / (20 : Int32))
set_option maxRecDepth 100000 in
set_option maxHeartbeats 4000000 in
theorem tX11_wire (l : Launch) (G : gG) (ad_t ad_t_all ad_t_tape ad_t_isImage ad_t_size ad_t_givenRow ad_t_givenColumn ad_t_newRow ad_t_view : Nat) (tI : Nat → Int32) (t_value : Int64) (t_all : Nat → Int32) (p0 : Int32) (p1 : Int32) (o : Int32) (hf : fX11_wire t_all p0 p1 = some o) : mP G l yX11_wire cX11_wire 3 (some .int) 2 44 [.ref ad_t, .int p0, .int p1] [(ad_t, .inr (11, [.ref ad_t_all, .ref ad_t_tape, .ref ad_t_isImage, .int (tI 3), .int (tI 4), .int (tI 5), .int (tI 6), .ref ad_t_size, .ref ad_t_givenRow, .ref ad_t_givenColumn, .ref ad_t_newRow, .int (tI 11), .int (tI 12), .int (tI 13), .int (tI 14), .int (tI 15), .int (tI 16), .int (tI 17), .int (tI 18), .int (tI 19), .ref ad_t_view, .int (tI 21), .int (tI 22), .int (tI 23), .int (tI 24), .int (tI 25), .long t_value, .int (tI 27), .int (tI 28)])), (ad_t_all, .inl (G.2.1 0, 43047, .inl t_all))] (some (.int o)) := by
  refine mP_of (by decide) (Nat.le_of_ble_eq_true rfl) ?_
  intro p e s m below meth cd ls hx hb hml hown hts hr hlocks hl hP hG
  have hK := hG.1
  have hown : s.vm.findClass RX11 = some m.cls := hown
  have hl : lv_has ls 3 [(0, .ref ad_t), (1, .int p0), (2, .int p1)] := hl
  have hS : va_S no s.heap s.heap [] := va_S.rf
  generalize ([] : List Loc) = locs at hS ⊢
  unfold fX11_wire at hf
  show wG p l e 2 44 s m [.ref ad_t, .int p0, .int p1] below meth cd s.heap locs (pQ (some (.int o))) no (F0 m 0 ls [])
  refine lv_aload_n hx hb dX11_wire_0 rfl (lv_at hl 0 rfl) ?_
  refine lv_iload_n hx hb dX11_wire_1 rfl (lv_at hl 1 rfl) ?_
  refine lv_iload_n hx hb dX11_wire_2 rfl (lv_at hl 2 rfl) ?_
  obtain ⟨a5, h6, hf⟩ := bn_some hf
  refine kPV (tX11_allColumns l G ad_t ad_t_all ad_t_tape ad_t_isImage ad_t_size ad_t_givenRow ad_t_givenColumn ad_t_newRow ad_t_view tI t_value t_all p0 p1 a5 h6) ⟨hx, hb, hml, hown, hts⟩ q1213 q1215 q55 q108 q1216 okyX11_allColumns ⟨Nat.le_of_ble_eq_true rfl, Nat.le_of_ble_eq_true rfl⟩ hP hG hS [0, 1] rfl 0 rfl rfl hl.1 rfl (Nat.le_of_ble_eq_true rfl) dX11_wire_3 ⟨Nat.zero_le _, Nat.zero_le _⟩ (fun locs hS => ?_)
  refine W.eq (g2 := F0 m 6 ls [.int a5]) rfl ?_
  refine lv_aload_n hx hb dX11_wire_6 rfl (lv_at hl 0 rfl) ?_
  refine lv_iload_n hx hb dX11_wire_7 rfl (lv_at hl 1 rfl) ?_
  refine lv_iload_n hx hb dX11_wire_8 rfl (lv_at hl 2 rfl) ?_
  obtain ⟨a7, h8, hf⟩ := bn_some hf
  refine kPV (tX11_allColumns l G ad_t ad_t_all ad_t_tape ad_t_isImage ad_t_size ad_t_givenRow ad_t_givenColumn ad_t_newRow ad_t_view tI t_value t_all p0 p1 a7 h8) ⟨hx, hb, hml, hown, hts⟩ q1213 q1215 q55 q108 q1216 okyX11_allColumns ⟨Nat.le_of_ble_eq_true rfl, Nat.le_of_ble_eq_true rfl⟩ hP hG hS [0, 1] rfl 0 rfl rfl hl.1 rfl (Nat.le_of_ble_eq_true rfl) dX11_wire_9 ⟨Nat.zero_le _, Nat.zero_le _⟩ (fun locs hS => ?_)
  refine W.eq (g2 := F0 m 12 ls [.int a7, .int a5]) rfl ?_
  refine lv_imul hx hb dX11_wire_12 ?_
  refine lv_bipush (v := 20) hx hb dX11_wire_13 (by decide) ?_
  refine lv_idiv hx hb dX11_wire_15 (by decide) ?_
  have hf := Option.some.inj hf
  subst hf
  exact pRet hx hb hr hlocks hS dX11_wire_16

def fX11_fall (t_all : Nat → Int32) (p0 : Int32) (p1 : Int32) : Option (Int32) :=
  bn (fX11_allRows t_all p0 p1) fun a1 => some ((3 : Int32) * a1)
set_option maxRecDepth 100000 in
set_option maxHeartbeats 4000000 in
theorem tX11_fall (l : Launch) (G : gG) (ad_t ad_t_all ad_t_tape ad_t_isImage ad_t_size ad_t_givenRow ad_t_givenColumn ad_t_newRow ad_t_view : Nat) (tI : Nat → Int32) (t_value : Int64) (t_all : Nat → Int32) (p0 : Int32) (p1 : Int32) (o : Int32) (hf : fX11_fall t_all p0 p1 = some o) : mP G l yX11_fall cX11_fall 3 (some .int) 2 44 [.ref ad_t, .int p0, .int p1] [(ad_t, .inr (11, [.ref ad_t_all, .ref ad_t_tape, .ref ad_t_isImage, .int (tI 3), .int (tI 4), .int (tI 5), .int (tI 6), .ref ad_t_size, .ref ad_t_givenRow, .ref ad_t_givenColumn, .ref ad_t_newRow, .int (tI 11), .int (tI 12), .int (tI 13), .int (tI 14), .int (tI 15), .int (tI 16), .int (tI 17), .int (tI 18), .int (tI 19), .ref ad_t_view, .int (tI 21), .int (tI 22), .int (tI 23), .int (tI 24), .int (tI 25), .long t_value, .int (tI 27), .int (tI 28)])), (ad_t_all, .inl (G.2.1 0, 43047, .inl t_all))] (some (.int o)) := by
  refine mP_of (by decide) (Nat.le_of_ble_eq_true rfl) ?_
  intro p e s m below meth cd ls hx hb hml hown hts hr hlocks hl hP hG
  have hK := hG.1
  have hown : s.vm.findClass RX11 = some m.cls := hown
  have hl : lv_has ls 3 [(0, .ref ad_t), (1, .int p0), (2, .int p1)] := hl
  have hS : va_S no s.heap s.heap [] := va_S.rf
  generalize ([] : List Loc) = locs at hS ⊢
  unfold fX11_fall at hf
  show wG p l e 2 44 s m [.ref ad_t, .int p0, .int p1] below meth cd s.heap locs (pQ (some (.int o))) no (F0 m 0 ls [])
  refine lv_iconst (v := 3) hx hb dX11_fall_0 (by decide) ?_
  refine lv_aload_n hx hb dX11_fall_1 rfl (lv_at hl 0 rfl) ?_
  refine lv_iload_n hx hb dX11_fall_2 rfl (lv_at hl 1 rfl) ?_
  refine lv_iload_n hx hb dX11_fall_3 rfl (lv_at hl 2 rfl) ?_
  obtain ⟨a3, h4, hf⟩ := bn_some hf
  refine kPV (tX11_allRows l G ad_t ad_t_all ad_t_tape ad_t_isImage ad_t_size ad_t_givenRow ad_t_givenColumn ad_t_newRow ad_t_view tI t_value t_all p0 p1 a3 h4) ⟨hx, hb, hml, hown, hts⟩ q1229 q1231 q58 q108 q1232 okyX11_allRows ⟨Nat.le_of_ble_eq_true rfl, Nat.le_of_ble_eq_true rfl⟩ hP hG hS [0, 1] rfl 0 rfl rfl hl.1 rfl (Nat.le_of_ble_eq_true rfl) dX11_fall_4 ⟨Nat.zero_le _, Nat.zero_le _⟩ (fun locs hS => ?_)
  refine W.eq (g2 := F0 m 7 ls [.int a3, .int (3 : Int32)]) rfl ?_
  refine lv_imul hx hb dX11_fall_7 ?_
  have hf := Option.some.inj hf
  subst hf
  exact pRet hx hb hr hlocks hS dX11_fall_8

def fX11_common (t_all : Nat → Int32) (p0 : Int32) (p1 : Int32) : Option (Int32) :=
  bn (fX11_stages t_all p0 p1) fun a1 => bn (fX11_delay t_all p0 p1 a1) fun a3 => bn (fX11_wire t_all p0 p1) fun a5 => bn (fX11_log p1) fun a7 => some (((a3 + a5) + (20 : Int32)) + ((5 : Int32) * a7))
set_option maxRecDepth 100000 in
set_option maxHeartbeats 4000000 in
theorem tX11_common (l : Launch) (G : gG) (ad_t ad_t_all ad_t_tape ad_t_isImage ad_t_size ad_t_givenRow ad_t_givenColumn ad_t_newRow ad_t_view : Nat) (tI : Nat → Int32) (t_value : Int64) (t_all : Nat → Int32) (p0 : Int32) (p1 : Int32) (o : Int32) (hf : fX11_common t_all p0 p1 = some o) : mP G l yX11_common cX11_common 3 (some .int) 7 164 [.ref ad_t, .int p0, .int p1] [(ad_t, .inr (11, [.ref ad_t_all, .ref ad_t_tape, .ref ad_t_isImage, .int (tI 3), .int (tI 4), .int (tI 5), .int (tI 6), .ref ad_t_size, .ref ad_t_givenRow, .ref ad_t_givenColumn, .ref ad_t_newRow, .int (tI 11), .int (tI 12), .int (tI 13), .int (tI 14), .int (tI 15), .int (tI 16), .int (tI 17), .int (tI 18), .int (tI 19), .ref ad_t_view, .int (tI 21), .int (tI 22), .int (tI 23), .int (tI 24), .int (tI 25), .long t_value, .int (tI 27), .int (tI 28)])), (ad_t_all, .inl (G.2.1 0, 43047, .inl t_all))] (some (.int o)) := by
  refine mP_of (by decide) (Nat.le_of_ble_eq_true rfl) ?_
  intro p e s m below meth cd ls hx hb hml hown hts hr hlocks hl hP hG
  have hK := hG.1
  have hown : s.vm.findClass RX11 = some m.cls := hown
  have hl : lv_has ls 3 [(0, .ref ad_t), (1, .int p0), (2, .int p1)] := hl
  have hS : va_S no s.heap s.heap [] := va_S.rf
  generalize ([] : List Loc) = locs at hS ⊢
  unfold fX11_common at hf
  show wG p l e 7 164 s m [.ref ad_t, .int p0, .int p1] below meth cd s.heap locs (pQ (some (.int o))) no (F0 m 0 ls [])
  refine lv_aload_n hx hb dX11_common_0 rfl (lv_at hl 0 rfl) ?_
  refine lv_iload_n hx hb dX11_common_1 rfl (lv_at hl 1 rfl) ?_
  refine lv_iload_n hx hb dX11_common_2 rfl (lv_at hl 2 rfl) ?_
  refine lv_aload_n hx hb dX11_common_3 rfl (lv_at hl 0 rfl) ?_
  refine lv_iload_n hx hb dX11_common_4 rfl (lv_at hl 1 rfl) ?_
  refine lv_iload_n hx hb dX11_common_5 rfl (lv_at hl 2 rfl) ?_
  obtain ⟨a9, h10, hf⟩ := bn_some hf
  refine kPV (tX11_stages l G ad_t ad_t_all ad_t_tape ad_t_isImage ad_t_size ad_t_givenRow ad_t_givenColumn ad_t_newRow ad_t_view tI t_value t_all p0 p1 a9 h10) ⟨hx, hb, hml, hown, hts⟩ q1183 q1185 q49 q108 q1186 okyX11_stages ⟨Nat.le_of_ble_eq_true rfl, Nat.le_of_ble_eq_true rfl⟩ hP hG hS [0, 1] rfl 0 rfl rfl hl.1 rfl (Nat.le_of_ble_eq_true rfl) dX11_common_6 ⟨Nat.zero_le _, Nat.zero_le _⟩ (fun locs hS => ?_)
  refine W.eq (g2 := F0 m 9 ls [.int a9, .int p1, .int p0, .ref ad_t]) rfl ?_
  obtain ⟨a11, h12, hf⟩ := bn_some hf
  refine kPV (tX11_delay l G ad_t ad_t_all ad_t_tape ad_t_isImage ad_t_size ad_t_givenRow ad_t_givenColumn ad_t_newRow ad_t_view tI t_value t_all p0 p1 a9 a11 h12) ⟨hx, hb, hml, hown, hts⟩ q1187 q1189 q50 q108 q1190 okyX11_delay ⟨Nat.le_of_ble_eq_true rfl, Nat.le_of_ble_eq_true rfl⟩ hP hG hS [0, 1] rfl 0 rfl rfl hl.1 rfl (Nat.le_of_ble_eq_true rfl) dX11_common_9 ⟨Nat.zero_le _, Nat.zero_le _⟩ (fun locs hS => ?_)
  refine W.eq (g2 := F0 m 12 ls [.int a11]) rfl ?_
  refine lv_aload_n hx hb dX11_common_12 rfl (lv_at hl 0 rfl) ?_
  refine lv_iload_n hx hb dX11_common_13 rfl (lv_at hl 1 rfl) ?_
  refine lv_iload_n hx hb dX11_common_14 rfl (lv_at hl 2 rfl) ?_
  obtain ⟨a13, h14, hf⟩ := bn_some hf
  refine kPV (tX11_wire l G ad_t ad_t_all ad_t_tape ad_t_isImage ad_t_size ad_t_givenRow ad_t_givenColumn ad_t_newRow ad_t_view tI t_value t_all p0 p1 a13 h14) ⟨hx, hb, hml, hown, hts⟩ q1241 q1243 q61 q108 q1244 okyX11_wire ⟨Nat.le_of_ble_eq_true rfl, Nat.le_of_ble_eq_true rfl⟩ hP hG hS [0, 1] rfl 0 rfl rfl hl.1 rfl (Nat.le_of_ble_eq_true rfl) dX11_common_15 ⟨Nat.zero_le _, Nat.zero_le _⟩ (fun locs hS => ?_)
  refine W.eq (g2 := F0 m 18 ls [.int a13, .int a11]) rfl ?_
  refine lv_iadd hx hb dX11_common_18 ?_
  refine lv_bipush (v := 20) hx hb dX11_common_19 (by decide) ?_
  refine lv_iadd hx hb dX11_common_21 ?_
  refine lv_iconst (v := 5) hx hb dX11_common_22 (by decide) ?_
  refine lv_iload_n hx hb dX11_common_23 rfl (lv_at hl 2 rfl) ?_
  obtain ⟨a15, h16, hf⟩ := bn_some hf
  refine kPS (tX11_log l G p1 a15 h16) ⟨hx, hb, hml, hown, hts⟩ q1203 q1204 q108 q1205 okyX11_log ⟨Nat.le_of_ble_eq_true rfl, Nat.le_of_ble_eq_true rfl⟩ hP hG hS [] rfl hl.1 rfl (Nat.le_of_ble_eq_true rfl) dX11_common_24 ⟨Nat.zero_le _, Nat.zero_le _⟩ (fun locs hS => ?_)
  refine W.eq (g2 := F0 m 27 ls [.int a15, .int (5 : Int32), .int ((a11 + a13) + (20 : Int32))]) rfl ?_
  refine lv_imul hx hb dX11_common_27 ?_
  refine lv_iadd hx hb dX11_common_28 ?_
  have hf := Option.some.inj hf
  subst hf
  exact pRet hx hb hr hlocks hS dX11_common_29
