def fX11_replica (t_all : Nat → Int32) (p0 : Int32) (p1 : Int32) (p2 : Int32) : Option (Int32) :=
  bn (fX11_allRows t_all p0 p1) fun a1 => gd (nz p2) (some ((40 : Int32) + (((30 : Int32) * a1) / p2)))
set_option maxRecDepth 100000 in
set_option maxHeartbeats 4000000 in
theorem tX11_replica (l : Launch) (G : gG) (ad_t ad_t_all ad_t_tape ad_t_isImage ad_t_size ad_t_givenRow ad_t_givenColumn ad_t_newRow ad_t_view : Nat) (tI : Nat → Int32) (t_value : Int64) (t_all : Nat → Int32) (p0 : Int32) (p1 : Int32) (p2 : Int32) (o : Int32) (hf : fX11_replica t_all p0 p1 p2 = some o) : mP G l yX11_replica cX11_replica 4 (some .int) 2 44 [.ref ad_t, .int p0, .int p1, .int p2] [(ad_t, .inr (11, [.ref ad_t_all, .ref ad_t_tape, .ref ad_t_isImage, .int (tI 3), .int (tI 4), .int (tI 5), .int (tI 6), .ref ad_t_size, .ref ad_t_givenRow, .ref ad_t_givenColumn, .ref ad_t_newRow, .int (tI 11), .int (tI 12), .int (tI 13), .int (tI 14), .int (tI 15), .int (tI 16), .int (tI 17), .int (tI 18), .int (tI 19), .ref ad_t_view, .int (tI 21), .int (tI 22), .int (tI 23), .int (tI 24), .int (tI 25), .long t_value, .int (tI 27), .int (tI 28)])), (ad_t_all, .inl (G.2.1 0, 43047, .inl t_all))] (some (.int o)) := by
  refine mP_of (by decide) (Nat.le_of_ble_eq_true rfl) ?_
  intro p e s m below meth cd ls hx hb hml hown hts hr hlocks hl hP hG
  have hK := hG.1
  have hown : s.vm.findClass RX11 = some m.cls := hown
  have hl : lv_has ls 4 [(0, .ref ad_t), (1, .int p0), (2, .int p1), (3, .int p2)] := hl
  have hS : va_S no s.heap s.heap [] := va_S.rf
  generalize ([] : List Loc) = locs at hS ⊢
  unfold fX11_replica at hf
  show wG p l e 2 44 s m [.ref ad_t, .int p0, .int p1, .int p2] below meth cd s.heap locs (pQ (some (.int o))) no (F0 m 0 ls [])
  refine lv_bipush (v := 40) hx hb dX11_replica_0 (by decide) ?_
  refine lv_bipush (v := 30) hx hb dX11_replica_2 (by decide) ?_
  refine lv_aload_n hx hb dX11_replica_4 rfl (lv_at hl 0 rfl) ?_
  refine lv_iload_n hx hb dX11_replica_5 rfl (lv_at hl 1 rfl) ?_
  refine lv_iload_n hx hb dX11_replica_6 rfl (lv_at hl 2 rfl) ?_
  obtain ⟨a4, h5, hf⟩ := bn_some hf
  refine kPV (tX11_allRows l G ad_t ad_t_all ad_t_tape ad_t_isImage ad_t_size ad_t_givenRow ad_t_givenColumn ad_t_newRow ad_t_view tI t_value t_all p0 p1 a4 h5) ⟨hx, hb, hml, hown, hts⟩ q1229 q1231 q58 q108 q1232 okyX11_allRows ⟨Nat.le_of_ble_eq_true rfl, Nat.le_of_ble_eq_true rfl⟩ hP hG hS [0, 1] rfl 0 rfl rfl hl.1 rfl (Nat.le_of_ble_eq_true rfl) dX11_replica_7 ⟨Nat.zero_le _, Nat.zero_le _⟩ (fun locs hS => ?_)
  refine W.eq (g2 := F0 m 10 ls [.int a4, .int (30 : Int32), .int (40 : Int32)]) rfl ?_
  refine lv_imul hx hb dX11_replica_10 ?_
  refine lv_iload_n hx hb dX11_replica_11 rfl (lv_at hl 3 rfl) ?_
  obtain ⟨h6, hf⟩ := gd_some hf
  refine lv_idiv hx hb dX11_replica_12 (nz_ne h6) ?_
  refine lv_iadd hx hb dX11_replica_13 ?_
  have hf := Option.some.inj hf
  subst hf
  exact pRet hx hb hr hlocks hS dX11_replica_14

def fX11_pulls_l5 (x1 : Int32) (x2 : Int32) (t_all : Nat → Int32) : Nat → Int32 → Int32 → Option (Int32)
  | 0, _, _ => none
  | n + 1, x3, x4 =>
    (if (16 : Int32) < x4 then some x3 else bn (fX11_replica t_all x1 x2 x4) fun a2 => bn (fX11_fall t_all x1 x2) fun a4 => gd (gi (x1 + (7 : Int32)) 43047) (fX11_pulls_l5 x1 x2 t_all n (if (a2 * (100 : Int32)) < (a4 * ((100 : Int32) + (t_all (x1 + (7 : Int32)).toNatClampNeg))) then x3 else x4) (x4 + (1 : Int32))))
def fX11_pulls (t_all : Nat → Int32) (p0 : Int32) (p1 : Int32) : Option (Int32) :=
  bn (fX11_pulls_l5 p0 p1 t_all FU (1 : Int32) (2 : Int32)) fun y9 => some y9
set_option maxRecDepth 100000 in
set_option maxHeartbeats 4000000 in
theorem tX11_pulls (l : Launch) (G : gG) (ad_t ad_t_all ad_t_tape ad_t_isImage ad_t_size ad_t_givenRow ad_t_givenColumn ad_t_newRow ad_t_view : Nat) (tI : Nat → Int32) (t_value : Int64) (t_all : Nat → Int32) (p0 : Int32) (p1 : Int32) (o : Int32) (hf : fX11_pulls t_all p0 p1 = some o) : mP G l yX11_pulls cX11_pulls 5 (some .int) 3 67 [.ref ad_t, .int p0, .int p1] [(ad_t, .inr (11, [.ref ad_t_all, .ref ad_t_tape, .ref ad_t_isImage, .int (tI 3), .int (tI 4), .int (tI 5), .int (tI 6), .ref ad_t_size, .ref ad_t_givenRow, .ref ad_t_givenColumn, .ref ad_t_newRow, .int (tI 11), .int (tI 12), .int (tI 13), .int (tI 14), .int (tI 15), .int (tI 16), .int (tI 17), .int (tI 18), .int (tI 19), .ref ad_t_view, .int (tI 21), .int (tI 22), .int (tI 23), .int (tI 24), .int (tI 25), .long t_value, .int (tI 27), .int (tI 28)])), (ad_t_all, .inl (G.2.1 0, 43047, .inl t_all))] (some (.int o)) := by
  refine mP_of (by decide) (Nat.le_of_ble_eq_true rfl) ?_
  intro p e s m below meth cd ls hx hb hml hown hts hr hlocks hl hP hG
  have hK := hG.1
  have hown : s.vm.findClass RX11 = some m.cls := hown
  have hl : lv_has ls 5 [(0, .ref ad_t), (1, .int p0), (2, .int p1)] := hl
  have hS : va_S no s.heap s.heap [] := va_S.rf
  generalize ([] : List Loc) = locs at hS ⊢
  unfold fX11_pulls at hf
  show wG p l e 3 67 s m [.ref ad_t, .int p0, .int p1] below meth cd s.heap locs (pQ (some (.int o))) no (F0 m 0 ls [])
  refine lv_iconst (v := 1) hx hb dX11_pulls_0 (by decide) ?_
  refine lv_istore_n (lv' := [(3, .int (1 : Int32)), (0, .ref ad_t), (1, .int p0), (2, .int p1)]) hx hb dX11_pulls_1 rfl hl (by decide) rfl (fun ls hl => ?_)
  refine lv_iconst (v := 2) hx hb dX11_pulls_2 (by decide) ?_
  refine lv_istore (lv' := [(4, .int (2 : Int32)), (3, .int (1 : Int32)), (0, .ref ad_t), (1, .int p0), (2, .int p1)]) hx hb dX11_pulls_3 hl (by decide) rfl (fun ls hl => ?_)
  obtain ⟨y10, hLy10, hky10⟩ := bn_some hf
  have Ey10 : ∀  (locs : List Loc) (ls : Array Slot), lv_has ls 5 [(3, .int y10)] → va_S no s.heap s.heap locs → wG p l e 3 67 s m [.ref ad_t, .int p0, .int p1] below meth cd s.heap locs (pQ (some (.int o))) no (F0 m 58 ls []) := by
    intro  locs ls hl hS
    have hf := hky10
    refine lv_iload_n hx hb dX11_pulls_58 rfl (lv_at hl 0 rfl) ?_
    have hf := Option.some.inj hf
    subst hf
    exact pRet hx hb hr hlocks hS dX11_pulls_59
  have Ly10 : ∀ (n : Nat), ∀ (x11 : Int32) (x12 : Int32) (locs : List Loc) (ls : Array Slot), lv_has ls 5 [(4, .int x12), (3, .int x11), (0, .ref ad_t), (1, .int p0), (2, .int p1)] → va_S no s.heap s.heap locs → fX11_pulls_l5 p0 p1 t_all n x11 x12 = some y10 → wG p l e 3 67 s m [.ref ad_t, .int p0, .int p1] below meth cd s.heap locs (pQ (some (.int o))) no (F0 m 5 ls []) := by
    intro n
    induction n with
    | zero =>
      intro x11 x12 locs ls hl hS hf
      rw [fX11_pulls_l5] at hf
      cases hf
    | succ n ih =>
      intro x11 x12 locs ls hl hS hf
      rw [fX11_pulls_l5] at hf
      refine lv_iload hx hb dX11_pulls_5 (lv_at hl 0 rfl) ?_
      refine lv_bipush (v := 16) hx hb dX11_pulls_7 (by decide) ?_
      refine lv_icmp_gt (tgt := 58) hx hb dX11_pulls_9 (by decide) (fun c13 => ?_) (fun c13 => ?_)
      · have hf := if_t hf c13
        have hf := Option.some.inj hf
        subst hf
        exact Ey10  locs ls (lv_sub hl [1] rfl) hS 
      · have hf := if_f hf c13
        refine lv_aload_n hx hb dX11_pulls_12 rfl (lv_at hl 2 rfl) ?_
        refine lv_iload_n hx hb dX11_pulls_13 rfl (lv_at hl 3 rfl) ?_
        refine lv_iload_n hx hb dX11_pulls_14 rfl (lv_at hl 4 rfl) ?_
        refine lv_iload hx hb dX11_pulls_15 (lv_at hl 0 rfl) ?_
        obtain ⟨a14, h15, hf⟩ := bn_some hf
        refine kPV (tX11_replica l G ad_t ad_t_all ad_t_tape ad_t_isImage ad_t_size ad_t_givenRow ad_t_givenColumn ad_t_newRow ad_t_view tI t_value t_all p0 p1 x12 a14 h15) ⟨hx, hb, hml, hown, hts⟩ q1249 q1251 q63 q108 q1252 okyX11_replica ⟨Nat.le_of_ble_eq_true rfl, Nat.le_of_ble_eq_true rfl⟩ hP hG hS [0, 1] rfl 0 rfl rfl hl.1 rfl (Nat.le_of_ble_eq_true rfl) dX11_pulls_17 ⟨Nat.zero_le _, Nat.zero_le _⟩ (fun locs hS => ?_)
        refine W.eq (g2 := F0 m 20 ls [.int a14]) rfl ?_
        refine lv_bipush (v := 100) hx hb dX11_pulls_20 (by decide) ?_
        refine lv_imul hx hb dX11_pulls_22 ?_
        refine lv_aload_n hx hb dX11_pulls_23 rfl (lv_at hl 2 rfl) ?_
        refine lv_iload_n hx hb dX11_pulls_24 rfl (lv_at hl 3 rfl) ?_
        refine lv_iload_n hx hb dX11_pulls_25 rfl (lv_at hl 4 rfl) ?_
        obtain ⟨a16, h17, hf⟩ := bn_some hf
        refine kPV (tX11_fall l G ad_t ad_t_all ad_t_tape ad_t_isImage ad_t_size ad_t_givenRow ad_t_givenColumn ad_t_newRow ad_t_view tI t_value t_all p0 p1 a16 h17) ⟨hx, hb, hml, hown, hts⟩ q1253 q1255 q64 q108 q1256 okyX11_fall ⟨Nat.le_of_ble_eq_true rfl, Nat.le_of_ble_eq_true rfl⟩ hP hG hS [0, 1] rfl 0 rfl rfl hl.1 rfl (Nat.le_of_ble_eq_true rfl) dX11_pulls_26 ⟨Nat.zero_le _, Nat.zero_le _⟩ (fun locs hS => ?_)
        refine W.eq (g2 := F0 m 29 ls [.int a16, .int (a14 * (100 : Int32))]) rfl ?_
        refine lv_bipush (v := 100) hx hb dX11_pulls_29 (by decide) ?_
        refine lv_aload_n hx hb dX11_pulls_31 rfl (lv_at hl 2 rfl) ?_
        refine va_get (D := G.1) (cl := vwCl) (ci := 11) (v := .ref ad_t_all) (C := RX11) (T := TX11) (N := 29) hx hb hts inG11 hown hK hP 0 rfl rfl 0 (Nat.le_of_ble_eq_true rfl) (hts _ q1041) (fun _ h9 => h9) rfl dX11_pulls_32 ?_
        refine lv_iload_n hx hb dX11_pulls_35 rfl (lv_at hl 3 rfl) ?_
        refine lv_bipush (v := 7) hx hb dX11_pulls_36 (by decide) ?_
        refine lv_iadd hx hb dX11_pulls_38 ?_
        obtain ⟨h18, hf⟩ := gd_some hf
        refine va_iald (D := G.1) (cl := vwCl) hx hb hK hP 1 0 rfl rfl (gi_in h18) dX11_pulls_39 ?_
        refine lv_iadd hx hb dX11_pulls_40 ?_
        refine lv_imul hx hb dX11_pulls_41 ?_
        have J19 : wG p l e 3 67 s m [.ref ad_t, .int p0, .int p1] below meth cd s.heap locs (pQ (some (.int o))) no (F0 m 51 ls [.int (if (a14 * (100 : Int32)) < (a16 * ((100 : Int32) + (t_all (p0 + (7 : Int32)).toNatClampNeg))) then x11 else x12)]) := by
          refine lv_istore_n (lv' := [(3, .int (if (a14 * (100 : Int32)) < (a16 * ((100 : Int32) + (t_all (p0 + (7 : Int32)).toNatClampNeg))) then x11 else x12)), (4, .int x12), (0, .ref ad_t), (1, .int p0), (2, .int p1)]) hx hb dX11_pulls_51 rfl hl (by decide) rfl (fun ls hl => ?_)
          refine lv_iinc (v := (x12 + (1 : Int32))) (lv' := [(4, .int (x12 + (1 : Int32))), (3, .int (if (a14 * (100 : Int32)) < (a16 * ((100 : Int32) + (t_all (p0 + (7 : Int32)).toNatClampNeg))) then x11 else x12)), (0, .ref ad_t), (1, .int p0), (2, .int p1)]) hx hb dX11_pulls_52 hl (k := 1) rfl (ii_1 _) (by decide) rfl (fun ls hl => ?_)
          refine lv_goto (tgt := 5) hx hb dX11_pulls_55 (by decide) ?_
          exact ih (if (a14 * (100 : Int32)) < (a16 * ((100 : Int32) + (t_all (p0 + (7 : Int32)).toNatClampNeg))) then x11 else x12) (x12 + (1 : Int32)) locs ls (lv_sub hl [0, 1, 2, 3, 4] rfl) hS hf
        refine lv_icmp_lt (tgt := 50) hx hb dX11_pulls_42 (by decide) (fun c20 => ?_) (fun c20 => ?_)
        · refine lv_iload_n hx hb dX11_pulls_50 rfl (lv_at hl 1 rfl) ?_
          exact (mgT c20 J19)
        · refine lv_iload hx hb dX11_pulls_45 (lv_at hl 0 rfl) ?_
          refine lv_goto (tgt := 51) hx hb dX11_pulls_47 (by decide) ?_
          exact (mgF c20 J19)
  exact Ly10 FU (1 : Int32) (2 : Int32) locs ls (lv_sub hl [0, 1, 2, 3, 4] rfl) hS hLy10

def fX11_cycle (t_all : Nat → Int32) (p0 : Int32) (p1 : Int32) : Option (Int32) :=
  bn (fX11_common t_all p0 p1) fun a1 => bn (fX11_pulls t_all p0 p1) fun a3 => bn (fX11_replica t_all p0 p1 a3) fun a5 => some (a1 + a5)
set_option maxRecDepth 100000 in
set_option maxHeartbeats 4000000 in
theorem tX11_cycle (l : Launch) (G : gG) (ad_t ad_t_all ad_t_tape ad_t_isImage ad_t_size ad_t_givenRow ad_t_givenColumn ad_t_newRow ad_t_view : Nat) (tI : Nat → Int32) (t_value : Int64) (t_all : Nat → Int32) (p0 : Int32) (p1 : Int32) (o : Int32) (hf : fX11_cycle t_all p0 p1 = some o) : mP G l yX11_cycle cX11_cycle 3 (some .int) 8 186 [.ref ad_t, .int p0, .int p1] [(ad_t, .inr (11, [.ref ad_t_all, .ref ad_t_tape, .ref ad_t_isImage, .int (tI 3), .int (tI 4), .int (tI 5), .int (tI 6), .ref ad_t_size, .ref ad_t_givenRow, .ref ad_t_givenColumn, .ref ad_t_newRow, .int (tI 11), .int (tI 12), .int (tI 13), .int (tI 14), .int (tI 15), .int (tI 16), .int (tI 17), .int (tI 18), .int (tI 19), .ref ad_t_view, .int (tI 21), .int (tI 22), .int (tI 23), .int (tI 24), .int (tI 25), .long t_value, .int (tI 27), .int (tI 28)])), (ad_t_all, .inl (G.2.1 0, 43047, .inl t_all))] (some (.int o)) := by
  refine mP_of (by decide) (Nat.le_of_ble_eq_true rfl) ?_
  intro p e s m below meth cd ls hx hb hml hown hts hr hlocks hl hP hG
  have hK := hG.1
  have hown : s.vm.findClass RX11 = some m.cls := hown
  have hl : lv_has ls 3 [(0, .ref ad_t), (1, .int p0), (2, .int p1)] := hl
  have hS : va_S no s.heap s.heap [] := va_S.rf
  generalize ([] : List Loc) = locs at hS ⊢
  unfold fX11_cycle at hf
  show wG p l e 8 186 s m [.ref ad_t, .int p0, .int p1] below meth cd s.heap locs (pQ (some (.int o))) no (F0 m 0 ls [])
  refine lv_aload_n hx hb dX11_cycle_0 rfl (lv_at hl 0 rfl) ?_
  refine lv_iload_n hx hb dX11_cycle_1 rfl (lv_at hl 1 rfl) ?_
  refine lv_iload_n hx hb dX11_cycle_2 rfl (lv_at hl 2 rfl) ?_
  obtain ⟨a7, h8, hf⟩ := bn_some hf
  refine kPV (tX11_common l G ad_t ad_t_all ad_t_tape ad_t_isImage ad_t_size ad_t_givenRow ad_t_givenColumn ad_t_newRow ad_t_view tI t_value t_all p0 p1 a7 h8) ⟨hx, hb, hml, hown, hts⟩ q1237 q1239 q60 q108 q1240 okyX11_common ⟨Nat.le_of_ble_eq_true rfl, Nat.le_of_ble_eq_true rfl⟩ hP hG hS [0, 1] rfl 0 rfl rfl hl.1 rfl (Nat.le_of_ble_eq_true rfl) dX11_cycle_3 ⟨Nat.zero_le _, Nat.zero_le _⟩ (fun locs hS => ?_)
  refine W.eq (g2 := F0 m 6 ls [.int a7]) rfl ?_
  refine lv_aload_n hx hb dX11_cycle_6 rfl (lv_at hl 0 rfl) ?_
  refine lv_iload_n hx hb dX11_cycle_7 rfl (lv_at hl 1 rfl) ?_
  refine lv_iload_n hx hb dX11_cycle_8 rfl (lv_at hl 2 rfl) ?_
  refine lv_aload_n hx hb dX11_cycle_9 rfl (lv_at hl 0 rfl) ?_
  refine lv_iload_n hx hb dX11_cycle_10 rfl (lv_at hl 1 rfl) ?_
  refine lv_iload_n hx hb dX11_cycle_11 rfl (lv_at hl 2 rfl) ?_
  obtain ⟨a9, h10, hf⟩ := bn_some hf
  refine kPV (tX11_pulls l G ad_t ad_t_all ad_t_tape ad_t_isImage ad_t_size ad_t_givenRow ad_t_givenColumn ad_t_newRow ad_t_view tI t_value t_all p0 p1 a9 h10) ⟨hx, hb, hml, hown, hts⟩ q1245 q1247 q62 q108 q1248 okyX11_pulls ⟨Nat.le_of_ble_eq_true rfl, Nat.le_of_ble_eq_true rfl⟩ hP hG hS [0, 1] rfl 0 rfl rfl hl.1 rfl (Nat.le_of_ble_eq_true rfl) dX11_cycle_12 ⟨Nat.zero_le _, Nat.zero_le _⟩ (fun locs hS => ?_)
  refine W.eq (g2 := F0 m 15 ls [.int a9, .int p1, .int p0, .ref ad_t, .int a7]) rfl ?_
  obtain ⟨a11, h12, hf⟩ := bn_some hf
  refine kPV (tX11_replica l G ad_t ad_t_all ad_t_tape ad_t_isImage ad_t_size ad_t_givenRow ad_t_givenColumn ad_t_newRow ad_t_view tI t_value t_all p0 p1 a9 a11 h12) ⟨hx, hb, hml, hown, hts⟩ q1249 q1251 q63 q108 q1252 okyX11_replica ⟨Nat.le_of_ble_eq_true rfl, Nat.le_of_ble_eq_true rfl⟩ hP hG hS [0, 1] rfl 0 rfl rfl hl.1 rfl (Nat.le_of_ble_eq_true rfl) dX11_cycle_15 ⟨Nat.zero_le _, Nat.zero_le _⟩ (fun locs hS => ?_)
  refine W.eq (g2 := F0 m 18 ls [.int a11, .int a7]) rfl ?_
  refine lv_iadd hx hb dX11_cycle_18 ?_
  have hf := Option.some.inj hf
  subst hf
  exact pRet hx hb hr hlocks hS dX11_cycle_19

def fX11_cost (t_all : Nat → Int32) (t_size : Nat → Int32) (p0 : Int32) (p1 : Int32) (p2 : Int32) : Option (Int32 × (Nat → Int32)) :=
  bn (fX11_width t_all t_size p0 p1) fun a1 => bn (fX11_height t_all p0 p1) fun a3 => (if p2 = 0 then bn (fX11_width t_all a1.2 p0 p1) fun a10 => bn (fX11_height t_all p0 p1) fun a12 => some ((a10.1 * a12), a10.2) else (if p2 = (1 : Int32) then bn (fX11_cycle t_all p0 p1) fun a8 => some (a8, a1.2) else (if 0 ≤ (a1.1 - a3) then some ((a1.1 - a3), a1.2) else some ((-(a1.1 - a3)), a1.2))))
set_option maxRecDepth 100000 in
set_option maxHeartbeats 4000000 in
theorem tX11_cost (l : Launch) (G : gG) (ad_t ad_t_all ad_t_tape ad_t_isImage ad_t_size ad_t_givenRow ad_t_givenColumn ad_t_newRow ad_t_view : Nat) (tI : Nat → Int32) (t_value : Int64) (t_all : Nat → Int32) (t_size : Nat → Int32) (p0 : Int32) (p1 : Int32) (p2 : Int32) (o : Int32 × (Nat → Int32)) (hf : fX11_cost t_all t_size p0 p1 p2 = some o) : mE G l yX11_cost cX11_cost 5 (some .int) 9 211 0 0 [.ref ad_t, .int p0, .int p1, .int p2] [(ad_t, .inr (11, [.ref ad_t_all, .ref ad_t_tape, .ref ad_t_isImage, .int (tI 3), .int (tI 4), .int (tI 5), .int (tI 6), .ref ad_t_size, .ref ad_t_givenRow, .ref ad_t_givenColumn, .ref ad_t_newRow, .int (tI 11), .int (tI 12), .int (tI 13), .int (tI 14), .int (tI 15), .int (tI 16), .int (tI 17), .int (tI 18), .int (tI 19), .ref ad_t_view, .int (tI 21), .int (tI 22), .int (tI 23), .int (tI 24), .int (tI 25), .long t_value, .int (tI 27), .int (tI 28)])), (ad_t_all, .inl (G.2.1 0, 43047, .inl t_all)), (ad_t_size, .inl (G.2.1 0, 8, .inl t_size))] (fun r w => r = (some (.int o.1)) ∧ w = [(ad_t, .inr (11, [.ref ad_t_all, .ref ad_t_tape, .ref ad_t_isImage, .int (tI 3), .int (tI 4), .int (tI 5), .int (tI 6), .ref ad_t_size, .ref ad_t_givenRow, .ref ad_t_givenColumn, .ref ad_t_newRow, .int (tI 11), .int (tI 12), .int (tI 13), .int (tI 14), .int (tI 15), .int (tI 16), .int (tI 17), .int (tI 18), .int (tI 19), .ref ad_t_view, .int (tI 21), .int (tI 22), .int (tI 23), .int (tI 24), .int (tI 25), .long t_value, .int (tI 27), .int (tI 28)])), (ad_t_all, .inl (G.2.1 0, 43047, .inl t_all)), (ad_t_size, .inl (G.2.1 0, 8, .inl o.2))]) := by
  refine mE_of (by decide) (Nat.le_of_ble_eq_true rfl) ?_
  intro p e s m below meth cd ls A hx hb hml hown hts hr hlocks hnm hl hA hP hD hS hG
  have hK := hG.1
  have hown : s.vm.findClass RX11 = some m.cls := hown
  have hl : lv_has ls 5 [(0, .ref ad_t), (1, .int p0), (2, .int p1), (3, .int p2)] := hl
  have hS := hS
  unfold fX11_cost at hf
  obtain ⟨H, locs, eH, eL⟩ : ∃ (H : Heap) (locs : List Loc), H = s.heap ∧ locs = [] := ⟨_, _, rfl, rfl⟩
  have hP : va_P G.1 vwCl [(ad_t, .inr (11, [.ref ad_t_all, .ref ad_t_tape, .ref ad_t_isImage, .int (tI 3), .int (tI 4), .int (tI 5), .int (tI 6), .ref ad_t_size, .ref ad_t_givenRow, .ref ad_t_givenColumn, .ref ad_t_newRow, .int (tI 11), .int (tI 12), .int (tI 13), .int (tI 14), .int (tI 15), .int (tI 16), .int (tI 17), .int (tI 18), .int (tI 19), .ref ad_t_view, .int (tI 21), .int (tI 22), .int (tI 23), .int (tI 24), .int (tI 25), .long t_value, .int (tI 27), .int (tI 28)])), (ad_t_all, .inl (G.2.1 0, 43047, .inl t_all)), (ad_t_size, .inl (G.2.1 0, 8, .inl t_size))] H := eH ▸ hP
  have hS : va_S A s.heap H locs := by rw [eH, eL]; exact hS
  suffices hgo : wG p l e 9 211 s m [.ref ad_t, .int p0, .int p1, .int p2] below meth cd H locs (eQ G A (fun r w => r = (some (.int o.1)) ∧ w = [(ad_t, .inr (11, [.ref ad_t_all, .ref ad_t_tape, .ref ad_t_isImage, .int (tI 3), .int (tI 4), .int (tI 5), .int (tI 6), .ref ad_t_size, .ref ad_t_givenRow, .ref ad_t_givenColumn, .ref ad_t_newRow, .int (tI 11), .int (tI 12), .int (tI 13), .int (tI 14), .int (tI 15), .int (tI 16), .int (tI 17), .int (tI 18), .int (tI 19), .ref ad_t_view, .int (tI 21), .int (tI 22), .int (tI 23), .int (tI 24), .int (tI 25), .long t_value, .int (tI 27), .int (tI 28)])), (ad_t_all, .inl (G.2.1 0, 43047, .inl t_all)), (ad_t_size, .inl (G.2.1 0, 8, .inl o.2))])) A (F0 m 0 ls []) by rw [eH, eL] at hgo; exact hgo
  clear eH eL
  refine lv_aload_n hx hb dX11_cost_0 rfl (lv_at hl 0 rfl) ?_
  refine lv_iload_n hx hb dX11_cost_1 rfl (lv_at hl 1 rfl) ?_
  refine lv_iload_n hx hb dX11_cost_2 rfl (lv_at hl 2 rfl) ?_
  obtain ⟨a14, h15, hf⟩ := bn_some hf
  refine kEV (tX11_width l G ad_t ad_t_all ad_t_tape ad_t_isImage ad_t_size ad_t_givenRow ad_t_givenColumn ad_t_newRow ad_t_view tI t_value t_all t_size p0 p1 a14 h15) ⟨hx, hb, hml, hown, hts⟩ q1175 q1177 q47 q108 q1178 okyX11_width ⟨Nat.le_of_ble_eq_true rfl, Nat.le_of_ble_eq_true rfl⟩ hP hD hG hS hA [0, 1, 2] [] rfl (wr := []) rfl (by decide) 0 rfl rfl hl.1 rfl (Nat.le_of_ble_eq_true rfl) dX11_cost_3 ⟨Nat.zero_le _, Nat.zero_le _⟩ (fun r w H locs hR hP hD hS => ?_)
  obtain ⟨rfl, rfl⟩ := hR
  have hP : va_P G.1 vwCl [(ad_t, .inr (11, [.ref ad_t_all, .ref ad_t_tape, .ref ad_t_isImage, .int (tI 3), .int (tI 4), .int (tI 5), .int (tI 6), .ref ad_t_size, .ref ad_t_givenRow, .ref ad_t_givenColumn, .ref ad_t_newRow, .int (tI 11), .int (tI 12), .int (tI 13), .int (tI 14), .int (tI 15), .int (tI 16), .int (tI 17), .int (tI 18), .int (tI 19), .ref ad_t_view, .int (tI 21), .int (tI 22), .int (tI 23), .int (tI 24), .int (tI 25), .long t_value, .int (tI 27), .int (tI 28)])), (ad_t_all, .inl (G.2.1 0, 43047, .inl t_all)), (ad_t_size, .inl (G.2.1 0, 8, .inl a14.2))] H := hP
  have hD : va_D A [(ad_t, .inr (11, [.ref ad_t_all, .ref ad_t_tape, .ref ad_t_isImage, .int (tI 3), .int (tI 4), .int (tI 5), .int (tI 6), .ref ad_t_size, .ref ad_t_givenRow, .ref ad_t_givenColumn, .ref ad_t_newRow, .int (tI 11), .int (tI 12), .int (tI 13), .int (tI 14), .int (tI 15), .int (tI 16), .int (tI 17), .int (tI 18), .int (tI 19), .ref ad_t_view, .int (tI 21), .int (tI 22), .int (tI 23), .int (tI 24), .int (tI 25), .long t_value, .int (tI 27), .int (tI 28)])), (ad_t_all, .inl (G.2.1 0, 43047, .inl t_all)), (ad_t_size, .inl (G.2.1 0, 8, .inl a14.2))] := hD
  refine W.eq (g2 := F0 m 6 ls [.int a14.1]) rfl ?_
  refine lv_aload_n hx hb dX11_cost_6 rfl (lv_at hl 0 rfl) ?_
  refine lv_iload_n hx hb dX11_cost_7 rfl (lv_at hl 1 rfl) ?_
  refine lv_iload_n hx hb dX11_cost_8 rfl (lv_at hl 2 rfl) ?_
  obtain ⟨a16, h17, hf⟩ := bn_some hf
  refine kPV (tX11_height l G ad_t ad_t_all ad_t_tape ad_t_isImage ad_t_size ad_t_givenRow ad_t_givenColumn ad_t_newRow ad_t_view tI t_value t_all p0 p1 a16 h17) ⟨hx, hb, hml, hown, hts⟩ q1225 q1227 q57 q108 q1228 okyX11_height ⟨Nat.le_of_ble_eq_true rfl, Nat.le_of_ble_eq_true rfl⟩ hP hG hS [0, 1] rfl 0 rfl rfl hl.1 rfl (Nat.le_of_ble_eq_true rfl) dX11_cost_9 ⟨Nat.zero_le _, Nat.zero_le _⟩ (fun locs hS => ?_)
  refine W.eq (g2 := F0 m 12 ls [.int a16, .int a14.1]) rfl ?_
  refine lv_isub hx hb dX11_cost_12 ?_
  refine lv_istore (lv' := [(4, .int (a14.1 - a16)), (0, .ref ad_t), (1, .int p0), (2, .int p1), (3, .int p2)]) hx hb dX11_cost_13 hl (by decide) rfl (fun ls hl => ?_)
  refine lv_iload_n hx hb dX11_cost_15 rfl (lv_at hl 4 rfl) ?_
  refine lv_if_ne (tgt := 35) hx hb dX11_cost_16 (by decide) (fun c18 => ?_) (fun c18 => ?_)
  · have hf := if_f hf c18
    refine lv_iload_n hx hb dX11_cost_35 rfl (lv_at hl 4 rfl) ?_
    refine lv_iconst (v := 1) hx hb dX11_cost_36 (by decide) ?_
    refine lv_icmp_ne (tgt := 49) hx hb dX11_cost_37 (by decide) (fun c19 => ?_) (fun c19 => ?_)
    · have hf := if_f hf c19
      refine lv_iload hx hb dX11_cost_49 (lv_at hl 0 rfl) ?_
      refine lv_if_ge (tgt := 60) hx hb dX11_cost_51 (by decide) (fun c20 => ?_) (fun c20 => ?_)
      · have hf := if_t hf c20
        refine lv_iload hx hb dX11_cost_60 (lv_at hl 0 rfl) ?_
        have hf := Option.some.inj hf
        subst hf
        exact eRet hx hb hr hlocks hP hD hS ⟨rfl, rfl⟩ dX11_cost_62
      · have hf := if_f hf c20
        refine lv_iload hx hb dX11_cost_54 (lv_at hl 0 rfl) ?_
        refine lv_ineg hx hb dX11_cost_56 ?_
        refine lv_goto (tgt := 62) hx hb dX11_cost_57 (by decide) ?_
        have hf := Option.some.inj hf
        subst hf
        exact eRet hx hb hr hlocks hP hD hS ⟨rfl, rfl⟩ dX11_cost_62
    · have hf := if_t hf c19
      refine lv_aload_n hx hb dX11_cost_40 rfl (lv_at hl 1 rfl) ?_
      refine lv_iload_n hx hb dX11_cost_41 rfl (lv_at hl 2 rfl) ?_
      refine lv_iload_n hx hb dX11_cost_42 rfl (lv_at hl 3 rfl) ?_
      obtain ⟨a21, h22, hf⟩ := bn_some hf
      refine kPV (tX11_cycle l G ad_t ad_t_all ad_t_tape ad_t_isImage ad_t_size ad_t_givenRow ad_t_givenColumn ad_t_newRow ad_t_view tI t_value t_all p0 p1 a21 h22) ⟨hx, hb, hml, hown, hts⟩ q1233 q1235 q59 q108 q1236 okyX11_cycle ⟨Nat.le_of_ble_eq_true rfl, Nat.le_of_ble_eq_true rfl⟩ hP hG hS [0, 1] rfl 0 rfl rfl hl.1 rfl (Nat.le_of_ble_eq_true rfl) dX11_cost_43 ⟨Nat.zero_le _, Nat.zero_le _⟩ (fun locs hS => ?_)
      refine W.eq (g2 := F0 m 46 ls [.int a21]) rfl ?_
      refine lv_goto (tgt := 62) hx hb dX11_cost_46 (by decide) ?_
      have hf := Option.some.inj hf
      subst hf
      exact eRet hx hb hr hlocks hP hD hS ⟨rfl, rfl⟩ dX11_cost_62
  · have hf := if_t hf c18
    refine lv_aload_n hx hb dX11_cost_19 rfl (lv_at hl 1 rfl) ?_
    refine lv_iload_n hx hb dX11_cost_20 rfl (lv_at hl 2 rfl) ?_
    refine lv_iload_n hx hb dX11_cost_21 rfl (lv_at hl 3 rfl) ?_
    obtain ⟨a23, h24, hf⟩ := bn_some hf
    refine kEV (tX11_width l G ad_t ad_t_all ad_t_tape ad_t_isImage ad_t_size ad_t_givenRow ad_t_givenColumn ad_t_newRow ad_t_view tI t_value t_all a14.2 p0 p1 a23 h24) ⟨hx, hb, hml, hown, hts⟩ q1175 q1177 q47 q108 q1178 okyX11_width ⟨Nat.le_of_ble_eq_true rfl, Nat.le_of_ble_eq_true rfl⟩ hP hD hG hS hA [0, 1, 2] [] rfl (wr := []) rfl (by decide) 0 rfl rfl hl.1 rfl (Nat.le_of_ble_eq_true rfl) dX11_cost_22 ⟨Nat.zero_le _, Nat.zero_le _⟩ (fun r w H locs hR hP hD hS => ?_)
    obtain ⟨rfl, rfl⟩ := hR
    have hP : va_P G.1 vwCl [(ad_t, .inr (11, [.ref ad_t_all, .ref ad_t_tape, .ref ad_t_isImage, .int (tI 3), .int (tI 4), .int (tI 5), .int (tI 6), .ref ad_t_size, .ref ad_t_givenRow, .ref ad_t_givenColumn, .ref ad_t_newRow, .int (tI 11), .int (tI 12), .int (tI 13), .int (tI 14), .int (tI 15), .int (tI 16), .int (tI 17), .int (tI 18), .int (tI 19), .ref ad_t_view, .int (tI 21), .int (tI 22), .int (tI 23), .int (tI 24), .int (tI 25), .long t_value, .int (tI 27), .int (tI 28)])), (ad_t_all, .inl (G.2.1 0, 43047, .inl t_all)), (ad_t_size, .inl (G.2.1 0, 8, .inl a23.2))] H := hP
    have hD : va_D A [(ad_t, .inr (11, [.ref ad_t_all, .ref ad_t_tape, .ref ad_t_isImage, .int (tI 3), .int (tI 4), .int (tI 5), .int (tI 6), .ref ad_t_size, .ref ad_t_givenRow, .ref ad_t_givenColumn, .ref ad_t_newRow, .int (tI 11), .int (tI 12), .int (tI 13), .int (tI 14), .int (tI 15), .int (tI 16), .int (tI 17), .int (tI 18), .int (tI 19), .ref ad_t_view, .int (tI 21), .int (tI 22), .int (tI 23), .int (tI 24), .int (tI 25), .long t_value, .int (tI 27), .int (tI 28)])), (ad_t_all, .inl (G.2.1 0, 43047, .inl t_all)), (ad_t_size, .inl (G.2.1 0, 8, .inl a23.2))] := hD
    refine W.eq (g2 := F0 m 25 ls [.int a23.1]) rfl ?_
    refine lv_aload_n hx hb dX11_cost_25 rfl (lv_at hl 1 rfl) ?_
    refine lv_iload_n hx hb dX11_cost_26 rfl (lv_at hl 2 rfl) ?_
    refine lv_iload_n hx hb dX11_cost_27 rfl (lv_at hl 3 rfl) ?_
    obtain ⟨a25, h26, hf⟩ := bn_some hf
    refine kPV (tX11_height l G ad_t ad_t_all ad_t_tape ad_t_isImage ad_t_size ad_t_givenRow ad_t_givenColumn ad_t_newRow ad_t_view tI t_value t_all p0 p1 a25 h26) ⟨hx, hb, hml, hown, hts⟩ q1225 q1227 q57 q108 q1228 okyX11_height ⟨Nat.le_of_ble_eq_true rfl, Nat.le_of_ble_eq_true rfl⟩ hP hG hS [0, 1] rfl 0 rfl rfl hl.1 rfl (Nat.le_of_ble_eq_true rfl) dX11_cost_28 ⟨Nat.zero_le _, Nat.zero_le _⟩ (fun locs hS => ?_)
    refine W.eq (g2 := F0 m 31 ls [.int a25, .int a23.1]) rfl ?_
    refine lv_imul hx hb dX11_cost_31 ?_
    refine lv_goto (tgt := 62) hx hb dX11_cost_32 (by decide) ?_
    have hf := Option.some.inj hf
    subst hf
    exact eRet hx hb hr hlocks hP hD hS ⟨rfl, rfl⟩ dX11_cost_62

def fX11_wishedBy_l8 (x1 : Int32) (x2 : Int32) (t_all : Nat → Int32) : Nat → Int32 → Int32 → Int32 → (Nat → Int32) → Option (Int32 × (Nat → Int32))
  | 0, _, _, _, _ => none
  | n + 1, x3, x4, x5, t_size =>
    (if (8 : Int32) < x5 then some (x3, t_size) else bn (fX11_isPossible t_all x1 x5) fun a2 => (if (bi a2) = 0 then fX11_wishedBy_l8 x1 x2 t_all n x3 x4 (x5 * (2 : Int32)) t_size else bn (fX11_cost t_all t_size x1 x5 x2) fun a5 => (if x3 = (-1 : Int32) then fX11_wishedBy_l8 x1 x2 t_all n x5 a5.1 (x5 * (2 : Int32)) a5.2 else (if a5.1 < x4 then fX11_wishedBy_l8 x1 x2 t_all n x5 a5.1 (x5 * (2 : Int32)) a5.2 else fX11_wishedBy_l8 x1 x2 t_all n x3 x4 (x5 * (2 : Int32)) a5.2))))
def fX11_wishedBy (t_all : Nat → Int32) (t_size : Nat → Int32) (p0 : Int32) (p1 : Int32) : Option (Int32 × (Nat → Int32)) :=
  bn (fX11_wishedBy_l8 p0 p1 t_all FU (-1 : Int32) (0 : Int32) (1 : Int32) t_size) fun y9 => some (y9.1, y9.2)
set_option maxRecDepth 100000 in
set_option maxHeartbeats 4000000 in
theorem tX11_wishedBy (l : Launch) (G : gG) (ad_t ad_t_all ad_t_tape ad_t_isImage ad_t_size ad_t_givenRow ad_t_givenColumn ad_t_newRow ad_t_view : Nat) (tI : Nat → Int32) (t_value : Int64) (t_all : Nat → Int32) (t_size : Nat → Int32) (p0 : Int32) (p1 : Int32) (o : Int32 × (Nat → Int32)) (hf : fX11_wishedBy t_all t_size p0 p1 = some o) : mE G l yX11_wishedBy cX11_wishedBy 7 (some .int) 10 235 0 0 [.ref ad_t, .int p0, .int p1] [(ad_t, .inr (11, [.ref ad_t_all, .ref ad_t_tape, .ref ad_t_isImage, .int (tI 3), .int (tI 4), .int (tI 5), .int (tI 6), .ref ad_t_size, .ref ad_t_givenRow, .ref ad_t_givenColumn, .ref ad_t_newRow, .int (tI 11), .int (tI 12), .int (tI 13), .int (tI 14), .int (tI 15), .int (tI 16), .int (tI 17), .int (tI 18), .int (tI 19), .ref ad_t_view, .int (tI 21), .int (tI 22), .int (tI 23), .int (tI 24), .int (tI 25), .long t_value, .int (tI 27), .int (tI 28)])), (ad_t_all, .inl (G.2.1 0, 43047, .inl t_all)), (ad_t_size, .inl (G.2.1 0, 8, .inl t_size))] (fun r w => r = (some (.int o.1)) ∧ w = [(ad_t, .inr (11, [.ref ad_t_all, .ref ad_t_tape, .ref ad_t_isImage, .int (tI 3), .int (tI 4), .int (tI 5), .int (tI 6), .ref ad_t_size, .ref ad_t_givenRow, .ref ad_t_givenColumn, .ref ad_t_newRow, .int (tI 11), .int (tI 12), .int (tI 13), .int (tI 14), .int (tI 15), .int (tI 16), .int (tI 17), .int (tI 18), .int (tI 19), .ref ad_t_view, .int (tI 21), .int (tI 22), .int (tI 23), .int (tI 24), .int (tI 25), .long t_value, .int (tI 27), .int (tI 28)])), (ad_t_all, .inl (G.2.1 0, 43047, .inl t_all)), (ad_t_size, .inl (G.2.1 0, 8, .inl o.2))]) := by
  refine mE_of (by decide) (Nat.le_of_ble_eq_true rfl) ?_
  intro p e s m below meth cd ls A hx hb hml hown hts hr hlocks hnm hl hA hP hD hS hG
  have hK := hG.1
  have hown : s.vm.findClass RX11 = some m.cls := hown
  have hl : lv_has ls 7 [(0, .ref ad_t), (1, .int p0), (2, .int p1)] := hl
  have hS := hS
  unfold fX11_wishedBy at hf
  obtain ⟨H, locs, eH, eL⟩ : ∃ (H : Heap) (locs : List Loc), H = s.heap ∧ locs = [] := ⟨_, _, rfl, rfl⟩
  have hP : va_P G.1 vwCl [(ad_t, .inr (11, [.ref ad_t_all, .ref ad_t_tape, .ref ad_t_isImage, .int (tI 3), .int (tI 4), .int (tI 5), .int (tI 6), .ref ad_t_size, .ref ad_t_givenRow, .ref ad_t_givenColumn, .ref ad_t_newRow, .int (tI 11), .int (tI 12), .int (tI 13), .int (tI 14), .int (tI 15), .int (tI 16), .int (tI 17), .int (tI 18), .int (tI 19), .ref ad_t_view, .int (tI 21), .int (tI 22), .int (tI 23), .int (tI 24), .int (tI 25), .long t_value, .int (tI 27), .int (tI 28)])), (ad_t_all, .inl (G.2.1 0, 43047, .inl t_all)), (ad_t_size, .inl (G.2.1 0, 8, .inl t_size))] H := eH ▸ hP
  have hS : va_S A s.heap H locs := by rw [eH, eL]; exact hS
  suffices hgo : wG p l e 10 235 s m [.ref ad_t, .int p0, .int p1] below meth cd H locs (eQ G A (fun r w => r = (some (.int o.1)) ∧ w = [(ad_t, .inr (11, [.ref ad_t_all, .ref ad_t_tape, .ref ad_t_isImage, .int (tI 3), .int (tI 4), .int (tI 5), .int (tI 6), .ref ad_t_size, .ref ad_t_givenRow, .ref ad_t_givenColumn, .ref ad_t_newRow, .int (tI 11), .int (tI 12), .int (tI 13), .int (tI 14), .int (tI 15), .int (tI 16), .int (tI 17), .int (tI 18), .int (tI 19), .ref ad_t_view, .int (tI 21), .int (tI 22), .int (tI 23), .int (tI 24), .int (tI 25), .long t_value, .int (tI 27), .int (tI 28)])), (ad_t_all, .inl (G.2.1 0, 43047, .inl t_all)), (ad_t_size, .inl (G.2.1 0, 8, .inl o.2))])) A (F0 m 0 ls []) by rw [eH, eL] at hgo; exact hgo
  clear eH eL
  refine lv_iconst (v := -1) hx hb dX11_wishedBy_0 (by decide) ?_
  refine lv_istore_n (lv' := [(3, .int (-1 : Int32)), (0, .ref ad_t), (1, .int p0), (2, .int p1)]) hx hb dX11_wishedBy_1 rfl hl (by decide) rfl (fun ls hl => ?_)
  refine lv_iconst (v := 0) hx hb dX11_wishedBy_2 (by decide) ?_
  refine lv_istore (lv' := [(4, .int (0 : Int32)), (3, .int (-1 : Int32)), (0, .ref ad_t), (1, .int p0), (2, .int p1)]) hx hb dX11_wishedBy_3 hl (by decide) rfl (fun ls hl => ?_)
  refine lv_iconst (v := 1) hx hb dX11_wishedBy_5 (by decide) ?_
  refine lv_istore (lv' := [(5, .int (1 : Int32)), (4, .int (0 : Int32)), (3, .int (-1 : Int32)), (0, .ref ad_t), (1, .int p0), (2, .int p1)]) hx hb dX11_wishedBy_6 hl (by decide) rfl (fun ls hl => ?_)
  obtain ⟨y10, hLy10, hky10⟩ := bn_some hf
  have Ey10 : ∀  (H : Heap) (locs : List Loc) (ls : Array Slot), lv_has ls 7 [(3, .int y10.1)] → va_P G.1 vwCl [(ad_t, .inr (11, [.ref ad_t_all, .ref ad_t_tape, .ref ad_t_isImage, .int (tI 3), .int (tI 4), .int (tI 5), .int (tI 6), .ref ad_t_size, .ref ad_t_givenRow, .ref ad_t_givenColumn, .ref ad_t_newRow, .int (tI 11), .int (tI 12), .int (tI 13), .int (tI 14), .int (tI 15), .int (tI 16), .int (tI 17), .int (tI 18), .int (tI 19), .ref ad_t_view, .int (tI 21), .int (tI 22), .int (tI 23), .int (tI 24), .int (tI 25), .long t_value, .int (tI 27), .int (tI 28)])), (ad_t_all, .inl (G.2.1 0, 43047, .inl t_all)), (ad_t_size, .inl (G.2.1 0, 8, .inl y10.2))] H → va_D A [(ad_t, .inr (11, [.ref ad_t_all, .ref ad_t_tape, .ref ad_t_isImage, .int (tI 3), .int (tI 4), .int (tI 5), .int (tI 6), .ref ad_t_size, .ref ad_t_givenRow, .ref ad_t_givenColumn, .ref ad_t_newRow, .int (tI 11), .int (tI 12), .int (tI 13), .int (tI 14), .int (tI 15), .int (tI 16), .int (tI 17), .int (tI 18), .int (tI 19), .ref ad_t_view, .int (tI 21), .int (tI 22), .int (tI 23), .int (tI 24), .int (tI 25), .long t_value, .int (tI 27), .int (tI 28)])), (ad_t_all, .inl (G.2.1 0, 43047, .inl t_all)), (ad_t_size, .inl (G.2.1 0, 8, .inl y10.2))] → va_S A s.heap H locs → wG p l e 10 235 s m [.ref ad_t, .int p0, .int p1] below meth cd H locs (eQ G A (fun r w => r = (some (.int o.1)) ∧ w = [(ad_t, .inr (11, [.ref ad_t_all, .ref ad_t_tape, .ref ad_t_isImage, .int (tI 3), .int (tI 4), .int (tI 5), .int (tI 6), .ref ad_t_size, .ref ad_t_givenRow, .ref ad_t_givenColumn, .ref ad_t_newRow, .int (tI 11), .int (tI 12), .int (tI 13), .int (tI 14), .int (tI 15), .int (tI 16), .int (tI 17), .int (tI 18), .int (tI 19), .ref ad_t_view, .int (tI 21), .int (tI 22), .int (tI 23), .int (tI 24), .int (tI 25), .long t_value, .int (tI 27), .int (tI 28)])), (ad_t_all, .inl (G.2.1 0, 43047, .inl t_all)), (ad_t_size, .inl (G.2.1 0, 8, .inl o.2))])) A (F0 m 69 ls []) := by
    intro  H locs ls hl hP hD hS
    have hf := hky10
    refine lv_iload_n hx hb dX11_wishedBy_69 rfl (lv_at hl 0 rfl) ?_
    have hf := Option.some.inj hf
    subst hf
    exact eRet hx hb hr hlocks hP hD hS ⟨rfl, rfl⟩ dX11_wishedBy_70
  have Ly10 : ∀ (n : Nat), ∀ (x11 : Int32) (x12 : Int32) (x13 : Int32) (g14 : Nat → Int32) (H : Heap) (locs : List Loc) (ls : Array Slot), lv_has ls 7 [(5, .int x13), (4, .int x12), (3, .int x11), (0, .ref ad_t), (1, .int p0), (2, .int p1)] → va_P G.1 vwCl [(ad_t, .inr (11, [.ref ad_t_all, .ref ad_t_tape, .ref ad_t_isImage, .int (tI 3), .int (tI 4), .int (tI 5), .int (tI 6), .ref ad_t_size, .ref ad_t_givenRow, .ref ad_t_givenColumn, .ref ad_t_newRow, .int (tI 11), .int (tI 12), .int (tI 13), .int (tI 14), .int (tI 15), .int (tI 16), .int (tI 17), .int (tI 18), .int (tI 19), .ref ad_t_view, .int (tI 21), .int (tI 22), .int (tI 23), .int (tI 24), .int (tI 25), .long t_value, .int (tI 27), .int (tI 28)])), (ad_t_all, .inl (G.2.1 0, 43047, .inl t_all)), (ad_t_size, .inl (G.2.1 0, 8, .inl g14))] H → va_D A [(ad_t, .inr (11, [.ref ad_t_all, .ref ad_t_tape, .ref ad_t_isImage, .int (tI 3), .int (tI 4), .int (tI 5), .int (tI 6), .ref ad_t_size, .ref ad_t_givenRow, .ref ad_t_givenColumn, .ref ad_t_newRow, .int (tI 11), .int (tI 12), .int (tI 13), .int (tI 14), .int (tI 15), .int (tI 16), .int (tI 17), .int (tI 18), .int (tI 19), .ref ad_t_view, .int (tI 21), .int (tI 22), .int (tI 23), .int (tI 24), .int (tI 25), .long t_value, .int (tI 27), .int (tI 28)])), (ad_t_all, .inl (G.2.1 0, 43047, .inl t_all)), (ad_t_size, .inl (G.2.1 0, 8, .inl g14))] → va_S A s.heap H locs → fX11_wishedBy_l8 p0 p1 t_all n x11 x12 x13 g14 = some y10 → wG p l e 10 235 s m [.ref ad_t, .int p0, .int p1] below meth cd H locs (eQ G A (fun r w => r = (some (.int o.1)) ∧ w = [(ad_t, .inr (11, [.ref ad_t_all, .ref ad_t_tape, .ref ad_t_isImage, .int (tI 3), .int (tI 4), .int (tI 5), .int (tI 6), .ref ad_t_size, .ref ad_t_givenRow, .ref ad_t_givenColumn, .ref ad_t_newRow, .int (tI 11), .int (tI 12), .int (tI 13), .int (tI 14), .int (tI 15), .int (tI 16), .int (tI 17), .int (tI 18), .int (tI 19), .ref ad_t_view, .int (tI 21), .int (tI 22), .int (tI 23), .int (tI 24), .int (tI 25), .long t_value, .int (tI 27), .int (tI 28)])), (ad_t_all, .inl (G.2.1 0, 43047, .inl t_all)), (ad_t_size, .inl (G.2.1 0, 8, .inl o.2))])) A (F0 m 8 ls []) := by
    intro n
    induction n with
    | zero =>
      intro x11 x12 x13 g14 H locs ls hl hP hD hS hf
      rw [fX11_wishedBy_l8] at hf
      cases hf
    | succ n ih =>
      intro x11 x12 x13 g14 H locs ls hl hP hD hS hf
      rw [fX11_wishedBy_l8] at hf
      refine lv_iload hx hb dX11_wishedBy_8 (lv_at hl 0 rfl) ?_
      refine lv_bipush (v := 8) hx hb dX11_wishedBy_10 (by decide) ?_
      refine lv_icmp_gt (tgt := 69) hx hb dX11_wishedBy_12 (by decide) (fun c15 => ?_) (fun c15 => ?_)
      · have hf := if_t hf c15
        have hf := Option.some.inj hf
        subst hf
        exact Ey10  H locs ls (lv_sub hl [2] rfl) hP hD hS 
      · have hf := if_f hf c15
        refine lv_aload_n hx hb dX11_wishedBy_15 rfl (lv_at hl 3 rfl) ?_
        refine lv_iload_n hx hb dX11_wishedBy_16 rfl (lv_at hl 4 rfl) ?_
        refine lv_iload hx hb dX11_wishedBy_17 (lv_at hl 0 rfl) ?_
        obtain ⟨a16, h17, hf⟩ := bn_some hf
        refine kPV (tX11_isPossible l G ad_t ad_t_all ad_t_tape ad_t_isImage ad_t_size ad_t_givenRow ad_t_givenColumn ad_t_newRow ad_t_view tI t_value t_all p0 x13 a16 h17) ⟨hx, hb, hml, hown, hts⟩ q1155 q1157 q42 q108 q1158 okyX11_isPossible ⟨Nat.le_of_ble_eq_true rfl, Nat.le_of_ble_eq_true rfl⟩ hP hG hS [0, 1] rfl 0 rfl rfl hl.1 rfl (Nat.le_of_ble_eq_true rfl) dX11_wishedBy_19 ⟨Nat.zero_le _, Nat.zero_le _⟩ (fun locs hS => ?_)
        refine W.eq (g2 := F0 m 22 ls [.int (bi a16)]) rfl ?_
        refine lv_if_ne (tgt := 28) hx hb dX11_wishedBy_22 (by decide) (fun c18 => ?_) (fun c18 => ?_)
        · have hf := if_f hf c18
          refine lv_aload_n hx hb dX11_wishedBy_28 rfl (lv_at hl 3 rfl) ?_
          refine lv_iload_n hx hb dX11_wishedBy_29 rfl (lv_at hl 4 rfl) ?_
          refine lv_iload hx hb dX11_wishedBy_30 (lv_at hl 0 rfl) ?_
          refine lv_iload_n hx hb dX11_wishedBy_32 rfl (lv_at hl 5 rfl) ?_
          obtain ⟨a19, h20, hf⟩ := bn_some hf
          refine kEV (tX11_cost l G ad_t ad_t_all ad_t_tape ad_t_isImage ad_t_size ad_t_givenRow ad_t_givenColumn ad_t_newRow ad_t_view tI t_value t_all g14 p0 x13 p1 a19 h20) ⟨hx, hb, hml, hown, hts⟩ q1171 q1173 q46 q108 q1174 okyX11_cost ⟨Nat.le_of_ble_eq_true rfl, Nat.le_of_ble_eq_true rfl⟩ hP hD hG hS hA [0, 1, 2] [] rfl (wr := []) rfl (by decide) 0 rfl rfl hl.1 rfl (Nat.le_of_ble_eq_true rfl) dX11_wishedBy_33 ⟨Nat.zero_le _, Nat.zero_le _⟩ (fun r w H locs hR hP hD hS => ?_)
          obtain ⟨rfl, rfl⟩ := hR
          have hP : va_P G.1 vwCl [(ad_t, .inr (11, [.ref ad_t_all, .ref ad_t_tape, .ref ad_t_isImage, .int (tI 3), .int (tI 4), .int (tI 5), .int (tI 6), .ref ad_t_size, .ref ad_t_givenRow, .ref ad_t_givenColumn, .ref ad_t_newRow, .int (tI 11), .int (tI 12), .int (tI 13), .int (tI 14), .int (tI 15), .int (tI 16), .int (tI 17), .int (tI 18), .int (tI 19), .ref ad_t_view, .int (tI 21), .int (tI 22), .int (tI 23), .int (tI 24), .int (tI 25), .long t_value, .int (tI 27), .int (tI 28)])), (ad_t_all, .inl (G.2.1 0, 43047, .inl t_all)), (ad_t_size, .inl (G.2.1 0, 8, .inl a19.2))] H := hP
          have hD : va_D A [(ad_t, .inr (11, [.ref ad_t_all, .ref ad_t_tape, .ref ad_t_isImage, .int (tI 3), .int (tI 4), .int (tI 5), .int (tI 6), .ref ad_t_size, .ref ad_t_givenRow, .ref ad_t_givenColumn, .ref ad_t_newRow, .int (tI 11), .int (tI 12), .int (tI 13), .int (tI 14), .int (tI 15), .int (tI 16), .int (tI 17), .int (tI 18), .int (tI 19), .ref ad_t_view, .int (tI 21), .int (tI 22), .int (tI 23), .int (tI 24), .int (tI 25), .long t_value, .int (tI 27), .int (tI 28)])), (ad_t_all, .inl (G.2.1 0, 43047, .inl t_all)), (ad_t_size, .inl (G.2.1 0, 8, .inl a19.2))] := hD
          refine W.eq (g2 := F0 m 36 ls [.int a19.1]) rfl ?_
          refine lv_istore (lv' := [(6, .int a19.1), (5, .int x13), (4, .int x12), (3, .int x11), (0, .ref ad_t), (1, .int p0), (2, .int p1)]) hx hb dX11_wishedBy_36 hl (by decide) rfl (fun ls hl => ?_)
          refine lv_iload_n hx hb dX11_wishedBy_38 rfl (lv_at hl 3 rfl) ?_
          refine lv_iconst (v := -1) hx hb dX11_wishedBy_39 (by decide) ?_
          refine lv_icmp_eq (tgt := 53) hx hb dX11_wishedBy_40 (by decide) (fun c21 => ?_) (fun c21 => ?_)
          · have hf := if_t hf c21
            refine lv_iload hx hb dX11_wishedBy_53 (lv_at hl 1 rfl) ?_
            refine lv_istore_n (lv' := [(3, .int x13), (6, .int a19.1), (5, .int x13), (4, .int x12), (0, .ref ad_t), (1, .int p0), (2, .int p1)]) hx hb dX11_wishedBy_55 rfl hl (by decide) rfl (fun ls hl => ?_)
            refine lv_iload hx hb dX11_wishedBy_56 (lv_at hl 1 rfl) ?_
            refine lv_istore (lv' := [(4, .int a19.1), (3, .int x13), (6, .int a19.1), (5, .int x13), (0, .ref ad_t), (1, .int p0), (2, .int p1)]) hx hb dX11_wishedBy_58 hl (by decide) rfl (fun ls hl => ?_)
            refine lv_iload hx hb dX11_wishedBy_60 (lv_at hl 3 rfl) ?_
            refine lv_iconst (v := 2) hx hb dX11_wishedBy_62 (by decide) ?_
            refine lv_imul hx hb dX11_wishedBy_63 ?_
            refine lv_istore (lv' := [(5, .int (x13 * (2 : Int32))), (4, .int a19.1), (3, .int x13), (6, .int a19.1), (0, .ref ad_t), (1, .int p0), (2, .int p1)]) hx hb dX11_wishedBy_64 hl (by decide) rfl (fun ls hl => ?_)
            refine lv_goto (tgt := 8) hx hb dX11_wishedBy_66 (by decide) ?_
            exact ih x13 a19.1 (x13 * (2 : Int32)) a19.2 H locs ls (lv_sub hl [0, 1, 2, 4, 5, 6] rfl) hP hD hS hf
          · have hf := if_f hf c21
            refine lv_iload hx hb dX11_wishedBy_43 (lv_at hl 0 rfl) ?_
            refine lv_iload hx hb dX11_wishedBy_45 (lv_at hl 2 rfl) ?_
            refine lv_icmp_lt (tgt := 53) hx hb dX11_wishedBy_47 (by decide) (fun c22 => ?_) (fun c22 => ?_)
            · have hf := if_t hf c22
              refine lv_iload hx hb dX11_wishedBy_53 (lv_at hl 1 rfl) ?_
              refine lv_istore_n (lv' := [(3, .int x13), (6, .int a19.1), (5, .int x13), (4, .int x12), (0, .ref ad_t), (1, .int p0), (2, .int p1)]) hx hb dX11_wishedBy_55 rfl hl (by decide) rfl (fun ls hl => ?_)
              refine lv_iload hx hb dX11_wishedBy_56 (lv_at hl 1 rfl) ?_
              refine lv_istore (lv' := [(4, .int a19.1), (3, .int x13), (6, .int a19.1), (5, .int x13), (0, .ref ad_t), (1, .int p0), (2, .int p1)]) hx hb dX11_wishedBy_58 hl (by decide) rfl (fun ls hl => ?_)
              refine lv_iload hx hb dX11_wishedBy_60 (lv_at hl 3 rfl) ?_
              refine lv_iconst (v := 2) hx hb dX11_wishedBy_62 (by decide) ?_
              refine lv_imul hx hb dX11_wishedBy_63 ?_
              refine lv_istore (lv' := [(5, .int (x13 * (2 : Int32))), (4, .int a19.1), (3, .int x13), (6, .int a19.1), (0, .ref ad_t), (1, .int p0), (2, .int p1)]) hx hb dX11_wishedBy_64 hl (by decide) rfl (fun ls hl => ?_)
              refine lv_goto (tgt := 8) hx hb dX11_wishedBy_66 (by decide) ?_
              exact ih x13 a19.1 (x13 * (2 : Int32)) a19.2 H locs ls (lv_sub hl [0, 1, 2, 4, 5, 6] rfl) hP hD hS hf
            · have hf := if_f hf c22
              refine lv_goto (tgt := 60) hx hb dX11_wishedBy_50 (by decide) ?_
              refine lv_iload hx hb dX11_wishedBy_60 (lv_at hl 1 rfl) ?_
              refine lv_iconst (v := 2) hx hb dX11_wishedBy_62 (by decide) ?_
              refine lv_imul hx hb dX11_wishedBy_63 ?_
              refine lv_istore (lv' := [(5, .int (x13 * (2 : Int32))), (6, .int a19.1), (4, .int x12), (3, .int x11), (0, .ref ad_t), (1, .int p0), (2, .int p1)]) hx hb dX11_wishedBy_64 hl (by decide) rfl (fun ls hl => ?_)
              refine lv_goto (tgt := 8) hx hb dX11_wishedBy_66 (by decide) ?_
              exact ih x11 x12 (x13 * (2 : Int32)) a19.2 H locs ls (lv_sub hl [0, 2, 3, 4, 5, 6] rfl) hP hD hS hf
        · have hf := if_t hf c18
          refine lv_goto (tgt := 60) hx hb dX11_wishedBy_25 (by decide) ?_
          refine lv_iload hx hb dX11_wishedBy_60 (lv_at hl 0 rfl) ?_
          refine lv_iconst (v := 2) hx hb dX11_wishedBy_62 (by decide) ?_
          refine lv_imul hx hb dX11_wishedBy_63 ?_
          refine lv_istore (lv' := [(5, .int (x13 * (2 : Int32))), (4, .int x12), (3, .int x11), (0, .ref ad_t), (1, .int p0), (2, .int p1)]) hx hb dX11_wishedBy_64 hl (by decide) rfl (fun ls hl => ?_)
          refine lv_goto (tgt := 8) hx hb dX11_wishedBy_66 (by decide) ?_
          exact ih x11 x12 (x13 * (2 : Int32)) g14 H locs ls (lv_sub hl [0, 1, 2, 3, 4, 5] rfl) hP hD hS hf
  exact Ly10 FU (-1 : Int32) (0 : Int32) (1 : Int32) t_size H locs ls (lv_sub hl [0, 1, 2, 3, 4, 5] rfl) hP hD hS hLy10

def fX11_mux (t_all : Nat → Int32) (t_size : Nat → Int32) (p0 : Int32) : Option (Int32 × (Nat → Int32)) :=
  gd (gi (p0 + (2 : Int32)) 43047) ((if (t_all (p0 + (2 : Int32)).toNatClampNeg) ≤ 0 then gd (gi (p0 + (8 : Int32)) 43047) (bn (fX11_wishedBy t_all t_size p0 (t_all (p0 + (8 : Int32)).toNatClampNeg)) fun a4 => some (a4.1, a4.2)) else gd (gi (p0 + (2 : Int32)) 43047) (some ((t_all (p0 + (2 : Int32)).toNatClampNeg), t_size))))
set_option maxRecDepth 100000 in
set_option maxHeartbeats 4000000 in
theorem tX11_mux (l : Launch) (G : gG) (ad_t ad_t_all ad_t_tape ad_t_isImage ad_t_size ad_t_givenRow ad_t_givenColumn ad_t_newRow ad_t_view : Nat) (tI : Nat → Int32) (t_value : Int64) (t_all : Nat → Int32) (t_size : Nat → Int32) (p0 : Int32) (o : Int32 × (Nat → Int32)) (hf : fX11_mux t_all t_size p0 = some o) : mE G l yX11_mux cX11_mux 2 (some .int) 11 261 0 0 [.ref ad_t, .int p0] [(ad_t, .inr (11, [.ref ad_t_all, .ref ad_t_tape, .ref ad_t_isImage, .int (tI 3), .int (tI 4), .int (tI 5), .int (tI 6), .ref ad_t_size, .ref ad_t_givenRow, .ref ad_t_givenColumn, .ref ad_t_newRow, .int (tI 11), .int (tI 12), .int (tI 13), .int (tI 14), .int (tI 15), .int (tI 16), .int (tI 17), .int (tI 18), .int (tI 19), .ref ad_t_view, .int (tI 21), .int (tI 22), .int (tI 23), .int (tI 24), .int (tI 25), .long t_value, .int (tI 27), .int (tI 28)])), (ad_t_all, .inl (G.2.1 0, 43047, .inl t_all)), (ad_t_size, .inl (G.2.1 0, 8, .inl t_size))] (fun r w => r = (some (.int o.1)) ∧ w = [(ad_t, .inr (11, [.ref ad_t_all, .ref ad_t_tape, .ref ad_t_isImage, .int (tI 3), .int (tI 4), .int (tI 5), .int (tI 6), .ref ad_t_size, .ref ad_t_givenRow, .ref ad_t_givenColumn, .ref ad_t_newRow, .int (tI 11), .int (tI 12), .int (tI 13), .int (tI 14), .int (tI 15), .int (tI 16), .int (tI 17), .int (tI 18), .int (tI 19), .ref ad_t_view, .int (tI 21), .int (tI 22), .int (tI 23), .int (tI 24), .int (tI 25), .long t_value, .int (tI 27), .int (tI 28)])), (ad_t_all, .inl (G.2.1 0, 43047, .inl t_all)), (ad_t_size, .inl (G.2.1 0, 8, .inl o.2))]) := by
  refine mE_of (by decide) (Nat.le_of_ble_eq_true rfl) ?_
  intro p e s m below meth cd ls A hx hb hml hown hts hr hlocks hnm hl hA hP hD hS hG
  have hK := hG.1
  have hown : s.vm.findClass RX11 = some m.cls := hown
  have hl : lv_has ls 2 [(0, .ref ad_t), (1, .int p0)] := hl
  have hS := hS
  unfold fX11_mux at hf
  obtain ⟨H, locs, eH, eL⟩ : ∃ (H : Heap) (locs : List Loc), H = s.heap ∧ locs = [] := ⟨_, _, rfl, rfl⟩
  have hP : va_P G.1 vwCl [(ad_t, .inr (11, [.ref ad_t_all, .ref ad_t_tape, .ref ad_t_isImage, .int (tI 3), .int (tI 4), .int (tI 5), .int (tI 6), .ref ad_t_size, .ref ad_t_givenRow, .ref ad_t_givenColumn, .ref ad_t_newRow, .int (tI 11), .int (tI 12), .int (tI 13), .int (tI 14), .int (tI 15), .int (tI 16), .int (tI 17), .int (tI 18), .int (tI 19), .ref ad_t_view, .int (tI 21), .int (tI 22), .int (tI 23), .int (tI 24), .int (tI 25), .long t_value, .int (tI 27), .int (tI 28)])), (ad_t_all, .inl (G.2.1 0, 43047, .inl t_all)), (ad_t_size, .inl (G.2.1 0, 8, .inl t_size))] H := eH ▸ hP
  have hS : va_S A s.heap H locs := by rw [eH, eL]; exact hS
  suffices hgo : wG p l e 11 261 s m [.ref ad_t, .int p0] below meth cd H locs (eQ G A (fun r w => r = (some (.int o.1)) ∧ w = [(ad_t, .inr (11, [.ref ad_t_all, .ref ad_t_tape, .ref ad_t_isImage, .int (tI 3), .int (tI 4), .int (tI 5), .int (tI 6), .ref ad_t_size, .ref ad_t_givenRow, .ref ad_t_givenColumn, .ref ad_t_newRow, .int (tI 11), .int (tI 12), .int (tI 13), .int (tI 14), .int (tI 15), .int (tI 16), .int (tI 17), .int (tI 18), .int (tI 19), .ref ad_t_view, .int (tI 21), .int (tI 22), .int (tI 23), .int (tI 24), .int (tI 25), .long t_value, .int (tI 27), .int (tI 28)])), (ad_t_all, .inl (G.2.1 0, 43047, .inl t_all)), (ad_t_size, .inl (G.2.1 0, 8, .inl o.2))])) A (F0 m 0 ls []) by rw [eH, eL] at hgo; exact hgo
  clear eH eL
  refine lv_aload_n hx hb dX11_mux_0 rfl (lv_at hl 0 rfl) ?_
  refine va_get (D := G.1) (cl := vwCl) (ci := 11) (v := .ref ad_t_all) (C := RX11) (T := TX11) (N := 29) hx hb hts inG11 hown hK hP 0 rfl rfl 0 (Nat.le_of_ble_eq_true rfl) (hts _ q1041) (fun _ h9 => h9) rfl dX11_mux_1 ?_
  refine lv_iload_n hx hb dX11_mux_4 rfl (lv_at hl 1 rfl) ?_
  refine lv_iconst (v := 2) hx hb dX11_mux_5 (by decide) ?_
  refine lv_iadd hx hb dX11_mux_6 ?_
  obtain ⟨h7, hf⟩ := gd_some hf
  refine va_iald (D := G.1) (cl := vwCl) hx hb hK hP 1 0 rfl rfl (gi_in h7) dX11_mux_7 ?_
  refine lv_if_le (tgt := 22) hx hb dX11_mux_8 (by decide) (fun c8 => ?_) (fun c8 => ?_)
  · have hf := if_t hf c8
    refine lv_aload_n hx hb dX11_mux_22 rfl (lv_at hl 0 rfl) ?_
    refine lv_iload_n hx hb dX11_mux_23 rfl (lv_at hl 1 rfl) ?_
    refine lv_aload_n hx hb dX11_mux_24 rfl (lv_at hl 0 rfl) ?_
    refine va_get (D := G.1) (cl := vwCl) (ci := 11) (v := .ref ad_t_all) (C := RX11) (T := TX11) (N := 29) hx hb hts inG11 hown hK hP 0 rfl rfl 0 (Nat.le_of_ble_eq_true rfl) (hts _ q1041) (fun _ h9 => h9) rfl dX11_mux_25 ?_
    refine lv_iload_n hx hb dX11_mux_28 rfl (lv_at hl 1 rfl) ?_
    refine lv_bipush (v := 8) hx hb dX11_mux_29 (by decide) ?_
    refine lv_iadd hx hb dX11_mux_31 ?_
    obtain ⟨h9, hf⟩ := gd_some hf
    refine va_iald (D := G.1) (cl := vwCl) hx hb hK hP 1 0 rfl rfl (gi_in h9) dX11_mux_32 ?_
    obtain ⟨a10, h11, hf⟩ := bn_some hf
    refine kEV (tX11_wishedBy l G ad_t ad_t_all ad_t_tape ad_t_isImage ad_t_size ad_t_givenRow ad_t_givenColumn ad_t_newRow ad_t_view tI t_value t_all t_size p0 (t_all (p0 + (8 : Int32)).toNatClampNeg) a10 h11) ⟨hx, hb, hml, hown, hts⟩ q1167 q1169 q45 q108 q1170 okyX11_wishedBy ⟨Nat.le_of_ble_eq_true rfl, Nat.le_of_ble_eq_true rfl⟩ hP hD hG hS hA [0, 1, 2] [] rfl (wr := []) rfl (by decide) 0 rfl rfl hl.1 rfl (Nat.le_of_ble_eq_true rfl) dX11_mux_33 ⟨Nat.zero_le _, Nat.zero_le _⟩ (fun r w H locs hR hP hD hS => ?_)
    obtain ⟨rfl, rfl⟩ := hR
    have hP : va_P G.1 vwCl [(ad_t, .inr (11, [.ref ad_t_all, .ref ad_t_tape, .ref ad_t_isImage, .int (tI 3), .int (tI 4), .int (tI 5), .int (tI 6), .ref ad_t_size, .ref ad_t_givenRow, .ref ad_t_givenColumn, .ref ad_t_newRow, .int (tI 11), .int (tI 12), .int (tI 13), .int (tI 14), .int (tI 15), .int (tI 16), .int (tI 17), .int (tI 18), .int (tI 19), .ref ad_t_view, .int (tI 21), .int (tI 22), .int (tI 23), .int (tI 24), .int (tI 25), .long t_value, .int (tI 27), .int (tI 28)])), (ad_t_all, .inl (G.2.1 0, 43047, .inl t_all)), (ad_t_size, .inl (G.2.1 0, 8, .inl a10.2))] H := hP
    have hD : va_D A [(ad_t, .inr (11, [.ref ad_t_all, .ref ad_t_tape, .ref ad_t_isImage, .int (tI 3), .int (tI 4), .int (tI 5), .int (tI 6), .ref ad_t_size, .ref ad_t_givenRow, .ref ad_t_givenColumn, .ref ad_t_newRow, .int (tI 11), .int (tI 12), .int (tI 13), .int (tI 14), .int (tI 15), .int (tI 16), .int (tI 17), .int (tI 18), .int (tI 19), .ref ad_t_view, .int (tI 21), .int (tI 22), .int (tI 23), .int (tI 24), .int (tI 25), .long t_value, .int (tI 27), .int (tI 28)])), (ad_t_all, .inl (G.2.1 0, 43047, .inl t_all)), (ad_t_size, .inl (G.2.1 0, 8, .inl a10.2))] := hD
    refine W.eq (g2 := F0 m 36 ls [.int a10.1]) rfl ?_
    have hf := Option.some.inj hf
    subst hf
    exact eRet hx hb hr hlocks hP hD hS ⟨rfl, rfl⟩ dX11_mux_36
  · have hf := if_f hf c8
    refine lv_aload_n hx hb dX11_mux_11 rfl (lv_at hl 0 rfl) ?_
    refine va_get (D := G.1) (cl := vwCl) (ci := 11) (v := .ref ad_t_all) (C := RX11) (T := TX11) (N := 29) hx hb hts inG11 hown hK hP 0 rfl rfl 0 (Nat.le_of_ble_eq_true rfl) (hts _ q1041) (fun _ h9 => h9) rfl dX11_mux_12 ?_
    refine lv_iload_n hx hb dX11_mux_15 rfl (lv_at hl 1 rfl) ?_
    refine lv_iconst (v := 2) hx hb dX11_mux_16 (by decide) ?_
    refine lv_iadd hx hb dX11_mux_17 ?_
    obtain ⟨h12, hf⟩ := gd_some hf
    refine va_iald (D := G.1) (cl := vwCl) hx hb hK hP 1 0 rfl rfl (gi_in h12) dX11_mux_18 ?_
    refine lv_goto (tgt := 36) hx hb dX11_mux_19 (by decide) ?_
    have hf := Option.some.inj hf
    subst hf
    exact eRet hx hb hr hlocks hP hD hS ⟨rfl, rfl⟩ dX11_mux_36

def fX11_badOf (p0 : Int32) (p1 : Int32) : Int32 :=
  ((p0 + (10 : Int32)) + ((3 : Int32) * p1))
set_option maxRecDepth 100000 in
set_option maxHeartbeats 4000000 in
theorem tX11_badOf (l : Launch) (G : gG) (p0 : Int32) (p1 : Int32) (o : Int32) (hf : fX11_badOf p0 p1 = o) : mP G l yX11_badOf cX11_badOf 2 (some .int) 0 0 [.int p0, .int p1] [] (some (.int o)) := by
  refine mP_of (by decide) (Nat.le_of_ble_eq_true rfl) ?_
  intro p e s m below meth cd ls hx hb hml hown hts hr hlocks hl hP hG
  have hK := hG.1
  have hown : s.vm.findClass RX11 = some m.cls := hown
  have hl : lv_has ls 2 [(0, .int p0), (1, .int p1)] := hl
  have hS : va_S no s.heap s.heap [] := va_S.rf
  generalize ([] : List Loc) = locs at hS ⊢
  unfold fX11_badOf at hf
  show wG p l e 0 0 s m [.int p0, .int p1] below meth cd s.heap locs (pQ (some (.int o))) no (F0 m 0 ls [])
  refine lv_iload_n hx hb dX11_badOf_0 rfl (lv_at hl 0 rfl) ?_
  refine lv_bipush (v := 10) hx hb dX11_badOf_1 (by decide) ?_
  refine lv_iadd hx hb dX11_badOf_3 ?_
  refine lv_iconst (v := 3) hx hb dX11_badOf_4 (by decide) ?_
  refine lv_iload_n hx hb dX11_badOf_5 rfl (lv_at hl 1 rfl) ?_
  refine lv_imul hx hb dX11_badOf_6 ?_
  refine lv_iadd hx hb dX11_badOf_7 ?_
  subst hf
  exact pRet hx hb hr hlocks hS dX11_badOf_8

def fX11_unfit_l37 (x1 : Int32) (x2 : Int32) (t_all : Nat → Int32) (t_size : Nat → Int32) : Nat → Int32 → Option ((Unit) ⊕ (Int32 × (Nat → Int32)))
  | 0, _ => none
  | n + 1, x3 =>
    gd (gi (x1 + (9 : Int32)) 43047) ((if (t_all (x1 + (9 : Int32)).toNatClampNeg) ≤ x3 then some (.inl ()) else gd (gi (fX11_badOf x1 x3) 43047) (bn (fX11_rows t_all x1 x2) fun a7 => (if a7 ≤ (t_all (fX11_badOf x1 x3).toNatClampNeg) then some (.inr ((6 : Int32), t_size)) else gd (gi ((fX11_badOf x1 x3) + (1 : Int32)) 43047) (bn (fX11_columns t_all x1 x2) fun a11 => (if (t_all ((fX11_badOf x1 x3) + (1 : Int32)).toNatClampNeg) < a11 then fX11_unfit_l37 x1 x2 t_all t_size n (x3 + (1 : Int32)) else some (.inr ((6 : Int32), t_size))))))))
def fX11_unfit_j29 (x1 : Int32) (t_all : Nat → Int32) (t_size : Nat → Int32) : Option (Int32 × (Nat → Int32)) :=
  bn (fX11_mux t_all t_size x1) fun a2 => (bn (fX11_unfit_l37 x1 a2.1 t_all a2.2 FU (0 : Int32)) fun y14 => match y14 with | .inl y14z => some ((0 : Int32), a2.2) | .inr y14o => some y14o)
def fX11_unfit (t_all : Nat → Int32) (t_size : Nat → Int32) (p0 : Int32) : Option (Int32 × (Nat → Int32)) :=
  gd (gi (p0 + (2 : Int32)) 43047) ((if (t_all (p0 + (2 : Int32)).toNatClampNeg) ≤ 0 then fX11_unfit_j29 p0 t_all t_size else gd (gi (p0 + (2 : Int32)) 43047) (bn (fX11_isPossible t_all p0 (t_all (p0 + (2 : Int32)).toNatClampNeg)) fun a18 => (if (bi a18) = 0 then some ((5 : Int32), t_size) else fX11_unfit_j29 p0 t_all t_size))))
set_option maxRecDepth 100000 in
set_option maxHeartbeats 4000000 in
theorem tX11_unfit (l : Launch) (G : gG) (ad_t ad_t_all ad_t_tape ad_t_isImage ad_t_size ad_t_givenRow ad_t_givenColumn ad_t_newRow ad_t_view : Nat) (tI : Nat → Int32) (t_value : Int64) (t_all : Nat → Int32) (t_size : Nat → Int32) (p0 : Int32) (o : Int32 × (Nat → Int32)) (hf : fX11_unfit t_all t_size p0 = some o) : mE G l yX11_unfit cX11_unfit 4 (some .int) 12 282 0 0 [.ref ad_t, .int p0] [(ad_t, .inr (11, [.ref ad_t_all, .ref ad_t_tape, .ref ad_t_isImage, .int (tI 3), .int (tI 4), .int (tI 5), .int (tI 6), .ref ad_t_size, .ref ad_t_givenRow, .ref ad_t_givenColumn, .ref ad_t_newRow, .int (tI 11), .int (tI 12), .int (tI 13), .int (tI 14), .int (tI 15), .int (tI 16), .int (tI 17), .int (tI 18), .int (tI 19), .ref ad_t_view, .int (tI 21), .int (tI 22), .int (tI 23), .int (tI 24), .int (tI 25), .long t_value, .int (tI 27), .int (tI 28)])), (ad_t_all, .inl (G.2.1 0, 43047, .inl t_all)), (ad_t_size, .inl (G.2.1 0, 8, .inl t_size))] (fun r w => r = (some (.int o.1)) ∧ w = [(ad_t, .inr (11, [.ref ad_t_all, .ref ad_t_tape, .ref ad_t_isImage, .int (tI 3), .int (tI 4), .int (tI 5), .int (tI 6), .ref ad_t_size, .ref ad_t_givenRow, .ref ad_t_givenColumn, .ref ad_t_newRow, .int (tI 11), .int (tI 12), .int (tI 13), .int (tI 14), .int (tI 15), .int (tI 16), .int (tI 17), .int (tI 18), .int (tI 19), .ref ad_t_view, .int (tI 21), .int (tI 22), .int (tI 23), .int (tI 24), .int (tI 25), .long t_value, .int (tI 27), .int (tI 28)])), (ad_t_all, .inl (G.2.1 0, 43047, .inl t_all)), (ad_t_size, .inl (G.2.1 0, 8, .inl o.2))]) := by
  refine mE_of (by decide) (Nat.le_of_ble_eq_true rfl) ?_
  intro p e s m below meth cd ls A hx hb hml hown hts hr hlocks hnm hl hA hP hD hS hG
  have hK := hG.1
  have hown : s.vm.findClass RX11 = some m.cls := hown
  have hl : lv_has ls 4 [(0, .ref ad_t), (1, .int p0)] := hl
  have hS := hS
  unfold fX11_unfit at hf
  obtain ⟨H, locs, eH, eL⟩ : ∃ (H : Heap) (locs : List Loc), H = s.heap ∧ locs = [] := ⟨_, _, rfl, rfl⟩
  have hP : va_P G.1 vwCl [(ad_t, .inr (11, [.ref ad_t_all, .ref ad_t_tape, .ref ad_t_isImage, .int (tI 3), .int (tI 4), .int (tI 5), .int (tI 6), .ref ad_t_size, .ref ad_t_givenRow, .ref ad_t_givenColumn, .ref ad_t_newRow, .int (tI 11), .int (tI 12), .int (tI 13), .int (tI 14), .int (tI 15), .int (tI 16), .int (tI 17), .int (tI 18), .int (tI 19), .ref ad_t_view, .int (tI 21), .int (tI 22), .int (tI 23), .int (tI 24), .int (tI 25), .long t_value, .int (tI 27), .int (tI 28)])), (ad_t_all, .inl (G.2.1 0, 43047, .inl t_all)), (ad_t_size, .inl (G.2.1 0, 8, .inl t_size))] H := eH ▸ hP
  have hS : va_S A s.heap H locs := by rw [eH, eL]; exact hS
  suffices hgo : wG p l e 12 282 s m [.ref ad_t, .int p0] below meth cd H locs (eQ G A (fun r w => r = (some (.int o.1)) ∧ w = [(ad_t, .inr (11, [.ref ad_t_all, .ref ad_t_tape, .ref ad_t_isImage, .int (tI 3), .int (tI 4), .int (tI 5), .int (tI 6), .ref ad_t_size, .ref ad_t_givenRow, .ref ad_t_givenColumn, .ref ad_t_newRow, .int (tI 11), .int (tI 12), .int (tI 13), .int (tI 14), .int (tI 15), .int (tI 16), .int (tI 17), .int (tI 18), .int (tI 19), .ref ad_t_view, .int (tI 21), .int (tI 22), .int (tI 23), .int (tI 24), .int (tI 25), .long t_value, .int (tI 27), .int (tI 28)])), (ad_t_all, .inl (G.2.1 0, 43047, .inl t_all)), (ad_t_size, .inl (G.2.1 0, 8, .inl o.2))])) A (F0 m 0 ls []) by rw [eH, eL] at hgo; exact hgo
  clear eH eL
  refine lv_aload_n hx hb dX11_unfit_0 rfl (lv_at hl 0 rfl) ?_
  refine va_get (D := G.1) (cl := vwCl) (ci := 11) (v := .ref ad_t_all) (C := RX11) (T := TX11) (N := 29) hx hb hts inG11 hown hK hP 0 rfl rfl 0 (Nat.le_of_ble_eq_true rfl) (hts _ q1041) (fun _ h9 => h9) rfl dX11_unfit_1 ?_
  refine lv_iload_n hx hb dX11_unfit_4 rfl (lv_at hl 1 rfl) ?_
  refine lv_iconst (v := 2) hx hb dX11_unfit_5 (by decide) ?_
  refine lv_iadd hx hb dX11_unfit_6 ?_
  obtain ⟨h21, hf⟩ := gd_some hf
  refine va_iald (D := G.1) (cl := vwCl) hx hb hK hP 1 0 rfl rfl (gi_in h21) dX11_unfit_7 ?_
  have J29_k22 : ∀  (H : Heap) (locs : List Loc) (ls : Array Slot), lv_has ls 4 [(0, .ref ad_t), (1, .int p0)] → va_P G.1 vwCl [(ad_t, .inr (11, [.ref ad_t_all, .ref ad_t_tape, .ref ad_t_isImage, .int (tI 3), .int (tI 4), .int (tI 5), .int (tI 6), .ref ad_t_size, .ref ad_t_givenRow, .ref ad_t_givenColumn, .ref ad_t_newRow, .int (tI 11), .int (tI 12), .int (tI 13), .int (tI 14), .int (tI 15), .int (tI 16), .int (tI 17), .int (tI 18), .int (tI 19), .ref ad_t_view, .int (tI 21), .int (tI 22), .int (tI 23), .int (tI 24), .int (tI 25), .long t_value, .int (tI 27), .int (tI 28)])), (ad_t_all, .inl (G.2.1 0, 43047, .inl t_all)), (ad_t_size, .inl (G.2.1 0, 8, .inl t_size))] H → va_D A [(ad_t, .inr (11, [.ref ad_t_all, .ref ad_t_tape, .ref ad_t_isImage, .int (tI 3), .int (tI 4), .int (tI 5), .int (tI 6), .ref ad_t_size, .ref ad_t_givenRow, .ref ad_t_givenColumn, .ref ad_t_newRow, .int (tI 11), .int (tI 12), .int (tI 13), .int (tI 14), .int (tI 15), .int (tI 16), .int (tI 17), .int (tI 18), .int (tI 19), .ref ad_t_view, .int (tI 21), .int (tI 22), .int (tI 23), .int (tI 24), .int (tI 25), .long t_value, .int (tI 27), .int (tI 28)])), (ad_t_all, .inl (G.2.1 0, 43047, .inl t_all)), (ad_t_size, .inl (G.2.1 0, 8, .inl t_size))] → va_S A s.heap H locs → fX11_unfit_j29 p0 t_all t_size = some o → wG p l e 12 282 s m [.ref ad_t, .int p0] below meth cd H locs (eQ G A (fun r w => r = (some (.int o.1)) ∧ w = [(ad_t, .inr (11, [.ref ad_t_all, .ref ad_t_tape, .ref ad_t_isImage, .int (tI 3), .int (tI 4), .int (tI 5), .int (tI 6), .ref ad_t_size, .ref ad_t_givenRow, .ref ad_t_givenColumn, .ref ad_t_newRow, .int (tI 11), .int (tI 12), .int (tI 13), .int (tI 14), .int (tI 15), .int (tI 16), .int (tI 17), .int (tI 18), .int (tI 19), .ref ad_t_view, .int (tI 21), .int (tI 22), .int (tI 23), .int (tI 24), .int (tI 25), .long t_value, .int (tI 27), .int (tI 28)])), (ad_t_all, .inl (G.2.1 0, 43047, .inl t_all)), (ad_t_size, .inl (G.2.1 0, 8, .inl o.2))])) A (F0 m 29 ls []) := by
    intro  H locs ls hl hP hD hS hf
    unfold fX11_unfit_j29 at hf
    refine lv_aload_n hx hb dX11_unfit_29 rfl (lv_at hl 0 rfl) ?_
    refine lv_iload_n hx hb dX11_unfit_30 rfl (lv_at hl 1 rfl) ?_
    obtain ⟨a23, h24, hf⟩ := bn_some hf
    refine kEV (tX11_mux l G ad_t ad_t_all ad_t_tape ad_t_isImage ad_t_size ad_t_givenRow ad_t_givenColumn ad_t_newRow ad_t_view tI t_value t_all t_size p0 a23 h24) ⟨hx, hb, hml, hown, hts⟩ q1163 q1165 q44 q108 q1166 okyX11_mux ⟨Nat.le_of_ble_eq_true rfl, Nat.le_of_ble_eq_true rfl⟩ hP hD hG hS hA [0, 1, 2] [] rfl (wr := []) rfl (by decide) 0 rfl rfl hl.1 rfl (Nat.le_of_ble_eq_true rfl) dX11_unfit_31 ⟨Nat.zero_le _, Nat.zero_le _⟩ (fun r w H locs hR hP hD hS => ?_)
    obtain ⟨rfl, rfl⟩ := hR
    have hP : va_P G.1 vwCl [(ad_t, .inr (11, [.ref ad_t_all, .ref ad_t_tape, .ref ad_t_isImage, .int (tI 3), .int (tI 4), .int (tI 5), .int (tI 6), .ref ad_t_size, .ref ad_t_givenRow, .ref ad_t_givenColumn, .ref ad_t_newRow, .int (tI 11), .int (tI 12), .int (tI 13), .int (tI 14), .int (tI 15), .int (tI 16), .int (tI 17), .int (tI 18), .int (tI 19), .ref ad_t_view, .int (tI 21), .int (tI 22), .int (tI 23), .int (tI 24), .int (tI 25), .long t_value, .int (tI 27), .int (tI 28)])), (ad_t_all, .inl (G.2.1 0, 43047, .inl t_all)), (ad_t_size, .inl (G.2.1 0, 8, .inl a23.2))] H := hP
    have hD : va_D A [(ad_t, .inr (11, [.ref ad_t_all, .ref ad_t_tape, .ref ad_t_isImage, .int (tI 3), .int (tI 4), .int (tI 5), .int (tI 6), .ref ad_t_size, .ref ad_t_givenRow, .ref ad_t_givenColumn, .ref ad_t_newRow, .int (tI 11), .int (tI 12), .int (tI 13), .int (tI 14), .int (tI 15), .int (tI 16), .int (tI 17), .int (tI 18), .int (tI 19), .ref ad_t_view, .int (tI 21), .int (tI 22), .int (tI 23), .int (tI 24), .int (tI 25), .long t_value, .int (tI 27), .int (tI 28)])), (ad_t_all, .inl (G.2.1 0, 43047, .inl t_all)), (ad_t_size, .inl (G.2.1 0, 8, .inl a23.2))] := hD
    refine W.eq (g2 := F0 m 34 ls [.int a23.1]) rfl ?_
    refine lv_istore_n (lv' := [(2, .int a23.1), (0, .ref ad_t), (1, .int p0)]) hx hb dX11_unfit_34 rfl hl (by decide) rfl (fun ls hl => ?_)
    refine lv_iconst (v := 0) hx hb dX11_unfit_35 (by decide) ?_
    refine lv_istore_n (lv' := [(3, .int (0 : Int32)), (2, .int a23.1), (0, .ref ad_t), (1, .int p0)]) hx hb dX11_unfit_36 rfl hl (by decide) rfl (fun ls hl => ?_)
    obtain ⟨y25, hLy25, hky25⟩ := bn_some hf
    have Ey25 : ∀ y25z, y25 = .inl y25z → ∀  (H : Heap) (locs : List Loc) (ls : Array Slot), lv_has ls 4 [] → va_P G.1 vwCl [(ad_t, .inr (11, [.ref ad_t_all, .ref ad_t_tape, .ref ad_t_isImage, .int (tI 3), .int (tI 4), .int (tI 5), .int (tI 6), .ref ad_t_size, .ref ad_t_givenRow, .ref ad_t_givenColumn, .ref ad_t_newRow, .int (tI 11), .int (tI 12), .int (tI 13), .int (tI 14), .int (tI 15), .int (tI 16), .int (tI 17), .int (tI 18), .int (tI 19), .ref ad_t_view, .int (tI 21), .int (tI 22), .int (tI 23), .int (tI 24), .int (tI 25), .long t_value, .int (tI 27), .int (tI 28)])), (ad_t_all, .inl (G.2.1 0, 43047, .inl t_all)), (ad_t_size, .inl (G.2.1 0, 8, .inl a23.2))] H → va_D A [(ad_t, .inr (11, [.ref ad_t_all, .ref ad_t_tape, .ref ad_t_isImage, .int (tI 3), .int (tI 4), .int (tI 5), .int (tI 6), .ref ad_t_size, .ref ad_t_givenRow, .ref ad_t_givenColumn, .ref ad_t_newRow, .int (tI 11), .int (tI 12), .int (tI 13), .int (tI 14), .int (tI 15), .int (tI 16), .int (tI 17), .int (tI 18), .int (tI 19), .ref ad_t_view, .int (tI 21), .int (tI 22), .int (tI 23), .int (tI 24), .int (tI 25), .long t_value, .int (tI 27), .int (tI 28)])), (ad_t_all, .inl (G.2.1 0, 43047, .inl t_all)), (ad_t_size, .inl (G.2.1 0, 8, .inl a23.2))] → va_S A s.heap H locs → wG p l e 12 282 s m [.ref ad_t, .int p0] below meth cd H locs (eQ G A (fun r w => r = (some (.int o.1)) ∧ w = [(ad_t, .inr (11, [.ref ad_t_all, .ref ad_t_tape, .ref ad_t_isImage, .int (tI 3), .int (tI 4), .int (tI 5), .int (tI 6), .ref ad_t_size, .ref ad_t_givenRow, .ref ad_t_givenColumn, .ref ad_t_newRow, .int (tI 11), .int (tI 12), .int (tI 13), .int (tI 14), .int (tI 15), .int (tI 16), .int (tI 17), .int (tI 18), .int (tI 19), .ref ad_t_view, .int (tI 21), .int (tI 22), .int (tI 23), .int (tI 24), .int (tI 25), .long t_value, .int (tI 27), .int (tI 28)])), (ad_t_all, .inl (G.2.1 0, 43047, .inl t_all)), (ad_t_size, .inl (G.2.1 0, 8, .inl o.2))])) A (F0 m 99 ls []) := by
      intro y25z ez
      intro  H locs ls hl hP hD hS
      subst ez
      have hf := hky25
      (try dsimp only at hf)
      refine lv_iconst (v := 0) hx hb dX11_unfit_99 (by decide) ?_
      have hf := Option.some.inj hf
      subst hf
      exact eRet hx hb hr hlocks hP hD hS ⟨rfl, rfl⟩ dX11_unfit_100
    have Ly25 : ∀ (n : Nat), ∀ (x26 : Int32) (H : Heap) (locs : List Loc) (ls : Array Slot), lv_has ls 4 [(3, .int x26), (2, .int a23.1), (0, .ref ad_t), (1, .int p0)] → va_P G.1 vwCl [(ad_t, .inr (11, [.ref ad_t_all, .ref ad_t_tape, .ref ad_t_isImage, .int (tI 3), .int (tI 4), .int (tI 5), .int (tI 6), .ref ad_t_size, .ref ad_t_givenRow, .ref ad_t_givenColumn, .ref ad_t_newRow, .int (tI 11), .int (tI 12), .int (tI 13), .int (tI 14), .int (tI 15), .int (tI 16), .int (tI 17), .int (tI 18), .int (tI 19), .ref ad_t_view, .int (tI 21), .int (tI 22), .int (tI 23), .int (tI 24), .int (tI 25), .long t_value, .int (tI 27), .int (tI 28)])), (ad_t_all, .inl (G.2.1 0, 43047, .inl t_all)), (ad_t_size, .inl (G.2.1 0, 8, .inl a23.2))] H → va_D A [(ad_t, .inr (11, [.ref ad_t_all, .ref ad_t_tape, .ref ad_t_isImage, .int (tI 3), .int (tI 4), .int (tI 5), .int (tI 6), .ref ad_t_size, .ref ad_t_givenRow, .ref ad_t_givenColumn, .ref ad_t_newRow, .int (tI 11), .int (tI 12), .int (tI 13), .int (tI 14), .int (tI 15), .int (tI 16), .int (tI 17), .int (tI 18), .int (tI 19), .ref ad_t_view, .int (tI 21), .int (tI 22), .int (tI 23), .int (tI 24), .int (tI 25), .long t_value, .int (tI 27), .int (tI 28)])), (ad_t_all, .inl (G.2.1 0, 43047, .inl t_all)), (ad_t_size, .inl (G.2.1 0, 8, .inl a23.2))] → va_S A s.heap H locs → fX11_unfit_l37 p0 a23.1 t_all a23.2 n x26 = some y25 → wG p l e 12 282 s m [.ref ad_t, .int p0] below meth cd H locs (eQ G A (fun r w => r = (some (.int o.1)) ∧ w = [(ad_t, .inr (11, [.ref ad_t_all, .ref ad_t_tape, .ref ad_t_isImage, .int (tI 3), .int (tI 4), .int (tI 5), .int (tI 6), .ref ad_t_size, .ref ad_t_givenRow, .ref ad_t_givenColumn, .ref ad_t_newRow, .int (tI 11), .int (tI 12), .int (tI 13), .int (tI 14), .int (tI 15), .int (tI 16), .int (tI 17), .int (tI 18), .int (tI 19), .ref ad_t_view, .int (tI 21), .int (tI 22), .int (tI 23), .int (tI 24), .int (tI 25), .long t_value, .int (tI 27), .int (tI 28)])), (ad_t_all, .inl (G.2.1 0, 43047, .inl t_all)), (ad_t_size, .inl (G.2.1 0, 8, .inl o.2))])) A (F0 m 37 ls []) := by
      intro n
      induction n with
      | zero =>
        intro x26 H locs ls hl hP hD hS hf
        rw [fX11_unfit_l37] at hf
        cases hf
      | succ n ih =>
        intro x26 H locs ls hl hP hD hS hf
        rw [fX11_unfit_l37] at hf
        refine lv_iload_n hx hb dX11_unfit_37 rfl (lv_at hl 0 rfl) ?_
        refine lv_aload_n hx hb dX11_unfit_38 rfl (lv_at hl 2 rfl) ?_
        refine va_get (D := G.1) (cl := vwCl) (ci := 11) (v := .ref ad_t_all) (C := RX11) (T := TX11) (N := 29) hx hb hts inG11 hown hK hP 0 rfl rfl 0 (Nat.le_of_ble_eq_true rfl) (hts _ q1041) (fun _ h9 => h9) rfl dX11_unfit_39 ?_
        refine lv_iload_n hx hb dX11_unfit_42 rfl (lv_at hl 3 rfl) ?_
        refine lv_bipush (v := 9) hx hb dX11_unfit_43 (by decide) ?_
        refine lv_iadd hx hb dX11_unfit_45 ?_
        obtain ⟨h27, hf⟩ := gd_some hf
        refine va_iald (D := G.1) (cl := vwCl) hx hb hK hP 1 0 rfl rfl (gi_in h27) dX11_unfit_46 ?_
        refine lv_icmp_ge (tgt := 99) hx hb dX11_unfit_47 (by decide) (fun c28 => ?_) (fun c28 => ?_)
        · have hf := if_t hf c28
          have hf := Option.some.inj hf
          subst hf
          exact Ey25 _ rfl H locs ls (lv_sub hl [] rfl) hP hD hS 
        · have hf := if_f hf c28
          refine lv_aload_n hx hb dX11_unfit_50 rfl (lv_at hl 2 rfl) ?_
          refine va_get (D := G.1) (cl := vwCl) (ci := 11) (v := .ref ad_t_all) (C := RX11) (T := TX11) (N := 29) hx hb hts inG11 hown hK hP 0 rfl rfl 0 (Nat.le_of_ble_eq_true rfl) (hts _ q1041) (fun _ h9 => h9) rfl dX11_unfit_51 ?_
          refine lv_iload_n hx hb dX11_unfit_54 rfl (lv_at hl 3 rfl) ?_
          refine lv_iload_n hx hb dX11_unfit_55 rfl (lv_at hl 0 rfl) ?_
          refine kPS (tX11_badOf l G p0 x26 _ rfl) ⟨hx, hb, hml, hown, hts⟩ q1257 q1258 q108 q1259 okyX11_badOf ⟨Nat.le_of_ble_eq_true rfl, Nat.le_of_ble_eq_true rfl⟩ hP hG hS [] rfl hl.1 rfl (Nat.le_of_ble_eq_true rfl) dX11_unfit_56 ⟨Nat.zero_le _, Nat.zero_le _⟩ (fun locs hS => ?_)
          refine W.eq (g2 := F0 m 59 ls [.int (fX11_badOf p0 x26), .ref ad_t_all]) rfl ?_
          obtain ⟨h29, hf⟩ := gd_some hf
          refine va_iald (D := G.1) (cl := vwCl) hx hb hK hP 1 0 rfl rfl (gi_in h29) dX11_unfit_59 ?_
          refine lv_aload_n hx hb dX11_unfit_60 rfl (lv_at hl 2 rfl) ?_
          refine lv_iload_n hx hb dX11_unfit_61 rfl (lv_at hl 3 rfl) ?_
          refine lv_iload_n hx hb dX11_unfit_62 rfl (lv_at hl 1 rfl) ?_
          obtain ⟨a30, h31, hf⟩ := bn_some hf
          refine kPV (tX11_rows l G ad_t ad_t_all ad_t_tape ad_t_isImage ad_t_size ad_t_givenRow ad_t_givenColumn ad_t_newRow ad_t_view tI t_value t_all p0 a23.1 a30 h31) ⟨hx, hb, hml, hown, hts⟩ q1159 q1161 q43 q108 q1162 okyX11_rows ⟨Nat.le_of_ble_eq_true rfl, Nat.le_of_ble_eq_true rfl⟩ hP hG hS [0, 1] rfl 0 rfl rfl hl.1 rfl (Nat.le_of_ble_eq_true rfl) dX11_unfit_63 ⟨Nat.zero_le _, Nat.zero_le _⟩ (fun locs hS => ?_)
          refine W.eq (g2 := F0 m 66 ls [.int a30, .int (t_all (fX11_badOf p0 x26).toNatClampNeg)]) rfl ?_
          refine lv_icmp_ge (tgt := 90) hx hb dX11_unfit_66 (by decide) (fun c32 => ?_) (fun c32 => ?_)
          · have hf := if_t hf c32
            refine lv_bipush (v := 6) hx hb dX11_unfit_90 (by decide) ?_
            have hf := Option.some.inj hf
            subst hf
            have hf := hky25
            (try dsimp only at hf)
            have hf := Option.some.inj hf
            subst hf
            exact eRet hx hb hr hlocks hP hD hS ⟨rfl, rfl⟩ dX11_unfit_92
          · have hf := if_f hf c32
            refine lv_aload_n hx hb dX11_unfit_69 rfl (lv_at hl 2 rfl) ?_
            refine va_get (D := G.1) (cl := vwCl) (ci := 11) (v := .ref ad_t_all) (C := RX11) (T := TX11) (N := 29) hx hb hts inG11 hown hK hP 0 rfl rfl 0 (Nat.le_of_ble_eq_true rfl) (hts _ q1041) (fun _ h9 => h9) rfl dX11_unfit_70 ?_
            refine lv_iload_n hx hb dX11_unfit_73 rfl (lv_at hl 3 rfl) ?_
            refine lv_iload_n hx hb dX11_unfit_74 rfl (lv_at hl 0 rfl) ?_
            refine kPS (tX11_badOf l G p0 x26 _ rfl) ⟨hx, hb, hml, hown, hts⟩ q1257 q1258 q108 q1259 okyX11_badOf ⟨Nat.le_of_ble_eq_true rfl, Nat.le_of_ble_eq_true rfl⟩ hP hG hS [] rfl hl.1 rfl (Nat.le_of_ble_eq_true rfl) dX11_unfit_75 ⟨Nat.zero_le _, Nat.zero_le _⟩ (fun locs hS => ?_)
            refine W.eq (g2 := F0 m 78 ls [.int (fX11_badOf p0 x26), .ref ad_t_all]) rfl ?_
            refine lv_iconst (v := 1) hx hb dX11_unfit_78 (by decide) ?_
            refine lv_iadd hx hb dX11_unfit_79 ?_
            obtain ⟨h33, hf⟩ := gd_some hf
            refine va_iald (D := G.1) (cl := vwCl) hx hb hK hP 1 0 rfl rfl (gi_in h33) dX11_unfit_80 ?_
            refine lv_aload_n hx hb dX11_unfit_81 rfl (lv_at hl 2 rfl) ?_
            refine lv_iload_n hx hb dX11_unfit_82 rfl (lv_at hl 3 rfl) ?_
            refine lv_iload_n hx hb dX11_unfit_83 rfl (lv_at hl 1 rfl) ?_
            obtain ⟨a34, h35, hf⟩ := bn_some hf
            refine kPV (tX11_columns l G ad_t ad_t_all ad_t_tape ad_t_isImage ad_t_size ad_t_givenRow ad_t_givenColumn ad_t_newRow ad_t_view tI t_value t_all p0 a23.1 a34 h35) ⟨hx, hb, hml, hown, hts⟩ q1217 q1219 q56 q108 q1220 okyX11_columns ⟨Nat.le_of_ble_eq_true rfl, Nat.le_of_ble_eq_true rfl⟩ hP hG hS [0, 1] rfl 0 rfl rfl hl.1 rfl (Nat.le_of_ble_eq_true rfl) dX11_unfit_84 ⟨Nat.zero_le _, Nat.zero_le _⟩ (fun locs hS => ?_)
            refine W.eq (g2 := F0 m 87 ls [.int a34, .int (t_all ((fX11_badOf p0 x26) + (1 : Int32)).toNatClampNeg)]) rfl ?_
            refine lv_icmp_lt (tgt := 93) hx hb dX11_unfit_87 (by decide) (fun c36 => ?_) (fun c36 => ?_)
            · have hf := if_t hf c36
              refine lv_iinc (v := (x26 + (1 : Int32))) (lv' := [(3, .int (x26 + (1 : Int32))), (2, .int a23.1), (0, .ref ad_t), (1, .int p0)]) hx hb dX11_unfit_93 hl (k := 0) rfl (ii_1 _) (by decide) rfl (fun ls hl => ?_)
              refine lv_goto (tgt := 37) hx hb dX11_unfit_96 (by decide) ?_
              exact ih (x26 + (1 : Int32)) H locs ls (lv_sub hl [0, 1, 2, 3] rfl) hP hD hS hf
            · have hf := if_f hf c36
              refine lv_bipush (v := 6) hx hb dX11_unfit_90 (by decide) ?_
              have hf := Option.some.inj hf
              subst hf
              have hf := hky25
              (try dsimp only at hf)
              have hf := Option.some.inj hf
              subst hf
              exact eRet hx hb hr hlocks hP hD hS ⟨rfl, rfl⟩ dX11_unfit_92
    exact Ly25 FU (0 : Int32) H locs ls (lv_sub hl [0, 1, 2, 3] rfl) hP hD hS hLy25
  refine lv_if_le (tgt := 29) hx hb dX11_unfit_8 (by decide) (fun c37 => ?_) (fun c37 => ?_)
  · have hf := if_t hf c37
    exact J29_k22  H locs ls (lv_sub hl [0, 1] rfl) hP hD hS hf
  · have hf := if_f hf c37
    refine lv_aload_n hx hb dX11_unfit_11 rfl (lv_at hl 0 rfl) ?_
    refine lv_iload_n hx hb dX11_unfit_12 rfl (lv_at hl 1 rfl) ?_
    refine lv_aload_n hx hb dX11_unfit_13 rfl (lv_at hl 0 rfl) ?_
    refine va_get (D := G.1) (cl := vwCl) (ci := 11) (v := .ref ad_t_all) (C := RX11) (T := TX11) (N := 29) hx hb hts inG11 hown hK hP 0 rfl rfl 0 (Nat.le_of_ble_eq_true rfl) (hts _ q1041) (fun _ h9 => h9) rfl dX11_unfit_14 ?_
    refine lv_iload_n hx hb dX11_unfit_17 rfl (lv_at hl 1 rfl) ?_
    refine lv_iconst (v := 2) hx hb dX11_unfit_18 (by decide) ?_
    refine lv_iadd hx hb dX11_unfit_19 ?_
    obtain ⟨h38, hf⟩ := gd_some hf
    refine va_iald (D := G.1) (cl := vwCl) hx hb hK hP 1 0 rfl rfl (gi_in h38) dX11_unfit_20 ?_
    obtain ⟨a39, h40, hf⟩ := bn_some hf
    refine kPV (tX11_isPossible l G ad_t ad_t_all ad_t_tape ad_t_isImage ad_t_size ad_t_givenRow ad_t_givenColumn ad_t_newRow ad_t_view tI t_value t_all p0 (t_all (p0 + (2 : Int32)).toNatClampNeg) a39 h40) ⟨hx, hb, hml, hown, hts⟩ q1155 q1157 q42 q108 q1158 okyX11_isPossible ⟨Nat.le_of_ble_eq_true rfl, Nat.le_of_ble_eq_true rfl⟩ hP hG hS [0, 1] rfl 0 rfl rfl hl.1 rfl (Nat.le_of_ble_eq_true rfl) dX11_unfit_21 ⟨Nat.zero_le _, Nat.zero_le _⟩ (fun locs hS => ?_)
    refine W.eq (g2 := F0 m 24 ls [.int (bi a39)]) rfl ?_
    refine lv_if_ne (tgt := 29) hx hb dX11_unfit_24 (by decide) (fun c41 => ?_) (fun c41 => ?_)
    · have hf := if_f hf c41
      exact J29_k22  H locs ls (lv_sub hl [0, 1] rfl) hP hD hS hf
    · have hf := if_t hf c41
      refine lv_iconst (v := 5) hx hb dX11_unfit_27 (by decide) ?_
      have hf := Option.some.inj hf
      subst hf
      exact eRet hx hb hr hlocks hP hD hS ⟨rfl, rfl⟩ dX11_unfit_28
