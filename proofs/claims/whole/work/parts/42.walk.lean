def fX9_ones_l15 (x3 : Int32) (tI : Nat → Int32) (t_repairI : Nat → Int32) (t_repair_rows : Nat → Int32) (t_repair_columns : Nat → Int32) (p0_specI : Nat → Int32) (p0_spec_badRows : Nat → Int32) (p0_spec_badColumns : Nat → Int32) (p0_spec_badBits : Nat → Int32) (p0_words : Nat → Int32) (p0_spares : Nat → Int32) : Nat → Int32 → Int32 → Option (Int32)
  | 0, _, _ => none
  | n + 1, x2, x4 =>
    (if x3 ≤ x4 then some x2 else bn (fX9_word tI t_repairI t_repair_rows t_repair_columns p0_specI p0_spec_badRows p0_spec_badColumns p0_spec_badBits p0_words p0_spares x4) fun a2 => fX9_ones_l15 x3 tI t_repairI t_repair_rows t_repair_columns p0_specI p0_spec_badRows p0_spec_badColumns p0_spec_badBits p0_words p0_spares n (x2 + (fJ6_bitCount_0f7a4 a2)) (x4 + (1 : Int32)))
def fX9_ones (tI : Nat → Int32) (t_repairI : Nat → Int32) (t_repair_rows : Nat → Int32) (t_repair_columns : Nat → Int32) (p0_specI : Nat → Int32) (p0_spec_numbers : Nat → Int32) (p0_spec_badRows : Nat → Int32) (p0_spec_badColumns : Nat → Int32) (p0_spec_badBits : Nat → Int32) (p0_words : Nat → Int32) (p0_spares : Nat → Int32) : Option (Int32) :=
  bn (fX9_ones_l15 (p0_spec_numbers 0) tI t_repairI t_repair_rows t_repair_columns p0_specI p0_spec_badRows p0_spec_badColumns p0_spec_badBits p0_words p0_spares FU (0 : Int32) (0 : Int32)) fun y4 => some y4
set_option maxRecDepth 100000 in
set_option maxHeartbeats 4000000 in
theorem tX9_ones (l : Launch) (G : gG) (ad_t ad_t_repair ad_t_repair_rows ad_t_repair_columns ad_t_repair_candidates ad_t_repair_left ad_p0 ad_p0_spec ad_p0_words ad_p0_spares ad_p0_spec_numbers ad_p0_spec_badRows ad_p0_spec_badColumns ad_p0_spec_badBits : Nat) (tI : Nat → Int32) (t_repairI : Nat → Int32) (t_repair_rows : Nat → Int32) (t_repair_columns : Nat → Int32) (p0_specI : Nat → Int32) (p0_spec_numbers : Nat → Int32) (p0_spec_badRows : Nat → Int32) (p0_spec_badColumns : Nat → Int32) (p0_spec_badBits : Nat → Int32) (p0_words : Nat → Int32) (p0_spares : Nat → Int32) (o : Int32) (hf : fX9_ones tI t_repairI t_repair_rows t_repair_columns p0_specI p0_spec_numbers p0_spec_badRows p0_spec_badColumns p0_spec_badBits p0_words p0_spares = some o) : mP G l yX9_ones cX9_ones 5 (some .int) 3 74 [.ref ad_t, .ref ad_p0] [(ad_t, .inr (9, [.ref ad_t_repair, .int (tI 1), .int (tI 2), .int (tI 3), .int (tI 4)])), (ad_t_repair, .inr (3, [.ref ad_t_repair_rows, .ref ad_t_repair_columns, .int (t_repairI 2), .int (t_repairI 3), .int (t_repairI 4), .int (t_repairI 5), .ref ad_t_repair_candidates, .ref ad_t_repair_left, .int (t_repairI 8)])), (ad_t_repair_rows, .inl (G.2.1 0, 4, .inl t_repair_rows)), (ad_t_repair_columns, .inl (G.2.1 0, 2, .inl t_repair_columns)), (ad_p0, .inr (0, [.ref ad_p0_spec, .ref ad_p0_words, .ref ad_p0_spares])), (ad_p0_spec, .inr (5, [.ref ad_p0_spec_numbers, .ref ad_p0_spec_badRows, .ref ad_p0_spec_badColumns, .ref ad_p0_spec_badBits, .int (p0_specI 4)])), (ad_p0_spec_numbers, .inl (G.2.1 0, 9, .inl p0_spec_numbers)), (ad_p0_spec_badRows, .inl (G.2.1 0, 12, .inl p0_spec_badRows)), (ad_p0_spec_badColumns, .inl (G.2.1 0, 12, .inl p0_spec_badColumns)), (ad_p0_spec_badBits, .inl (G.2.1 0, 12, .inl p0_spec_badBits)), (ad_p0_words, .inl (G.2.1 0, 1056, .inl p0_words)), (ad_p0_spares, .inl (G.2.1 0, 33, .inl p0_spares))] (some (.int o)) := by
  refine mP_of (by decide) (Nat.le_of_ble_eq_true rfl) ?_
  intro p e s m below meth cd ls hx hb hml hown hts hr hlocks hl hP hG
  have hK := hG.1
  have hown : s.vm.findClass RX9 = some m.cls := hown
  have hl : lv_has ls 5 [(0, .ref ad_t), (1, .ref ad_p0)] := hl
  have hS : va_S no s.heap s.heap [] := va_S.rf
  generalize ([] : List Loc) = locs at hS ⊢
  unfold fX9_ones at hf
  show wG p l e 3 74 s m [.ref ad_t, .ref ad_p0] below meth cd s.heap locs (pQ (some (.int o))) no (F0 m 0 ls [])
  refine lv_iconst (v := 0) hx hb dX9_ones_0 (by decide) ?_
  refine lv_istore_n (lv' := [(2, .int (0 : Int32)), (0, .ref ad_t), (1, .ref ad_p0)]) hx hb dX9_ones_1 rfl hl (by decide) rfl (fun ls hl => ?_)
  refine lv_aload_n hx hb dX9_ones_2 rfl (lv_at hl 2 rfl) ?_
  refine va_get (D := G.1) (cl := vwCl) (ci := 0) (v := .ref ad_p0_spec) (C := RX0) (T := TX0) (N := 3) hx hb hts inG0 hown hK hP 4 rfl rfl 0 (Nat.le_of_ble_eq_true rfl) (hts _ q189) (fun _ h9 => h9) rfl dX9_ones_3 ?_
  refine va_get (D := G.1) (cl := vwCl) (ci := 5) (v := .ref ad_p0_spec_numbers) (C := RX5) (T := TX5) (N := 5) hx hb hts inG5 hown hK hP 5 rfl rfl 0 (Nat.le_of_ble_eq_true rfl) (hts _ q150) (fun _ h9 => h9) rfl dX9_ones_6 ?_
  refine lv_iconst (v := 0) hx hb dX9_ones_9 (by decide) ?_
  refine va_iald (D := G.1) (cl := vwCl) hx hb hK hP 6 0 rfl rfl (vin (by decide)) dX9_ones_10 ?_
  refine lv_ti (v := (p0_spec_numbers 0)) (congrArg (p0_spec_numbers) (tn 0)) ?_
  refine lv_istore_n (lv' := [(3, .int (p0_spec_numbers 0)), (2, .int (0 : Int32)), (0, .ref ad_t), (1, .ref ad_p0)]) hx hb dX9_ones_11 rfl hl (by decide) rfl (fun ls hl => ?_)
  refine lv_iconst (v := 0) hx hb dX9_ones_12 (by decide) ?_
  refine lv_istore (lv' := [(4, .int (0 : Int32)), (3, .int (p0_spec_numbers 0)), (2, .int (0 : Int32)), (0, .ref ad_t), (1, .ref ad_p0)]) hx hb dX9_ones_13 hl (by decide) rfl (fun ls hl => ?_)
  obtain ⟨y5, hLy5, hky5⟩ := bn_some hf
  have Ey5 : ∀  (locs : List Loc) (ls : Array Slot), lv_has ls 5 [(2, .int y5)] → va_S no s.heap s.heap locs → wG p l e 3 74 s m [.ref ad_t, .ref ad_p0] below meth cd s.heap locs (pQ (some (.int o))) no (F0 m 40 ls []) := by
    intro  locs ls hl hS
    have hf := hky5
    refine lv_iload_n hx hb dX9_ones_40 rfl (lv_at hl 0 rfl) ?_
    have hf := Option.some.inj hf
    subst hf
    exact pRet hx hb hr hlocks hS dX9_ones_41
  have Ly5 : ∀ (n : Nat), ∀ (x6 : Int32) (x7 : Int32) (locs : List Loc) (ls : Array Slot), lv_has ls 5 [(4, .int x7), (3, .int (p0_spec_numbers 0)), (2, .int x6), (0, .ref ad_t), (1, .ref ad_p0)] → va_S no s.heap s.heap locs → fX9_ones_l15 (p0_spec_numbers 0) tI t_repairI t_repair_rows t_repair_columns p0_specI p0_spec_badRows p0_spec_badColumns p0_spec_badBits p0_words p0_spares n x6 x7 = some y5 → wG p l e 3 74 s m [.ref ad_t, .ref ad_p0] below meth cd s.heap locs (pQ (some (.int o))) no (F0 m 15 ls []) := by
    intro n
    induction n with
    | zero =>
      intro x6 x7 locs ls hl hS hf
      rw [fX9_ones_l15] at hf
      cases hf
    | succ n ih =>
      intro x6 x7 locs ls hl hS hf
      rw [fX9_ones_l15] at hf
      refine lv_iload hx hb dX9_ones_15 (lv_at hl 0 rfl) ?_
      refine lv_iload_n hx hb dX9_ones_17 rfl (lv_at hl 1 rfl) ?_
      refine lv_icmp_ge (tgt := 40) hx hb dX9_ones_18 (by decide) (fun c8 => ?_) (fun c8 => ?_)
      · have hf := if_t hf c8
        have hf := Option.some.inj hf
        subst hf
        exact Ey5  locs ls (lv_sub hl [2] rfl) hS 
      · have hf := if_f hf c8
        refine lv_iload_n hx hb dX9_ones_21 rfl (lv_at hl 2 rfl) ?_
        refine lv_aload_n hx hb dX9_ones_22 rfl (lv_at hl 3 rfl) ?_
        refine lv_aload_n hx hb dX9_ones_23 rfl (lv_at hl 4 rfl) ?_
        refine lv_iload hx hb dX9_ones_24 (lv_at hl 0 rfl) ?_
        obtain ⟨a9, h10, hf⟩ := bn_some hf
        refine kPV (tX9_word l G ad_t ad_t_repair ad_t_repair_rows ad_t_repair_columns ad_t_repair_candidates ad_t_repair_left ad_p0 ad_p0_spec ad_p0_words ad_p0_spares ad_p0_spec_numbers ad_p0_spec_badRows ad_p0_spec_badColumns ad_p0_spec_badBits tI t_repairI t_repair_rows t_repair_columns p0_specI p0_spec_badRows p0_spec_badColumns p0_spec_badBits p0_words p0_spares x7 a9 h10) ⟨hx, hb, hml, hown, hts⟩ q891 q892 q893 q101 q894 okyX9_word ⟨Nat.le_of_ble_eq_true rfl, Nat.le_of_ble_eq_true rfl⟩ hP hG hS [0, 1, 2, 3, 4, 5, 7, 8, 9, 10, 11] rfl 0 rfl rfl hl.1 rfl (Nat.le_of_ble_eq_true rfl) dX9_ones_26 ⟨Nat.zero_le _, Nat.zero_le _⟩ (fun locs hS => ?_)
        refine W.eq (g2 := F0 m 29 ls [.int a9, .int x6]) rfl ?_
        refine kPS (tJ6_bitCount_0f7a4 l G a9 _ rfl) ⟨hx, hb, hml, hown, hts⟩ q903 q490 q106 q491 okyJ6_bitCount_0f7a4 ⟨Nat.le_of_ble_eq_true rfl, Nat.le_of_ble_eq_true rfl⟩ hP hG hS [] rfl hl.1 rfl (Nat.le_of_ble_eq_true rfl) dX9_ones_29 ⟨Nat.zero_le _, Nat.zero_le _⟩ (fun locs hS => ?_)
        refine W.eq (g2 := F0 m 32 ls [.int (fJ6_bitCount_0f7a4 a9), .int x6]) rfl ?_
        refine lv_iadd hx hb dX9_ones_32 ?_
        refine lv_istore_n (lv' := [(2, .int (x6 + (fJ6_bitCount_0f7a4 a9))), (4, .int x7), (3, .int (p0_spec_numbers 0)), (0, .ref ad_t), (1, .ref ad_p0)]) hx hb dX9_ones_33 rfl hl (by decide) rfl (fun ls hl => ?_)
        refine lv_iinc (v := (x7 + (1 : Int32))) (lv' := [(4, .int (x7 + (1 : Int32))), (2, .int (x6 + (fJ6_bitCount_0f7a4 a9))), (3, .int (p0_spec_numbers 0)), (0, .ref ad_t), (1, .ref ad_p0)]) hx hb dX9_ones_34 hl (k := 1) rfl (ii_1 _) (by decide) rfl (fun ls hl => ?_)
        refine lv_goto (tgt := 15) hx hb dX9_ones_37 (by decide) ?_
        exact ih (x6 + (fJ6_bitCount_0f7a4 a9)) (x7 + (1 : Int32)) locs ls (lv_sub hl [0, 2, 1, 3, 4] rfl) hS hf
  exact Ly5 FU (0 : Int32) (0 : Int32) locs ls (lv_sub hl [0, 1, 2, 3, 4] rfl) hS hLy5

def fX10_count_j28 (x1 : Int32) (t_now_memory_specI : Nat → Int32) (t_now_memory_spec_numbers : Nat → Int32) (t_now_memory_spec_badRows : Nat → Int32) (t_now_memory_spec_badColumns : Nat → Int32) (t_now_memory_spec_badBits : Nat → Int32) (t_now_memory_words : Nat → Int32) (t_now_memory_spares : Nat → Int32) (t_now_tapeI : Nat → Int32) (t_pastI : Nat → Int32) (t_wiringI : Nat → Int32) (t_wiring_repairI : Nat → Int32) (t_wiring_repair_rows : Nat → Int32) (t_wiring_repair_columns : Nat → Int32) : Option (Int32) :=
  (if x1 = (9 : Int32) then some (t_now_memory_specI 4) else (if x1 = (10 : Int32) then some (t_wiringI 1) else (if x1 = (11 : Int32) then some (if (t_wiring_repairI 4) = 0 then (0 : Int32) else (1 : Int32)) else (if x1 = (12 : Int32) then some (t_wiring_repairI 2) else (if x1 = (13 : Int32) then some (t_wiring_repairI 3) else (if x1 = (14 : Int32) then bn (fX9_ones t_wiringI t_wiring_repairI t_wiring_repair_rows t_wiring_repair_columns t_now_memory_specI t_now_memory_spec_numbers t_now_memory_spec_badRows t_now_memory_spec_badColumns t_now_memory_spec_badBits t_now_memory_words t_now_memory_spares) fun a9 => some a9 else (if x1 = (15 : Int32) then some (t_pastI 2) else (if x1 = (16 : Int32) then some (t_now_tapeI 1) else (if x1 = (17 : Int32) then bn (fX9_wrong t_wiring_repairI t_now_memory_specI t_now_memory_spec_badBits (0 : Int32)) fun a14 => bn (fX9_wrong t_wiring_repairI t_now_memory_specI t_now_memory_spec_badBits (1 : Int32)) fun a16 => some (a14 + a16) else some (-1 : Int32))))))))))
def fX10_count (t_now_memory_specI : Nat → Int32) (t_now_memory_spec_numbers : Nat → Int32) (t_now_memory_spec_badRows : Nat → Int32) (t_now_memory_spec_badColumns : Nat → Int32) (t_now_memory_spec_badBits : Nat → Int32) (t_now_memory_words : Nat → Int32) (t_now_memory_spares : Nat → Int32) (t_now_tapeI : Nat → Int32) (t_pastI : Nat → Int32) (t_wiringI : Nat → Int32) (t_wiring_repairI : Nat → Int32) (t_wiring_repair_rows : Nat → Int32) (t_wiring_repair_columns : Nat → Int32) (p0 : Int32) : Option (Int32) :=
  (if p0 < 0 then fX10_count_j28 p0 t_now_memory_specI t_now_memory_spec_numbers t_now_memory_spec_badRows t_now_memory_spec_badColumns t_now_memory_spec_badBits t_now_memory_words t_now_memory_spares t_now_tapeI t_pastI t_wiringI t_wiring_repairI t_wiring_repair_rows t_wiring_repair_columns else (if (9 : Int32) ≤ p0 then fX10_count_j28 p0 t_now_memory_specI t_now_memory_spec_numbers t_now_memory_spec_badRows t_now_memory_spec_badColumns t_now_memory_spec_badBits t_now_memory_words t_now_memory_spares t_now_tapeI t_pastI t_wiringI t_wiring_repairI t_wiring_repair_rows t_wiring_repair_columns else gd (gi p0 9) (some (t_now_memory_spec_numbers p0.toNatClampNeg))))
set_option maxRecDepth 100000 in
set_option maxHeartbeats 4000000 in
theorem tX10_count (l : Launch) (G : gG) (ad_t ad_t_now ad_t_images ad_t_past ad_t_wiring ad_t_form ad_t_trial ad_t_reader ad_t_text ad_t_now_memory ad_t_now_tape ad_t_now_memory_spec ad_t_now_memory_words ad_t_now_memory_spares ad_t_now_memory_spec_numbers ad_t_now_memory_spec_badRows ad_t_now_memory_spec_badColumns ad_t_now_memory_spec_badBits ad_t_now_tape_bytes ad_t_past_ring ad_t_wiring_repair ad_t_wiring_repair_rows ad_t_wiring_repair_columns ad_t_wiring_repair_candidates ad_t_wiring_repair_left : Nat) (t_nowI : Nat → Int32) (t_now_memory_specI : Nat → Int32) (t_now_memory_spec_numbers : Nat → Int32) (t_now_memory_spec_badRows : Nat → Int32) (t_now_memory_spec_badColumns : Nat → Int32) (t_now_memory_spec_badBits : Nat → Int32) (t_now_memory_words : Nat → Int32) (t_now_memory_spares : Nat → Int32) (t_now_tapeI : Nat → Int32) (t_pastI : Nat → Int32) (t_wiringI : Nat → Int32) (t_wiring_repairI : Nat → Int32) (t_wiring_repair_rows : Nat → Int32) (t_wiring_repair_columns : Nat → Int32) (p0 : Int32) (o : Int32) (hf : fX10_count t_now_memory_specI t_now_memory_spec_numbers t_now_memory_spec_badRows t_now_memory_spec_badColumns t_now_memory_spec_badBits t_now_memory_words t_now_memory_spares t_now_tapeI t_pastI t_wiringI t_wiring_repairI t_wiring_repair_rows t_wiring_repair_columns p0 = some o) : mP G l yX10_count cX10_count 3 (some .int) 4 98 [.ref ad_t, .int p0] [(ad_t, .inr (10, [.ref ad_t_now, .ref ad_t_images, .ref ad_t_past, .ref ad_t_wiring, .ref ad_t_form, .ref ad_t_trial, .ref ad_t_reader, .ref ad_t_text])), (ad_t_now, .inr (6, [.ref ad_t_now_memory, .ref ad_t_now_tape, .int (t_nowI 2), .int (t_nowI 3), .int (t_nowI 4), .int (t_nowI 5), .int (t_nowI 6)])), (ad_t_now_memory, .inr (0, [.ref ad_t_now_memory_spec, .ref ad_t_now_memory_words, .ref ad_t_now_memory_spares])), (ad_t_now_memory_spec, .inr (5, [.ref ad_t_now_memory_spec_numbers, .ref ad_t_now_memory_spec_badRows, .ref ad_t_now_memory_spec_badColumns, .ref ad_t_now_memory_spec_badBits, .int (t_now_memory_specI 4)])), (ad_t_now_memory_spec_numbers, .inl (G.2.1 0, 9, .inl t_now_memory_spec_numbers)), (ad_t_now_memory_spec_badRows, .inl (G.2.1 0, 12, .inl t_now_memory_spec_badRows)), (ad_t_now_memory_spec_badColumns, .inl (G.2.1 0, 12, .inl t_now_memory_spec_badColumns)), (ad_t_now_memory_spec_badBits, .inl (G.2.1 0, 12, .inl t_now_memory_spec_badBits)), (ad_t_now_memory_words, .inl (G.2.1 0, 1056, .inl t_now_memory_words)), (ad_t_now_memory_spares, .inl (G.2.1 0, 33, .inl t_now_memory_spares)), (ad_t_now_tape, .inr (7, [.ref ad_t_now_tape_bytes, .int (t_now_tapeI 1)])), (ad_t_past, .inr (1, [.ref ad_t_past_ring, .int (t_pastI 1), .int (t_pastI 2)])), (ad_t_wiring, .inr (9, [.ref ad_t_wiring_repair, .int (t_wiringI 1), .int (t_wiringI 2), .int (t_wiringI 3), .int (t_wiringI 4)])), (ad_t_wiring_repair, .inr (3, [.ref ad_t_wiring_repair_rows, .ref ad_t_wiring_repair_columns, .int (t_wiring_repairI 2), .int (t_wiring_repairI 3), .int (t_wiring_repairI 4), .int (t_wiring_repairI 5), .ref ad_t_wiring_repair_candidates, .ref ad_t_wiring_repair_left, .int (t_wiring_repairI 8)])), (ad_t_wiring_repair_rows, .inl (G.2.1 0, 4, .inl t_wiring_repair_rows)), (ad_t_wiring_repair_columns, .inl (G.2.1 0, 2, .inl t_wiring_repair_columns))] (some (.int o)) := by
  refine mP_of (by decide) (Nat.le_of_ble_eq_true rfl) ?_
  intro p e s m below meth cd ls hx hb hml hown hts hr hlocks hl hP hG
  have hK := hG.1
  have hown : s.vm.findClass RX10 = some m.cls := hown
  have hl : lv_has ls 3 [(0, .ref ad_t), (1, .int p0)] := hl
  have hS : va_S no s.heap s.heap [] := va_S.rf
  generalize ([] : List Loc) = locs at hS ⊢
  unfold fX10_count at hf
  show wG p l e 4 98 s m [.ref ad_t, .int p0] below meth cd s.heap locs (pQ (some (.int o))) no (F0 m 0 ls [])
  refine lv_aload_n hx hb dX10_count_0 rfl (lv_at hl 0 rfl) ?_
  refine va_get (D := G.1) (cl := vwCl) (ci := 10) (v := .ref ad_t_now) (C := RX10) (T := TX10) (N := 8) hx hb hts inG10 hown hK hP 0 rfl rfl 0 (Nat.le_of_ble_eq_true rfl) (hts _ q560) (fun _ h9 => h9) rfl dX10_count_1 ?_
  refine va_get (D := G.1) (cl := vwCl) (ci := 6) (v := .ref ad_t_now_memory) (C := RX6) (T := TX6) (N := 7) hx hb hts inG6 hown hK hP 1 rfl rfl 0 (Nat.le_of_ble_eq_true rfl) (hts _ q218) (fun _ h9 => h9) rfl dX10_count_4 ?_
  refine va_get (D := G.1) (cl := vwCl) (ci := 0) (v := .ref ad_t_now_memory_spec) (C := RX0) (T := TX0) (N := 3) hx hb hts inG0 hown hK hP 2 rfl rfl 0 (Nat.le_of_ble_eq_true rfl) (hts _ q188) (fun _ h9 => h9) rfl dX10_count_7 ?_
  refine lv_astore_n (lv' := [(2, .ref ad_t_now_memory_spec), (0, .ref ad_t), (1, .int p0)]) hx hb dX10_count_10 rfl hl (by decide) rfl (fun ls hl => ?_)
  refine lv_iload_n hx hb dX10_count_11 rfl (lv_at hl 2 rfl) ?_
  have J28_k22 : ∀  (locs : List Loc) (ls : Array Slot), lv_has ls 3 [(0, .ref ad_t), (1, .int p0), (2, .ref ad_t_now_memory_spec)] → va_S no s.heap s.heap locs → fX10_count_j28 p0 t_now_memory_specI t_now_memory_spec_numbers t_now_memory_spec_badRows t_now_memory_spec_badColumns t_now_memory_spec_badBits t_now_memory_words t_now_memory_spares t_now_tapeI t_pastI t_wiringI t_wiring_repairI t_wiring_repair_rows t_wiring_repair_columns = some o → wG p l e 4 98 s m [.ref ad_t, .int p0] below meth cd s.heap locs (pQ (some (.int o))) no (F0 m 28 ls []) := by
    intro  locs ls hl hS hf
    unfold fX10_count_j28 at hf
    refine lv_iload_n hx hb dX10_count_28 rfl (lv_at hl 1 rfl) ?_
    by_cases c23 : p0 = (9 : Int32)
    · have hf := if_t hf c23
      refine lv_tableIn (off := 51) (tgt := 80) hx hb dX10_count_29 (by rw [c23]; decide) (by rw [c23]; decide) (by rw [c23]; decide) (by decide) ?_
      refine lv_aload_n hx hb dX10_count_80 rfl (lv_at hl 2 rfl) ?_
      refine va_get (D := G.1) (cl := vwCl) (ci := 5) (v := .int (t_now_memory_specI 4)) (C := RX5) (T := TX5) (N := 5) hx hb hts inG5 hown hK hP 3 rfl rfl 4 (Nat.le_of_ble_eq_true rfl) (hts _ q173) (fun _ h9 => h9) rfl dX10_count_81 ?_
      have hf := Option.some.inj hf
      subst hf
      exact pRet hx hb hr hlocks hS dX10_count_84
    · have hf := if_f hf c23
      by_cases c24 : p0 = (10 : Int32)
      · have hf := if_t hf c24
        refine lv_tableIn (off := 56) (tgt := 85) hx hb dX10_count_29 (by rw [c24]; decide) (by rw [c24]; decide) (by rw [c24]; decide) (by decide) ?_
        refine lv_aload_n hx hb dX10_count_85 rfl (lv_at hl 0 rfl) ?_
        refine va_get (D := G.1) (cl := vwCl) (ci := 10) (v := .ref ad_t_wiring) (C := RX10) (T := TX10) (N := 8) hx hb hts inG10 hown hK hP 0 rfl rfl 3 (Nat.le_of_ble_eq_true rfl) (hts _ q563) (fun _ h9 => h9) rfl dX10_count_86 ?_
        refine va_get (D := G.1) (cl := vwCl) (ci := 9) (v := .int (t_wiringI 1)) (C := RX9) (T := TX9) (N := 5) hx hb hts inG9 hown hK hP 12 rfl rfl 1 (Nat.le_of_ble_eq_true rfl) (hts _ q322) (fun _ h9 => h9) rfl dX10_count_89 ?_
        have hf := Option.some.inj hf
        subst hf
        exact pRet hx hb hr hlocks hS dX10_count_92
      · have hf := if_f hf c24
        by_cases c25 : p0 = (11 : Int32)
        · have hf := if_t hf c25
          refine lv_tableIn (off := 64) (tgt := 93) hx hb dX10_count_29 (by rw [c25]; decide) (by rw [c25]; decide) (by rw [c25]; decide) (by decide) ?_
          refine lv_aload_n hx hb dX10_count_93 rfl (lv_at hl 0 rfl) ?_
          refine va_get (D := G.1) (cl := vwCl) (ci := 10) (v := .ref ad_t_wiring) (C := RX10) (T := TX10) (N := 8) hx hb hts inG10 hown hK hP 0 rfl rfl 3 (Nat.le_of_ble_eq_true rfl) (hts _ q563) (fun _ h9 => h9) rfl dX10_count_94 ?_
          refine va_get (D := G.1) (cl := vwCl) (ci := 9) (v := .ref ad_t_wiring_repair) (C := RX9) (T := TX9) (N := 5) hx hb hts inG9 hown hK hP 12 rfl rfl 0 (Nat.le_of_ble_eq_true rfl) (hts _ q320) (fun _ h9 => h9) rfl dX10_count_97 ?_
          refine va_get (D := G.1) (cl := vwCl) (ci := 3) (v := .int (t_wiring_repairI 4)) (C := RX3) (T := TX3) (N := 9) hx hb hts inG3 hown hK hP 13 rfl rfl 4 (Nat.le_of_ble_eq_true rfl) (hts _ q294) (fun _ h9 => h9) rfl dX10_count_100 ?_
          have J26 : wG p l e 4 98 s m [.ref ad_t, .int p0] below meth cd s.heap locs (pQ (some (.int o))) no (F0 m 111 ls [.int (if (t_wiring_repairI 4) = 0 then (0 : Int32) else (1 : Int32))]) := by
            have hf := Option.some.inj hf
            subst hf
            exact pRet hx hb hr hlocks hS dX10_count_111
          refine lv_if_eq (tgt := 110) hx hb dX10_count_103 (by decide) (fun c27 => ?_) (fun c27 => ?_)
          · refine lv_iconst (v := 0) hx hb dX10_count_110 (by decide) ?_
            exact (mgT c27 J26)
          · refine lv_iconst (v := 1) hx hb dX10_count_106 (by decide) ?_
            refine lv_goto (tgt := 111) hx hb dX10_count_107 (by decide) ?_
            exact (mgF c27 J26)
        · have hf := if_f hf c25
          by_cases c28 : p0 = (12 : Int32)
          · have hf := if_t hf c28
            refine lv_tableIn (off := 83) (tgt := 112) hx hb dX10_count_29 (by rw [c28]; decide) (by rw [c28]; decide) (by rw [c28]; decide) (by decide) ?_
            refine lv_aload_n hx hb dX10_count_112 rfl (lv_at hl 0 rfl) ?_
            refine va_get (D := G.1) (cl := vwCl) (ci := 10) (v := .ref ad_t_wiring) (C := RX10) (T := TX10) (N := 8) hx hb hts inG10 hown hK hP 0 rfl rfl 3 (Nat.le_of_ble_eq_true rfl) (hts _ q563) (fun _ h9 => h9) rfl dX10_count_113 ?_
            refine va_get (D := G.1) (cl := vwCl) (ci := 9) (v := .ref ad_t_wiring_repair) (C := RX9) (T := TX9) (N := 5) hx hb hts inG9 hown hK hP 12 rfl rfl 0 (Nat.le_of_ble_eq_true rfl) (hts _ q320) (fun _ h9 => h9) rfl dX10_count_116 ?_
            refine va_get (D := G.1) (cl := vwCl) (ci := 3) (v := .int (t_wiring_repairI 2)) (C := RX3) (T := TX3) (N := 9) hx hb hts inG3 hown hK hP 13 rfl rfl 2 (Nat.le_of_ble_eq_true rfl) (hts _ q287) (fun _ h9 => h9) rfl dX10_count_119 ?_
            have hf := Option.some.inj hf
            subst hf
            exact pRet hx hb hr hlocks hS dX10_count_122
          · have hf := if_f hf c28
            by_cases c29 : p0 = (13 : Int32)
            · have hf := if_t hf c29
              refine lv_tableIn (off := 94) (tgt := 123) hx hb dX10_count_29 (by rw [c29]; decide) (by rw [c29]; decide) (by rw [c29]; decide) (by decide) ?_
              refine lv_aload_n hx hb dX10_count_123 rfl (lv_at hl 0 rfl) ?_
              refine va_get (D := G.1) (cl := vwCl) (ci := 10) (v := .ref ad_t_wiring) (C := RX10) (T := TX10) (N := 8) hx hb hts inG10 hown hK hP 0 rfl rfl 3 (Nat.le_of_ble_eq_true rfl) (hts _ q563) (fun _ h9 => h9) rfl dX10_count_124 ?_
              refine va_get (D := G.1) (cl := vwCl) (ci := 9) (v := .ref ad_t_wiring_repair) (C := RX9) (T := TX9) (N := 5) hx hb hts inG9 hown hK hP 12 rfl rfl 0 (Nat.le_of_ble_eq_true rfl) (hts _ q320) (fun _ h9 => h9) rfl dX10_count_127 ?_
              refine va_get (D := G.1) (cl := vwCl) (ci := 3) (v := .int (t_wiring_repairI 3)) (C := RX3) (T := TX3) (N := 9) hx hb hts inG3 hown hK hP 13 rfl rfl 3 (Nat.le_of_ble_eq_true rfl) (hts _ q291) (fun _ h9 => h9) rfl dX10_count_130 ?_
              have hf := Option.some.inj hf
              subst hf
              exact pRet hx hb hr hlocks hS dX10_count_133
            · have hf := if_f hf c29
              by_cases c30 : p0 = (14 : Int32)
              · have hf := if_t hf c30
                refine lv_tableIn (off := 105) (tgt := 134) hx hb dX10_count_29 (by rw [c30]; decide) (by rw [c30]; decide) (by rw [c30]; decide) (by decide) ?_
                refine lv_aload_n hx hb dX10_count_134 rfl (lv_at hl 0 rfl) ?_
                refine va_get (D := G.1) (cl := vwCl) (ci := 10) (v := .ref ad_t_wiring) (C := RX10) (T := TX10) (N := 8) hx hb hts inG10 hown hK hP 0 rfl rfl 3 (Nat.le_of_ble_eq_true rfl) (hts _ q563) (fun _ h9 => h9) rfl dX10_count_135 ?_
                refine lv_aload_n hx hb dX10_count_138 rfl (lv_at hl 0 rfl) ?_
                refine va_get (D := G.1) (cl := vwCl) (ci := 10) (v := .ref ad_t_now) (C := RX10) (T := TX10) (N := 8) hx hb hts inG10 hown hK hP 0 rfl rfl 0 (Nat.le_of_ble_eq_true rfl) (hts _ q560) (fun _ h9 => h9) rfl dX10_count_139 ?_
                refine va_get (D := G.1) (cl := vwCl) (ci := 6) (v := .ref ad_t_now_memory) (C := RX6) (T := TX6) (N := 7) hx hb hts inG6 hown hK hP 1 rfl rfl 0 (Nat.le_of_ble_eq_true rfl) (hts _ q218) (fun _ h9 => h9) rfl dX10_count_142 ?_
                obtain ⟨a31, h32, hf⟩ := bn_some hf
                refine kPV (tX9_ones l G ad_t_wiring ad_t_wiring_repair ad_t_wiring_repair_rows ad_t_wiring_repair_columns ad_t_wiring_repair_candidates ad_t_wiring_repair_left ad_t_now_memory ad_t_now_memory_spec ad_t_now_memory_words ad_t_now_memory_spares ad_t_now_memory_spec_numbers ad_t_now_memory_spec_badRows ad_t_now_memory_spec_badColumns ad_t_now_memory_spec_badBits t_wiringI t_wiring_repairI t_wiring_repair_rows t_wiring_repair_columns t_now_memory_specI t_now_memory_spec_numbers t_now_memory_spec_badRows t_now_memory_spec_badColumns t_now_memory_spec_badBits t_now_memory_words t_now_memory_spares a31 h32) ⟨hx, hb, hml, hown, hts⟩ q887 q888 q889 q101 q890 okyX9_ones ⟨Nat.le_of_ble_eq_true rfl, Nat.le_of_ble_eq_true rfl⟩ hP hG hS [12, 13, 14, 15, 2, 3, 4, 5, 6, 7, 8, 9] rfl 12 rfl rfl hl.1 rfl (Nat.le_of_ble_eq_true rfl) dX10_count_145 ⟨Nat.zero_le _, Nat.zero_le _⟩ (fun locs hS => ?_)
                refine W.eq (g2 := F0 m 148 ls [.int a31]) rfl ?_
                have hf := Option.some.inj hf
                subst hf
                exact pRet hx hb hr hlocks hS dX10_count_148
              · have hf := if_f hf c30
                by_cases c33 : p0 = (15 : Int32)
                · have hf := if_t hf c33
                  refine lv_tableIn (off := 120) (tgt := 149) hx hb dX10_count_29 (by rw [c33]; decide) (by rw [c33]; decide) (by rw [c33]; decide) (by decide) ?_
                  refine lv_aload_n hx hb dX10_count_149 rfl (lv_at hl 0 rfl) ?_
                  refine va_get (D := G.1) (cl := vwCl) (ci := 10) (v := .ref ad_t_past) (C := RX10) (T := TX10) (N := 8) hx hb hts inG10 hown hK hP 0 rfl rfl 2 (Nat.le_of_ble_eq_true rfl) (hts _ q562) (fun _ h9 => h9) rfl dX10_count_150 ?_
                  refine va_get (D := G.1) (cl := vwCl) (ci := 1) (v := .int (t_pastI 2)) (C := RX1) (T := TX1) (N := 3) hx hb hts inG1 hown hK hP 11 rfl rfl 2 (Nat.le_of_ble_eq_true rfl) (hts _ q258) (fun _ h9 => h9) rfl dX10_count_153 ?_
                  have hf := Option.some.inj hf
                  subst hf
                  exact pRet hx hb hr hlocks hS dX10_count_156
                · have hf := if_f hf c33
                  by_cases c34 : p0 = (16 : Int32)
                  · have hf := if_t hf c34
                    refine lv_tableIn (off := 128) (tgt := 157) hx hb dX10_count_29 (by rw [c34]; decide) (by rw [c34]; decide) (by rw [c34]; decide) (by decide) ?_
                    refine lv_aload_n hx hb dX10_count_157 rfl (lv_at hl 0 rfl) ?_
                    refine va_get (D := G.1) (cl := vwCl) (ci := 10) (v := .ref ad_t_now) (C := RX10) (T := TX10) (N := 8) hx hb hts inG10 hown hK hP 0 rfl rfl 0 (Nat.le_of_ble_eq_true rfl) (hts _ q560) (fun _ h9 => h9) rfl dX10_count_158 ?_
                    refine va_get (D := G.1) (cl := vwCl) (ci := 6) (v := .ref ad_t_now_tape) (C := RX6) (T := TX6) (N := 7) hx hb hts inG6 hown hK hP 1 rfl rfl 1 (Nat.le_of_ble_eq_true rfl) (hts _ q220) (fun _ h9 => h9) rfl dX10_count_161 ?_
                    refine va_get (D := G.1) (cl := vwCl) (ci := 7) (v := .int (t_now_tapeI 1)) (C := RX7) (T := TX7) (N := 2) hx hb hts inG7 hown hK hP 10 rfl rfl 1 (Nat.le_of_ble_eq_true rfl) (hts _ q209) (fun _ h9 => h9) rfl dX10_count_164 ?_
                    have hf := Option.some.inj hf
                    subst hf
                    exact pRet hx hb hr hlocks hS dX10_count_167
                  · have hf := if_f hf c34
                    by_cases c35 : p0 = (17 : Int32)
                    · have hf := if_t hf c35
                      refine lv_tableIn (off := 139) (tgt := 168) hx hb dX10_count_29 (by rw [c35]; decide) (by rw [c35]; decide) (by rw [c35]; decide) (by decide) ?_
                      refine lv_aload_n hx hb dX10_count_168 rfl (lv_at hl 0 rfl) ?_
                      refine va_get (D := G.1) (cl := vwCl) (ci := 10) (v := .ref ad_t_wiring) (C := RX10) (T := TX10) (N := 8) hx hb hts inG10 hown hK hP 0 rfl rfl 3 (Nat.le_of_ble_eq_true rfl) (hts _ q563) (fun _ h9 => h9) rfl dX10_count_169 ?_
                      refine lv_aload_n hx hb dX10_count_172 rfl (lv_at hl 2 rfl) ?_
                      refine lv_iconst (v := 0) hx hb dX10_count_173 (by decide) ?_
                      obtain ⟨a36, h37, hf⟩ := bn_some hf
                      refine kPV (tX9_wrong l G ad_t_wiring ad_t_wiring_repair ad_t_wiring_repair_rows ad_t_wiring_repair_columns ad_t_wiring_repair_candidates ad_t_wiring_repair_left ad_t_now_memory_spec ad_t_now_memory_spec_numbers ad_t_now_memory_spec_badRows ad_t_now_memory_spec_badColumns ad_t_now_memory_spec_badBits t_wiringI t_wiring_repairI t_now_memory_specI t_now_memory_spec_badBits (0 : Int32) a36 h37) ⟨hx, hb, hml, hown, hts⟩ q904 q905 q906 q101 q907 okyX9_wrong ⟨Nat.le_of_ble_eq_true rfl, Nat.le_of_ble_eq_true rfl⟩ hP hG hS [12, 13, 3, 7] rfl 12 rfl rfl hl.1 rfl (Nat.le_of_ble_eq_true rfl) dX10_count_174 ⟨Nat.zero_le _, Nat.zero_le _⟩ (fun locs hS => ?_)
                      refine W.eq (g2 := F0 m 177 ls [.int a36]) rfl ?_
                      refine lv_aload_n hx hb dX10_count_177 rfl (lv_at hl 0 rfl) ?_
                      refine va_get (D := G.1) (cl := vwCl) (ci := 10) (v := .ref ad_t_wiring) (C := RX10) (T := TX10) (N := 8) hx hb hts inG10 hown hK hP 0 rfl rfl 3 (Nat.le_of_ble_eq_true rfl) (hts _ q563) (fun _ h9 => h9) rfl dX10_count_178 ?_
                      refine lv_aload_n hx hb dX10_count_181 rfl (lv_at hl 2 rfl) ?_
                      refine lv_iconst (v := 1) hx hb dX10_count_182 (by decide) ?_
                      obtain ⟨a38, h39, hf⟩ := bn_some hf
                      refine kPV (tX9_wrong l G ad_t_wiring ad_t_wiring_repair ad_t_wiring_repair_rows ad_t_wiring_repair_columns ad_t_wiring_repair_candidates ad_t_wiring_repair_left ad_t_now_memory_spec ad_t_now_memory_spec_numbers ad_t_now_memory_spec_badRows ad_t_now_memory_spec_badColumns ad_t_now_memory_spec_badBits t_wiringI t_wiring_repairI t_now_memory_specI t_now_memory_spec_badBits (1 : Int32) a38 h39) ⟨hx, hb, hml, hown, hts⟩ q904 q905 q906 q101 q907 okyX9_wrong ⟨Nat.le_of_ble_eq_true rfl, Nat.le_of_ble_eq_true rfl⟩ hP hG hS [12, 13, 3, 7] rfl 12 rfl rfl hl.1 rfl (Nat.le_of_ble_eq_true rfl) dX10_count_183 ⟨Nat.zero_le _, Nat.zero_le _⟩ (fun locs hS => ?_)
                      refine W.eq (g2 := F0 m 186 ls [.int a38, .int a36]) rfl ?_
                      refine lv_iadd hx hb dX10_count_186 ?_
                      have hf := Option.some.inj hf
                      subst hf
                      exact pRet hx hb hr hlocks hS dX10_count_187
                    · have hf := if_f hf c35
                      refine lv_tableOut (tgt := 188) hx hb dX10_count_29 (by have ec23 := sw_ne (k := 9) (by decide) (by decide) c23; have ec24 := sw_ne (k := 10) (by decide) (by decide) c24; have ec25 := sw_ne (k := 11) (by decide) (by decide) c25; have ec28 := sw_ne (k := 12) (by decide) (by decide) c28; have ec29 := sw_ne (k := 13) (by decide) (by decide) c29; have ec30 := sw_ne (k := 14) (by decide) (by decide) c30; have ec33 := sw_ne (k := 15) (by decide) (by decide) c33; have ec34 := sw_ne (k := 16) (by decide) (by decide) c34; have ec35 := sw_ne (k := 17) (by decide) (by decide) c35; omega) (by decide) ?_
                      refine lv_iconst (v := -1) hx hb dX10_count_188 (by decide) ?_
                      have hf := Option.some.inj hf
                      subst hf
                      exact pRet hx hb hr hlocks hS dX10_count_189
  refine lv_if_lt (tgt := 28) hx hb dX10_count_12 (by decide) (fun c40 => ?_) (fun c40 => ?_)
  · have hf := if_t hf c40
    exact J28_k22  locs ls (lv_sub hl [1, 2, 0] rfl) hS hf
  · have hf := if_f hf c40
    refine lv_iload_n hx hb dX10_count_15 rfl (lv_at hl 2 rfl) ?_
    refine lv_bipush (v := 9) hx hb dX10_count_16 (by decide) ?_
    refine lv_icmp_ge (tgt := 28) hx hb dX10_count_18 (by decide) (fun c41 => ?_) (fun c41 => ?_)
    · have hf := if_t hf c41
      exact J28_k22  locs ls (lv_sub hl [1, 2, 0] rfl) hS hf
    · have hf := if_f hf c41
      refine lv_aload_n hx hb dX10_count_21 rfl (lv_at hl 0 rfl) ?_
      refine va_get (D := G.1) (cl := vwCl) (ci := 5) (v := .ref ad_t_now_memory_spec_numbers) (C := RX5) (T := TX5) (N := 5) hx hb hts inG5 hown hK hP 3 rfl rfl 0 (Nat.le_of_ble_eq_true rfl) (hts _ q154) (fun _ h9 => h9) rfl dX10_count_22 ?_
      refine lv_iload_n hx hb dX10_count_25 rfl (lv_at hl 2 rfl) ?_
      obtain ⟨h42, hf⟩ := gd_some hf
      refine va_iald (D := G.1) (cl := vwCl) hx hb hK hP 4 0 rfl rfl (gi_in h42) dX10_count_26 ?_
      have hf := Option.some.inj hf
      subst hf
      exact pRet hx hb hr hlocks hS dX10_count_27

def fX10_place (t_now_memory_specI : Nat → Int32) (t_now_memory_spec_numbers : Nat → Int32) (t_now_memory_spec_badRows : Nat → Int32) (t_now_memory_spec_badColumns : Nat → Int32) (t_now_memory_spec_badBits : Nat → Int32) (t_now_memory_words : Nat → Int32) (t_now_memory_spares : Nat → Int32) (t_wiringI : Nat → Int32) (t_wiring_repairI : Nat → Int32) (t_wiring_repair_rows : Nat → Int32) (t_wiring_repair_columns : Nat → Int32) (p0 : Int32) (p1 : Int32) (p2 : Int32) : Option (Int32) :=
  (if (bi (fX10_isAddress t_now_memory_spec_numbers p0)) = 0 then some (-1 : Int32) else (if p1 < 0 then some (-1 : Int32) else (if p1 < (t_now_memory_spec_numbers 1) then (if p2 = (0 : Int32) then bn (fX9_rowPlace t_wiringI t_wiring_repairI t_wiring_repair_rows (fX9_rowOf t_wiringI p0)) fun a5 => some a5 else (if p2 = (1 : Int32) then bn (fX9_columnPlace t_wiringI t_wiring_repairI t_wiring_repair_columns (fX9_columnOf t_wiringI p0 p1)) fun a8 => some a8 else (if p2 = (2 : Int32) then bn (fX9_word t_wiringI t_wiring_repairI t_wiring_repair_rows t_wiring_repair_columns t_now_memory_specI t_now_memory_spec_badRows t_now_memory_spec_badColumns t_now_memory_spec_badBits t_now_memory_words t_now_memory_spares p0) fun a11 => some ((ush a11 p1) &&& (1 : Int32)) else (if p2 = (3 : Int32) then (if (t_wiring_repairI 4) = 0 then bn (fX5_find t_now_memory_specI t_now_memory_spec_badRows t_now_memory_spec_badColumns (fX9_rowOf t_wiringI p0) (fX9_columnOf t_wiringI p0 p1)) fun a15 => (if a15 = (-1 : Int32) then some (0 : Int32) else some (1 : Int32)) else some (0 : Int32)) else some (-1 : Int32))))) else some (-1 : Int32))))
set_option maxRecDepth 100000 in
set_option maxHeartbeats 4000000 in
theorem tX10_place (l : Launch) (G : gG) (ad_t ad_t_now ad_t_images ad_t_past ad_t_wiring ad_t_form ad_t_trial ad_t_reader ad_t_text ad_t_now_memory ad_t_now_tape ad_t_now_memory_spec ad_t_now_memory_words ad_t_now_memory_spares ad_t_now_memory_spec_numbers ad_t_now_memory_spec_badRows ad_t_now_memory_spec_badColumns ad_t_now_memory_spec_badBits ad_t_wiring_repair ad_t_wiring_repair_rows ad_t_wiring_repair_columns ad_t_wiring_repair_candidates ad_t_wiring_repair_left : Nat) (t_nowI : Nat → Int32) (t_now_memory_specI : Nat → Int32) (t_now_memory_spec_numbers : Nat → Int32) (t_now_memory_spec_badRows : Nat → Int32) (t_now_memory_spec_badColumns : Nat → Int32) (t_now_memory_spec_badBits : Nat → Int32) (t_now_memory_words : Nat → Int32) (t_now_memory_spares : Nat → Int32) (t_wiringI : Nat → Int32) (t_wiring_repairI : Nat → Int32) (t_wiring_repair_rows : Nat → Int32) (t_wiring_repair_columns : Nat → Int32) (p0 : Int32) (p1 : Int32) (p2 : Int32) (o : Int32) (hf : fX10_place t_now_memory_specI t_now_memory_spec_numbers t_now_memory_spec_badRows t_now_memory_spec_badColumns t_now_memory_spec_badBits t_now_memory_words t_now_memory_spares t_wiringI t_wiring_repairI t_wiring_repair_rows t_wiring_repair_columns p0 p1 p2 = some o) : mP G l yX10_place cX10_place 7 (some .int) 3 74 [.ref ad_t, .int p0, .int p1, .int p2] [(ad_t, .inr (10, [.ref ad_t_now, .ref ad_t_images, .ref ad_t_past, .ref ad_t_wiring, .ref ad_t_form, .ref ad_t_trial, .ref ad_t_reader, .ref ad_t_text])), (ad_t_now, .inr (6, [.ref ad_t_now_memory, .ref ad_t_now_tape, .int (t_nowI 2), .int (t_nowI 3), .int (t_nowI 4), .int (t_nowI 5), .int (t_nowI 6)])), (ad_t_now_memory, .inr (0, [.ref ad_t_now_memory_spec, .ref ad_t_now_memory_words, .ref ad_t_now_memory_spares])), (ad_t_now_memory_spec, .inr (5, [.ref ad_t_now_memory_spec_numbers, .ref ad_t_now_memory_spec_badRows, .ref ad_t_now_memory_spec_badColumns, .ref ad_t_now_memory_spec_badBits, .int (t_now_memory_specI 4)])), (ad_t_now_memory_spec_numbers, .inl (G.2.1 0, 9, .inl t_now_memory_spec_numbers)), (ad_t_now_memory_spec_badRows, .inl (G.2.1 0, 12, .inl t_now_memory_spec_badRows)), (ad_t_now_memory_spec_badColumns, .inl (G.2.1 0, 12, .inl t_now_memory_spec_badColumns)), (ad_t_now_memory_spec_badBits, .inl (G.2.1 0, 12, .inl t_now_memory_spec_badBits)), (ad_t_now_memory_words, .inl (G.2.1 0, 1056, .inl t_now_memory_words)), (ad_t_now_memory_spares, .inl (G.2.1 0, 33, .inl t_now_memory_spares)), (ad_t_wiring, .inr (9, [.ref ad_t_wiring_repair, .int (t_wiringI 1), .int (t_wiringI 2), .int (t_wiringI 3), .int (t_wiringI 4)])), (ad_t_wiring_repair, .inr (3, [.ref ad_t_wiring_repair_rows, .ref ad_t_wiring_repair_columns, .int (t_wiring_repairI 2), .int (t_wiring_repairI 3), .int (t_wiring_repairI 4), .int (t_wiring_repairI 5), .ref ad_t_wiring_repair_candidates, .ref ad_t_wiring_repair_left, .int (t_wiring_repairI 8)])), (ad_t_wiring_repair_rows, .inl (G.2.1 0, 4, .inl t_wiring_repair_rows)), (ad_t_wiring_repair_columns, .inl (G.2.1 0, 2, .inl t_wiring_repair_columns))] (some (.int o)) := by
  refine mP_of (by decide) (Nat.le_of_ble_eq_true rfl) ?_
  intro p e s m below meth cd ls hx hb hml hown hts hr hlocks hl hP hG
  have hK := hG.1
  have hown : s.vm.findClass RX10 = some m.cls := hown
  have hl : lv_has ls 7 [(0, .ref ad_t), (1, .int p0), (2, .int p1), (3, .int p2)] := hl
  have hS : va_S no s.heap s.heap [] := va_S.rf
  generalize ([] : List Loc) = locs at hS ⊢
  unfold fX10_place at hf
  show wG p l e 3 74 s m [.ref ad_t, .int p0, .int p1, .int p2] below meth cd s.heap locs (pQ (some (.int o))) no (F0 m 0 ls [])
  refine lv_aload_n hx hb dX10_place_0 rfl (lv_at hl 0 rfl) ?_
  refine va_get (D := G.1) (cl := vwCl) (ci := 10) (v := .ref ad_t_now) (C := RX10) (T := TX10) (N := 8) hx hb hts inG10 hown hK hP 0 rfl rfl 0 (Nat.le_of_ble_eq_true rfl) (hts _ q560) (fun _ h9 => h9) rfl dX10_place_1 ?_
  refine va_get (D := G.1) (cl := vwCl) (ci := 6) (v := .ref ad_t_now_memory) (C := RX6) (T := TX6) (N := 7) hx hb hts inG6 hown hK hP 1 rfl rfl 0 (Nat.le_of_ble_eq_true rfl) (hts _ q218) (fun _ h9 => h9) rfl dX10_place_4 ?_
  refine va_get (D := G.1) (cl := vwCl) (ci := 0) (v := .ref ad_t_now_memory_spec) (C := RX0) (T := TX0) (N := 3) hx hb hts inG0 hown hK hP 2 rfl rfl 0 (Nat.le_of_ble_eq_true rfl) (hts _ q188) (fun _ h9 => h9) rfl dX10_place_7 ?_
  refine lv_astore (lv' := [(4, .ref ad_t_now_memory_spec), (0, .ref ad_t), (1, .int p0), (2, .int p1), (3, .int p2)]) hx hb dX10_place_10 hl (by decide) rfl (fun ls hl => ?_)
  refine lv_aload_n hx hb dX10_place_12 rfl (lv_at hl 1 rfl) ?_
  refine lv_iload_n hx hb dX10_place_13 rfl (lv_at hl 2 rfl) ?_
  refine kPV (tX10_isAddress l G ad_t ad_t_now ad_t_images ad_t_past ad_t_wiring ad_t_form ad_t_trial ad_t_reader ad_t_text ad_t_now_memory ad_t_now_tape ad_t_now_memory_spec ad_t_now_memory_words ad_t_now_memory_spares ad_t_now_memory_spec_numbers ad_t_now_memory_spec_badRows ad_t_now_memory_spec_badColumns ad_t_now_memory_spec_badBits t_nowI t_now_memory_specI t_now_memory_spec_numbers p0 _ rfl) ⟨hx, hb, hml, hown, hts⟩ q835 q837 q29 q94 q838 okyX10_isAddress ⟨Nat.le_of_ble_eq_true rfl, Nat.le_of_ble_eq_true rfl⟩ hP hG hS [0, 1, 2, 3, 4] rfl 0 rfl rfl hl.1 rfl (Nat.le_of_ble_eq_true rfl) dX10_place_14 ⟨Nat.zero_le _, Nat.zero_le _⟩ (fun locs hS => ?_)
  refine W.eq (g2 := F0 m 17 ls [.int (bi (fX10_isAddress t_now_memory_spec_numbers p0))]) rfl ?_
  refine lv_if_eq (tgt := 35) hx hb dX10_place_17 (by decide) (fun c18 => ?_) (fun c18 => ?_)
  · have hf := if_t hf c18
    refine lv_iconst (v := -1) hx hb dX10_place_35 (by decide) ?_
    have hf := Option.some.inj hf
    subst hf
    exact pRet hx hb hr hlocks hS dX10_place_36
  · have hf := if_f hf c18
    refine lv_iload_n hx hb dX10_place_20 rfl (lv_at hl 3 rfl) ?_
    refine lv_if_lt (tgt := 35) hx hb dX10_place_21 (by decide) (fun c19 => ?_) (fun c19 => ?_)
    · have hf := if_t hf c19
      refine lv_iconst (v := -1) hx hb dX10_place_35 (by decide) ?_
      have hf := Option.some.inj hf
      subst hf
      exact pRet hx hb hr hlocks hS dX10_place_36
    · have hf := if_f hf c19
      refine lv_iload_n hx hb dX10_place_24 rfl (lv_at hl 3 rfl) ?_
      refine lv_aload hx hb dX10_place_25 (lv_at hl 0 rfl) ?_
      refine va_get (D := G.1) (cl := vwCl) (ci := 5) (v := .ref ad_t_now_memory_spec_numbers) (C := RX5) (T := TX5) (N := 5) hx hb hts inG5 hown hK hP 3 rfl rfl 0 (Nat.le_of_ble_eq_true rfl) (hts _ q154) (fun _ h9 => h9) rfl dX10_place_27 ?_
      refine lv_iconst (v := 1) hx hb dX10_place_30 (by decide) ?_
      refine va_iald (D := G.1) (cl := vwCl) hx hb hK hP 4 0 rfl rfl (vin (by decide)) dX10_place_31 ?_
      refine lv_ti (v := (t_now_memory_spec_numbers 1)) (congrArg (t_now_memory_spec_numbers) (tn 1)) ?_
      refine lv_icmp_lt (tgt := 37) hx hb dX10_place_32 (by decide) (fun c20 => ?_) (fun c20 => ?_)
      · have hf := if_t hf c20
        refine lv_aload_n hx hb dX10_place_37 rfl (lv_at hl 1 rfl) ?_
        refine va_get (D := G.1) (cl := vwCl) (ci := 10) (v := .ref ad_t_wiring) (C := RX10) (T := TX10) (N := 8) hx hb hts inG10 hown hK hP 0 rfl rfl 3 (Nat.le_of_ble_eq_true rfl) (hts _ q563) (fun _ h9 => h9) rfl dX10_place_38 ?_
        refine lv_iload_n hx hb dX10_place_41 rfl (lv_at hl 2 rfl) ?_
        refine kPV (tX9_rowOf l G ad_t_wiring ad_t_wiring_repair t_wiringI p0 _ rfl) ⟨hx, hb, hml, hown, hts⟩ q938 q844 q845 q101 q846 okyX9_rowOf ⟨Nat.le_of_ble_eq_true rfl, Nat.le_of_ble_eq_true rfl⟩ hP hG hS [10] rfl 10 rfl rfl hl.1 rfl (Nat.le_of_ble_eq_true rfl) dX10_place_42 ⟨Nat.zero_le _, Nat.zero_le _⟩ (fun locs hS => ?_)
        refine W.eq (g2 := F0 m 45 ls [.int (fX9_rowOf t_wiringI p0)]) rfl ?_
        refine lv_istore (lv' := [(5, .int (fX9_rowOf t_wiringI p0)), (4, .ref ad_t_now_memory_spec), (0, .ref ad_t), (1, .int p0), (2, .int p1), (3, .int p2)]) hx hb dX10_place_45 hl (by decide) rfl (fun ls hl => ?_)
        refine lv_aload_n hx hb dX10_place_47 rfl (lv_at hl 2 rfl) ?_
        refine va_get (D := G.1) (cl := vwCl) (ci := 10) (v := .ref ad_t_wiring) (C := RX10) (T := TX10) (N := 8) hx hb hts inG10 hown hK hP 0 rfl rfl 3 (Nat.le_of_ble_eq_true rfl) (hts _ q563) (fun _ h9 => h9) rfl dX10_place_48 ?_
        refine lv_iload_n hx hb dX10_place_51 rfl (lv_at hl 3 rfl) ?_
        refine lv_iload_n hx hb dX10_place_52 rfl (lv_at hl 4 rfl) ?_
        refine kPV (tX9_columnOf l G ad_t_wiring ad_t_wiring_repair t_wiringI p0 p1 _ rfl) ⟨hx, hb, hml, hown, hts⟩ q939 q940 q941 q101 q942 okyX9_columnOf ⟨Nat.le_of_ble_eq_true rfl, Nat.le_of_ble_eq_true rfl⟩ hP hG hS [10] rfl 10 rfl rfl hl.1 rfl (Nat.le_of_ble_eq_true rfl) dX10_place_53 ⟨Nat.zero_le _, Nat.zero_le _⟩ (fun locs hS => ?_)
        refine W.eq (g2 := F0 m 56 ls [.int (fX9_columnOf t_wiringI p0 p1)]) rfl ?_
        refine lv_istore (lv' := [(6, .int (fX9_columnOf t_wiringI p0 p1)), (5, .int (fX9_rowOf t_wiringI p0)), (4, .ref ad_t_now_memory_spec), (0, .ref ad_t), (1, .int p0), (2, .int p1), (3, .int p2)]) hx hb dX10_place_56 hl (by decide) rfl (fun ls hl => ?_)
        refine lv_iload_n hx hb dX10_place_58 rfl (lv_at hl 6 rfl) ?_
        by_cases c21 : p2 = (0 : Int32)
        · have hf := if_t hf c21
          refine lv_tableIn (off := 29) (tgt := 88) hx hb dX10_place_59 (by rw [c21]; decide) (by rw [c21]; decide) (by rw [c21]; decide) (by decide) ?_
          refine lv_aload_n hx hb dX10_place_88 rfl (lv_at hl 3 rfl) ?_
          refine va_get (D := G.1) (cl := vwCl) (ci := 10) (v := .ref ad_t_wiring) (C := RX10) (T := TX10) (N := 8) hx hb hts inG10 hown hK hP 0 rfl rfl 3 (Nat.le_of_ble_eq_true rfl) (hts _ q563) (fun _ h9 => h9) rfl dX10_place_89 ?_
          refine lv_iload hx hb dX10_place_92 (lv_at hl 1 rfl) ?_
          obtain ⟨a22, h23, hf⟩ := bn_some hf
          refine kPV (tX9_rowPlace l G ad_t_wiring ad_t_wiring_repair ad_t_wiring_repair_rows ad_t_wiring_repair_columns ad_t_wiring_repair_candidates ad_t_wiring_repair_left t_wiringI t_wiring_repairI t_wiring_repair_rows (fX9_rowOf t_wiringI p0) a22 h23) ⟨hx, hb, hml, hown, hts⟩ q943 q848 q849 q101 q850 okyX9_rowPlace ⟨Nat.le_of_ble_eq_true rfl, Nat.le_of_ble_eq_true rfl⟩ hP hG hS [10, 11, 12] rfl 10 rfl rfl hl.1 rfl (Nat.le_of_ble_eq_true rfl) dX10_place_94 ⟨Nat.zero_le _, Nat.zero_le _⟩ (fun locs hS => ?_)
          refine W.eq (g2 := F0 m 97 ls [.int a22]) rfl ?_
          have hf := Option.some.inj hf
          subst hf
          exact pRet hx hb hr hlocks hS dX10_place_97
        · have hf := if_f hf c21
          by_cases c24 : p2 = (1 : Int32)
          · have hf := if_t hf c24
            refine lv_tableIn (off := 39) (tgt := 98) hx hb dX10_place_59 (by rw [c24]; decide) (by rw [c24]; decide) (by rw [c24]; decide) (by decide) ?_
            refine lv_aload_n hx hb dX10_place_98 rfl (lv_at hl 3 rfl) ?_
            refine va_get (D := G.1) (cl := vwCl) (ci := 10) (v := .ref ad_t_wiring) (C := RX10) (T := TX10) (N := 8) hx hb hts inG10 hown hK hP 0 rfl rfl 3 (Nat.le_of_ble_eq_true rfl) (hts _ q563) (fun _ h9 => h9) rfl dX10_place_99 ?_
            refine lv_iload hx hb dX10_place_102 (lv_at hl 0 rfl) ?_
            obtain ⟨a25, h26, hf⟩ := bn_some hf
            refine kPV (tX9_columnPlace l G ad_t_wiring ad_t_wiring_repair ad_t_wiring_repair_rows ad_t_wiring_repair_columns ad_t_wiring_repair_candidates ad_t_wiring_repair_left t_wiringI t_wiring_repairI t_wiring_repair_columns (fX9_columnOf t_wiringI p0 p1) a25 h26) ⟨hx, hb, hml, hown, hts⟩ q944 q945 q946 q101 q947 okyX9_columnPlace ⟨Nat.le_of_ble_eq_true rfl, Nat.le_of_ble_eq_true rfl⟩ hP hG hS [10, 11, 13] rfl 10 rfl rfl hl.1 rfl (Nat.le_of_ble_eq_true rfl) dX10_place_104 ⟨Nat.zero_le _, Nat.zero_le _⟩ (fun locs hS => ?_)
            refine W.eq (g2 := F0 m 107 ls [.int a25]) rfl ?_
            have hf := Option.some.inj hf
            subst hf
            exact pRet hx hb hr hlocks hS dX10_place_107
          · have hf := if_f hf c24
            by_cases c27 : p2 = (2 : Int32)
            · have hf := if_t hf c27
              refine lv_tableIn (off := 49) (tgt := 108) hx hb dX10_place_59 (by rw [c27]; decide) (by rw [c27]; decide) (by rw [c27]; decide) (by decide) ?_
              refine lv_aload_n hx hb dX10_place_108 rfl (lv_at hl 3 rfl) ?_
              refine va_get (D := G.1) (cl := vwCl) (ci := 10) (v := .ref ad_t_wiring) (C := RX10) (T := TX10) (N := 8) hx hb hts inG10 hown hK hP 0 rfl rfl 3 (Nat.le_of_ble_eq_true rfl) (hts _ q563) (fun _ h9 => h9) rfl dX10_place_109 ?_
              refine lv_aload_n hx hb dX10_place_112 rfl (lv_at hl 3 rfl) ?_
              refine va_get (D := G.1) (cl := vwCl) (ci := 10) (v := .ref ad_t_now) (C := RX10) (T := TX10) (N := 8) hx hb hts inG10 hown hK hP 0 rfl rfl 0 (Nat.le_of_ble_eq_true rfl) (hts _ q560) (fun _ h9 => h9) rfl dX10_place_113 ?_
              refine va_get (D := G.1) (cl := vwCl) (ci := 6) (v := .ref ad_t_now_memory) (C := RX6) (T := TX6) (N := 7) hx hb hts inG6 hown hK hP 1 rfl rfl 0 (Nat.le_of_ble_eq_true rfl) (hts _ q218) (fun _ h9 => h9) rfl dX10_place_116 ?_
              refine lv_iload_n hx hb dX10_place_119 rfl (lv_at hl 4 rfl) ?_
              obtain ⟨a28, h29, hf⟩ := bn_some hf
              refine kPV (tX9_word l G ad_t_wiring ad_t_wiring_repair ad_t_wiring_repair_rows ad_t_wiring_repair_columns ad_t_wiring_repair_candidates ad_t_wiring_repair_left ad_t_now_memory ad_t_now_memory_spec ad_t_now_memory_words ad_t_now_memory_spares ad_t_now_memory_spec_numbers ad_t_now_memory_spec_badRows ad_t_now_memory_spec_badColumns ad_t_now_memory_spec_badBits t_wiringI t_wiring_repairI t_wiring_repair_rows t_wiring_repair_columns t_now_memory_specI t_now_memory_spec_badRows t_now_memory_spec_badColumns t_now_memory_spec_badBits t_now_memory_words t_now_memory_spares p0 a28 h29) ⟨hx, hb, hml, hown, hts⟩ q948 q892 q893 q101 q894 okyX9_word ⟨Nat.le_of_ble_eq_true rfl, Nat.le_of_ble_eq_true rfl⟩ hP hG hS [10, 11, 12, 13, 2, 3, 5, 6, 7, 8, 9] rfl 10 rfl rfl hl.1 rfl (Nat.le_of_ble_eq_true rfl) dX10_place_120 ⟨Nat.zero_le _, Nat.zero_le _⟩ (fun locs hS => ?_)
              refine W.eq (g2 := F0 m 123 ls [.int a28]) rfl ?_
              refine lv_iload_n hx hb dX10_place_123 rfl (lv_at hl 5 rfl) ?_
              refine lv_iushr (v := ush a28 p1) hx hb dX10_place_124 rfl ?_
              refine lv_iconst (v := 1) hx hb dX10_place_125 (by decide) ?_
              refine lv_iand hx hb dX10_place_126 ?_
              have hf := Option.some.inj hf
              subst hf
              exact pRet hx hb hr hlocks hS dX10_place_127
            · have hf := if_f hf c27
              by_cases c30 : p2 = (3 : Int32)
              · have hf := if_t hf c30
                refine lv_tableIn (off := 69) (tgt := 128) hx hb dX10_place_59 (by rw [c30]; decide) (by rw [c30]; decide) (by rw [c30]; decide) (by decide) ?_
                refine lv_aload_n hx hb dX10_place_128 rfl (lv_at hl 3 rfl) ?_
                refine va_get (D := G.1) (cl := vwCl) (ci := 10) (v := .ref ad_t_wiring) (C := RX10) (T := TX10) (N := 8) hx hb hts inG10 hown hK hP 0 rfl rfl 3 (Nat.le_of_ble_eq_true rfl) (hts _ q563) (fun _ h9 => h9) rfl dX10_place_129 ?_
                refine va_get (D := G.1) (cl := vwCl) (ci := 9) (v := .ref ad_t_wiring_repair) (C := RX9) (T := TX9) (N := 5) hx hb hts inG9 hown hK hP 10 rfl rfl 0 (Nat.le_of_ble_eq_true rfl) (hts _ q320) (fun _ h9 => h9) rfl dX10_place_132 ?_
                refine va_get (D := G.1) (cl := vwCl) (ci := 3) (v := .int (t_wiring_repairI 4)) (C := RX3) (T := TX3) (N := 9) hx hb hts inG3 hown hK hP 11 rfl rfl 4 (Nat.le_of_ble_eq_true rfl) (hts _ q294) (fun _ h9 => h9) rfl dX10_place_135 ?_
                refine lv_if_ne (tgt := 158) hx hb dX10_place_138 (by decide) (fun c31 => ?_) (fun c31 => ?_)
                · have hf := if_f hf c31
                  refine lv_iconst (v := 0) hx hb dX10_place_158 (by decide) ?_
                  have hf := Option.some.inj hf
                  subst hf
                  exact pRet hx hb hr hlocks hS dX10_place_159
                · have hf := if_t hf c31
                  refine lv_aload hx hb dX10_place_141 (lv_at hl 2 rfl) ?_
                  refine lv_iload hx hb dX10_place_143 (lv_at hl 1 rfl) ?_
                  refine lv_iload hx hb dX10_place_145 (lv_at hl 0 rfl) ?_
                  obtain ⟨a32, h33, hf⟩ := bn_some hf
                  refine kPV (tX5_find l G ad_t_now_memory_spec ad_t_now_memory_spec_numbers ad_t_now_memory_spec_badRows ad_t_now_memory_spec_badColumns ad_t_now_memory_spec_badBits t_now_memory_specI t_now_memory_spec_badRows t_now_memory_spec_badColumns (fX9_rowOf t_wiringI p0) (fX9_columnOf t_wiringI p0 p1) a32 h33) ⟨hx, hb, hml, hown, hts⟩ q818 q735 q736 q97 q737 okyX5_find ⟨Nat.le_of_ble_eq_true rfl, Nat.le_of_ble_eq_true rfl⟩ hP hG hS [3, 5, 6] rfl 3 rfl rfl hl.1 rfl (Nat.le_of_ble_eq_true rfl) dX10_place_147 ⟨Nat.zero_le _, Nat.zero_le _⟩ (fun locs hS => ?_)
                  refine W.eq (g2 := F0 m 150 ls [.int a32]) rfl ?_
                  refine lv_iconst (v := -1) hx hb dX10_place_150 (by decide) ?_
                  refine lv_icmp_eq (tgt := 158) hx hb dX10_place_151 (by decide) (fun c34 => ?_) (fun c34 => ?_)
                  · have hf := if_t hf c34
                    refine lv_iconst (v := 0) hx hb dX10_place_158 (by decide) ?_
                    have hf := Option.some.inj hf
                    subst hf
                    exact pRet hx hb hr hlocks hS dX10_place_159
                  · have hf := if_f hf c34
                    refine lv_iconst (v := 1) hx hb dX10_place_154 (by decide) ?_
                    refine lv_goto (tgt := 159) hx hb dX10_place_155 (by decide) ?_
                    have hf := Option.some.inj hf
                    subst hf
                    exact pRet hx hb hr hlocks hS dX10_place_159
              · have hf := if_f hf c30
                refine lv_tableOut (tgt := 160) hx hb dX10_place_59 (by have ec21 := sw_ne (k := 0) (by decide) (by decide) c21; have ec24 := sw_ne (k := 1) (by decide) (by decide) c24; have ec27 := sw_ne (k := 2) (by decide) (by decide) c27; have ec30 := sw_ne (k := 3) (by decide) (by decide) c30; omega) (by decide) ?_
                refine lv_iconst (v := -1) hx hb dX10_place_160 (by decide) ?_
                have hf := Option.some.inj hf
                subst hf
                exact pRet hx hb hr hlocks hS dX10_place_161
      · have hf := if_f hf c20
        refine lv_iconst (v := -1) hx hb dX10_place_35 (by decide) ?_
        have hf := Option.some.inj hf
        subst hf
        exact pRet hx hb hr hlocks hS dX10_place_36

def fX10_read (t_now_memory_specI : Nat → Int32) (t_now_memory_spec_numbers : Nat → Int32) (t_now_memory_spec_badRows : Nat → Int32) (t_now_memory_spec_badColumns : Nat → Int32) (t_now_memory_spec_badBits : Nat → Int32) (t_now_memory_words : Nat → Int32) (t_now_memory_spares : Nat → Int32) (t_wiringI : Nat → Int32) (t_wiring_repairI : Nat → Int32) (t_wiring_repair_rows : Nat → Int32) (t_wiring_repair_columns : Nat → Int32) (p0 : Int32) : Option (Int32) :=
  (if (bi (fX10_isAddress t_now_memory_spec_numbers p0)) = 0 then some (0 : Int32) else bn (fX9_word t_wiringI t_wiring_repairI t_wiring_repair_rows t_wiring_repair_columns t_now_memory_specI t_now_memory_spec_badRows t_now_memory_spec_badColumns t_now_memory_spec_badBits t_now_memory_words t_now_memory_spares p0) fun a2 => some a2)
set_option maxRecDepth 100000 in
set_option maxHeartbeats 4000000 in
theorem tX10_read (l : Launch) (G : gG) (ad_t ad_t_now ad_t_images ad_t_past ad_t_wiring ad_t_form ad_t_trial ad_t_reader ad_t_text ad_t_now_memory ad_t_now_tape ad_t_now_memory_spec ad_t_now_memory_words ad_t_now_memory_spares ad_t_now_memory_spec_numbers ad_t_now_memory_spec_badRows ad_t_now_memory_spec_badColumns ad_t_now_memory_spec_badBits ad_t_wiring_repair ad_t_wiring_repair_rows ad_t_wiring_repair_columns ad_t_wiring_repair_candidates ad_t_wiring_repair_left : Nat) (t_nowI : Nat → Int32) (t_now_memory_specI : Nat → Int32) (t_now_memory_spec_numbers : Nat → Int32) (t_now_memory_spec_badRows : Nat → Int32) (t_now_memory_spec_badColumns : Nat → Int32) (t_now_memory_spec_badBits : Nat → Int32) (t_now_memory_words : Nat → Int32) (t_now_memory_spares : Nat → Int32) (t_wiringI : Nat → Int32) (t_wiring_repairI : Nat → Int32) (t_wiring_repair_rows : Nat → Int32) (t_wiring_repair_columns : Nat → Int32) (p0 : Int32) (o : Int32) (hf : fX10_read t_now_memory_specI t_now_memory_spec_numbers t_now_memory_spec_badRows t_now_memory_spec_badColumns t_now_memory_spec_badBits t_now_memory_words t_now_memory_spares t_wiringI t_wiring_repairI t_wiring_repair_rows t_wiring_repair_columns p0 = some o) : mP G l yX10_read cX10_read 2 (some .int) 3 74 [.ref ad_t, .int p0] [(ad_t, .inr (10, [.ref ad_t_now, .ref ad_t_images, .ref ad_t_past, .ref ad_t_wiring, .ref ad_t_form, .ref ad_t_trial, .ref ad_t_reader, .ref ad_t_text])), (ad_t_now, .inr (6, [.ref ad_t_now_memory, .ref ad_t_now_tape, .int (t_nowI 2), .int (t_nowI 3), .int (t_nowI 4), .int (t_nowI 5), .int (t_nowI 6)])), (ad_t_now_memory, .inr (0, [.ref ad_t_now_memory_spec, .ref ad_t_now_memory_words, .ref ad_t_now_memory_spares])), (ad_t_now_memory_spec, .inr (5, [.ref ad_t_now_memory_spec_numbers, .ref ad_t_now_memory_spec_badRows, .ref ad_t_now_memory_spec_badColumns, .ref ad_t_now_memory_spec_badBits, .int (t_now_memory_specI 4)])), (ad_t_now_memory_spec_numbers, .inl (G.2.1 0, 9, .inl t_now_memory_spec_numbers)), (ad_t_now_memory_spec_badRows, .inl (G.2.1 0, 12, .inl t_now_memory_spec_badRows)), (ad_t_now_memory_spec_badColumns, .inl (G.2.1 0, 12, .inl t_now_memory_spec_badColumns)), (ad_t_now_memory_spec_badBits, .inl (G.2.1 0, 12, .inl t_now_memory_spec_badBits)), (ad_t_now_memory_words, .inl (G.2.1 0, 1056, .inl t_now_memory_words)), (ad_t_now_memory_spares, .inl (G.2.1 0, 33, .inl t_now_memory_spares)), (ad_t_wiring, .inr (9, [.ref ad_t_wiring_repair, .int (t_wiringI 1), .int (t_wiringI 2), .int (t_wiringI 3), .int (t_wiringI 4)])), (ad_t_wiring_repair, .inr (3, [.ref ad_t_wiring_repair_rows, .ref ad_t_wiring_repair_columns, .int (t_wiring_repairI 2), .int (t_wiring_repairI 3), .int (t_wiring_repairI 4), .int (t_wiring_repairI 5), .ref ad_t_wiring_repair_candidates, .ref ad_t_wiring_repair_left, .int (t_wiring_repairI 8)])), (ad_t_wiring_repair_rows, .inl (G.2.1 0, 4, .inl t_wiring_repair_rows)), (ad_t_wiring_repair_columns, .inl (G.2.1 0, 2, .inl t_wiring_repair_columns))] (some (.int o)) := by
  refine mP_of (by decide) (Nat.le_of_ble_eq_true rfl) ?_
  intro p e s m below meth cd ls hx hb hml hown hts hr hlocks hl hP hG
  have hK := hG.1
  have hown : s.vm.findClass RX10 = some m.cls := hown
  have hl : lv_has ls 2 [(0, .ref ad_t), (1, .int p0)] := hl
  have hS : va_S no s.heap s.heap [] := va_S.rf
  generalize ([] : List Loc) = locs at hS ⊢
  unfold fX10_read at hf
  show wG p l e 3 74 s m [.ref ad_t, .int p0] below meth cd s.heap locs (pQ (some (.int o))) no (F0 m 0 ls [])
  refine lv_aload_n hx hb dX10_read_0 rfl (lv_at hl 0 rfl) ?_
  refine lv_iload_n hx hb dX10_read_1 rfl (lv_at hl 1 rfl) ?_
  refine kPV (tX10_isAddress l G ad_t ad_t_now ad_t_images ad_t_past ad_t_wiring ad_t_form ad_t_trial ad_t_reader ad_t_text ad_t_now_memory ad_t_now_tape ad_t_now_memory_spec ad_t_now_memory_words ad_t_now_memory_spares ad_t_now_memory_spec_numbers ad_t_now_memory_spec_badRows ad_t_now_memory_spec_badColumns ad_t_now_memory_spec_badBits t_nowI t_now_memory_specI t_now_memory_spec_numbers p0 _ rfl) ⟨hx, hb, hml, hown, hts⟩ q835 q837 q29 q94 q838 okyX10_isAddress ⟨Nat.le_of_ble_eq_true rfl, Nat.le_of_ble_eq_true rfl⟩ hP hG hS [0, 1, 2, 3, 4] rfl 0 rfl rfl hl.1 rfl (Nat.le_of_ble_eq_true rfl) dX10_read_2 ⟨Nat.zero_le _, Nat.zero_le _⟩ (fun locs hS => ?_)
  refine W.eq (g2 := F0 m 5 ls [.int (bi (fX10_isAddress t_now_memory_spec_numbers p0))]) rfl ?_
  refine lv_if_eq (tgt := 26) hx hb dX10_read_5 (by decide) (fun c4 => ?_) (fun c4 => ?_)
  · have hf := if_t hf c4
    refine lv_iconst (v := 0) hx hb dX10_read_26 (by decide) ?_
    have hf := Option.some.inj hf
    subst hf
    exact pRet hx hb hr hlocks hS dX10_read_27
  · have hf := if_f hf c4
    refine lv_aload_n hx hb dX10_read_8 rfl (lv_at hl 0 rfl) ?_
    refine va_get (D := G.1) (cl := vwCl) (ci := 10) (v := .ref ad_t_wiring) (C := RX10) (T := TX10) (N := 8) hx hb hts inG10 hown hK hP 0 rfl rfl 3 (Nat.le_of_ble_eq_true rfl) (hts _ q563) (fun _ h9 => h9) rfl dX10_read_9 ?_
    refine lv_aload_n hx hb dX10_read_12 rfl (lv_at hl 0 rfl) ?_
    refine va_get (D := G.1) (cl := vwCl) (ci := 10) (v := .ref ad_t_now) (C := RX10) (T := TX10) (N := 8) hx hb hts inG10 hown hK hP 0 rfl rfl 0 (Nat.le_of_ble_eq_true rfl) (hts _ q560) (fun _ h9 => h9) rfl dX10_read_13 ?_
    refine va_get (D := G.1) (cl := vwCl) (ci := 6) (v := .ref ad_t_now_memory) (C := RX6) (T := TX6) (N := 7) hx hb hts inG6 hown hK hP 1 rfl rfl 0 (Nat.le_of_ble_eq_true rfl) (hts _ q218) (fun _ h9 => h9) rfl dX10_read_16 ?_
    refine lv_iload_n hx hb dX10_read_19 rfl (lv_at hl 1 rfl) ?_
    obtain ⟨a5, h6, hf⟩ := bn_some hf
    refine kPV (tX9_word l G ad_t_wiring ad_t_wiring_repair ad_t_wiring_repair_rows ad_t_wiring_repair_columns ad_t_wiring_repair_candidates ad_t_wiring_repair_left ad_t_now_memory ad_t_now_memory_spec ad_t_now_memory_words ad_t_now_memory_spares ad_t_now_memory_spec_numbers ad_t_now_memory_spec_badRows ad_t_now_memory_spec_badColumns ad_t_now_memory_spec_badBits t_wiringI t_wiring_repairI t_wiring_repair_rows t_wiring_repair_columns t_now_memory_specI t_now_memory_spec_badRows t_now_memory_spec_badColumns t_now_memory_spec_badBits t_now_memory_words t_now_memory_spares p0 a5 h6) ⟨hx, hb, hml, hown, hts⟩ q948 q892 q893 q101 q894 okyX9_word ⟨Nat.le_of_ble_eq_true rfl, Nat.le_of_ble_eq_true rfl⟩ hP hG hS [10, 11, 12, 13, 2, 3, 5, 6, 7, 8, 9] rfl 10 rfl rfl hl.1 rfl (Nat.le_of_ble_eq_true rfl) dX10_read_20 ⟨Nat.zero_le _, Nat.zero_le _⟩ (fun locs hS => ?_)
    refine W.eq (g2 := F0 m 23 ls [.int a5]) rfl ?_
    refine lv_goto (tgt := 27) hx hb dX10_read_23 (by decide) ?_
    have hf := Option.some.inj hf
    subst hf
    exact pRet hx hb hr hlocks hS dX10_read_27
