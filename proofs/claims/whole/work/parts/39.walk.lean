def fX2_next_l8 (t_sourceI : Nat → Int32) (t_source_bytes : Nat → Int32) : Nat → (Nat → Int32) → Option ((Nat → Int32))
  | 0, _ => none
  | n + 1, tI =>
    (if (t_sourceI 1) ≤ (tI 5) then some tI else gd (gi (tI 5) 300) ((if (bi (fX2_isBlank (t_source_bytes (tI 5).toNatClampNeg))) = 0 then some tI else fX2_next_l8 t_sourceI t_source_bytes n (upd tI 5 ((tI 5) + (1 : Int32))))))
def fX2_next (tI : Nat → Int32) (t_sourceI : Nat → Int32) (t_source_bytes : Nat → Int32) : Option ((Nat → Int32)) :=
  bn (fX2_next_l8 t_sourceI t_source_bytes FU (upd tI 5 (tI 6))) fun y4 => (if (y4 5) < (t_sourceI 1) then gd (gi (y4 5) 300) ((if (bi (fX2_isLetter (t_source_bytes (y4 5).toNatClampNeg))) = 0 then gd (gi (y4 5) 300) ((if (bi (fX2_isDigit (t_source_bytes (y4 5).toNatClampNeg))) = 0 then gd (gi (y4 5) 300) (some (upd (upd y4 4 (if (t_source_bytes (y4 5).toNatClampNeg) = (59 : Int32) then (3 : Int32) else (4 : Int32))) 6 ((y4 5) + (1 : Int32)))) else bn (fX2_takeDigits (upd y4 6 (y4 5)) t_sourceI t_source_bytes) fun a13 => some a13)) else bn (fX2_takeLetters (upd y4 6 (y4 5)) t_sourceI t_source_bytes) fun a15 => some a15)) else some (upd (upd y4 4 (0 : Int32)) 6 (y4 5)))
set_option maxRecDepth 100000 in
set_option maxHeartbeats 4000000 in
theorem tX2_next (l : Launch) (G : gG) (ad_t ad_t_told ad_t_source ad_t_source_bytes : Nat) (tI : Nat → Int32) (t_sourceI : Nat → Int32) (t_source_bytes : Nat → Int32) (o : (Nat → Int32)) (hf : fX2_next tI t_sourceI t_source_bytes = some o) : mE G l yX2_next cX2_next 1 none 2 40 0 0 [.ref ad_t] [(ad_t, .inr (2, [.ref ad_t_told, .int (tI 1), .int (tI 2), .ref ad_t_source, .int (tI 4), .int (tI 5), .int (tI 6), .int (tI 7)])), (ad_t_source, .inr (7, [.ref ad_t_source_bytes, .int (t_sourceI 1)])), (ad_t_source_bytes, .inl (G.2.1 1, 300, .inl t_source_bytes))] (fun r w => r = none ∧ w = [(ad_t, .inr (2, [.ref ad_t_told, .int (o 1), .int (o 2), .ref ad_t_source, .int (o 4), .int (o 5), .int (o 6), .int (o 7)])), (ad_t_source, .inr (7, [.ref ad_t_source_bytes, .int (t_sourceI 1)])), (ad_t_source_bytes, .inl (G.2.1 1, 300, .inl t_source_bytes))]) := by
  refine mE_of (by decide) (Nat.le_of_ble_eq_true rfl) ?_
  intro p e s m below meth cd ls A hx hb hml hown hts hr hlocks hnm hl hA hP hD hS hG
  have hK := hG.1
  have hown : s.vm.findClass RX2 = some m.cls := hown
  have hl : lv_has ls 1 [(0, .ref ad_t)] := hl
  have hS := hS
  unfold fX2_next at hf
  obtain ⟨H, locs, eH, eL⟩ : ∃ (H : Heap) (locs : List Loc), H = s.heap ∧ locs = [] := ⟨_, _, rfl, rfl⟩
  have hP : va_P G.1 vwCl [(ad_t, .inr (2, [.ref ad_t_told, .int (tI 1), .int (tI 2), .ref ad_t_source, .int (tI 4), .int (tI 5), .int (tI 6), .int (tI 7)])), (ad_t_source, .inr (7, [.ref ad_t_source_bytes, .int (t_sourceI 1)])), (ad_t_source_bytes, .inl (G.2.1 1, 300, .inl t_source_bytes))] H := eH ▸ hP
  have hS : va_S A s.heap H locs := by rw [eH, eL]; exact hS
  suffices hgo : wG p l e 2 40 s m [.ref ad_t] below meth cd H locs (eQ G A (fun r w => r = none ∧ w = [(ad_t, .inr (2, [.ref ad_t_told, .int (o 1), .int (o 2), .ref ad_t_source, .int (o 4), .int (o 5), .int (o 6), .int (o 7)])), (ad_t_source, .inr (7, [.ref ad_t_source_bytes, .int (t_sourceI 1)])), (ad_t_source_bytes, .inl (G.2.1 1, 300, .inl t_source_bytes))])) A (F0 m 0 ls []) by rw [eH, eL] at hgo; exact hgo
  clear eH eL
  refine lv_aload_n hx hb dX2_next_0 rfl (lv_at hl 0 rfl) ?_
  refine lv_aload_n hx hb dX2_next_1 rfl (lv_at hl 0 rfl) ?_
  refine va_get (D := G.1) (cl := vwCl) (ci := 2) (v := .int (tI 6)) (C := RX2) (T := TX2) (N := 8) hx hb hts inG2 hown hK hP 0 rfl rfl 6 (Nat.le_of_ble_eq_true rfl) (hts _ q429) (fun _ h9 => h9) rfl dX2_next_2 ?_
  refine va_put (D := G.1) (cl := vwCl) (ci := 2) (v := .int (tI 6)) (ty := .int) (C := RX2) (T := TX2) (N := 8) hx hb hts inG2 tyX2 tyX2_ok nmX2 hown hK hP hD hS 0 rfl rfl 5 (Nat.le_of_ble_eq_true rfl) (hts _ q428) (fun _ h9 => h9) rfl (tyX2_ok 5 (Nat.le_of_ble_eq_true rfl)) rfl rfl (Nat.le_of_ble_eq_true rfl) dX2_next_5 (fun H locs hP hD hS => ?_)
  have hP : va_P G.1 vwCl [(ad_t, .inr (2, [.ref ad_t_told, .int (tI 1), .int (tI 2), .ref ad_t_source, .int (tI 4), .int (tI 6), .int (tI 6), .int (tI 7)])), (ad_t_source, .inr (7, [.ref ad_t_source_bytes, .int (t_sourceI 1)])), (ad_t_source_bytes, .inl (G.2.1 1, 300, .inl t_source_bytes))] H := hP
  have hD : va_D A [(ad_t, .inr (2, [.ref ad_t_told, .int (tI 1), .int (tI 2), .ref ad_t_source, .int (tI 4), .int (tI 6), .int (tI 6), .int (tI 7)])), (ad_t_source, .inr (7, [.ref ad_t_source_bytes, .int (t_sourceI 1)])), (ad_t_source_bytes, .inl (G.2.1 1, 300, .inl t_source_bytes))] := hD
  obtain ⟨y17, hLy17, hky17⟩ := bn_some hf
  have Ey17 : ∀  (H : Heap) (locs : List Loc) (ls : Array Slot), lv_has ls 1 [(0, .ref ad_t)] → va_P G.1 vwCl [(ad_t, .inr (2, [.ref ad_t_told, .int (y17 1), .int (y17 2), .ref ad_t_source, .int (y17 4), .int (y17 5), .int (y17 6), .int (y17 7)])), (ad_t_source, .inr (7, [.ref ad_t_source_bytes, .int (t_sourceI 1)])), (ad_t_source_bytes, .inl (G.2.1 1, 300, .inl t_source_bytes))] H → va_D A [(ad_t, .inr (2, [.ref ad_t_told, .int (y17 1), .int (y17 2), .ref ad_t_source, .int (y17 4), .int (y17 5), .int (y17 6), .int (y17 7)])), (ad_t_source, .inr (7, [.ref ad_t_source_bytes, .int (t_sourceI 1)])), (ad_t_source_bytes, .inl (G.2.1 1, 300, .inl t_source_bytes))] → va_S A s.heap H locs → wG p l e 2 40 s m [.ref ad_t] below meth cd H locs (eQ G A (fun r w => r = none ∧ w = [(ad_t, .inr (2, [.ref ad_t_told, .int (o 1), .int (o 2), .ref ad_t_source, .int (o 4), .int (o 5), .int (o 6), .int (o 7)])), (ad_t_source, .inr (7, [.ref ad_t_source_bytes, .int (t_sourceI 1)])), (ad_t_source_bytes, .inl (G.2.1 1, 300, .inl t_source_bytes))])) A (F0 m 53 ls []) := by
    intro  H locs ls hl hP hD hS
    have hf := hky17
    refine lv_aload_n hx hb dX2_next_53 rfl (lv_at hl 0 rfl) ?_
    refine lv_aload_n hx hb dX2_next_54 rfl (lv_at hl 0 rfl) ?_
    refine va_get (D := G.1) (cl := vwCl) (ci := 2) (v := .int (y17 5)) (C := RX2) (T := TX2) (N := 8) hx hb hts inG2 hown hK hP 0 rfl rfl 5 (Nat.le_of_ble_eq_true rfl) (hts _ q428) (fun _ h9 => h9) rfl dX2_next_55 ?_
    refine va_put (D := G.1) (cl := vwCl) (ci := 2) (v := .int (y17 5)) (ty := .int) (C := RX2) (T := TX2) (N := 8) hx hb hts inG2 tyX2 tyX2_ok nmX2 hown hK hP hD hS 0 rfl rfl 6 (Nat.le_of_ble_eq_true rfl) (hts _ q429) (fun _ h9 => h9) rfl (tyX2_ok 6 (Nat.le_of_ble_eq_true rfl)) rfl rfl (Nat.le_of_ble_eq_true rfl) dX2_next_58 (fun H locs hP hD hS => ?_)
    have hP : va_P G.1 vwCl [(ad_t, .inr (2, [.ref ad_t_told, .int (y17 1), .int (y17 2), .ref ad_t_source, .int (y17 4), .int (y17 5), .int (y17 5), .int (y17 7)])), (ad_t_source, .inr (7, [.ref ad_t_source_bytes, .int (t_sourceI 1)])), (ad_t_source_bytes, .inl (G.2.1 1, 300, .inl t_source_bytes))] H := hP
    have hD : va_D A [(ad_t, .inr (2, [.ref ad_t_told, .int (y17 1), .int (y17 2), .ref ad_t_source, .int (y17 4), .int (y17 5), .int (y17 5), .int (y17 7)])), (ad_t_source, .inr (7, [.ref ad_t_source_bytes, .int (t_sourceI 1)])), (ad_t_source_bytes, .inl (G.2.1 1, 300, .inl t_source_bytes))] := hD
    refine lv_aload_n hx hb dX2_next_61 rfl (lv_at hl 0 rfl) ?_
    refine va_get (D := G.1) (cl := vwCl) (ci := 2) (v := .int (y17 5)) (C := RX2) (T := TX2) (N := 8) hx hb hts inG2 hown hK hP 0 rfl rfl 5 (Nat.le_of_ble_eq_true rfl) (hts _ q428) (fun _ h9 => h9) rfl dX2_next_62 ?_
    refine lv_aload_n hx hb dX2_next_65 rfl (lv_at hl 0 rfl) ?_
    refine va_get (D := G.1) (cl := vwCl) (ci := 2) (v := .ref ad_t_source) (C := RX2) (T := TX2) (N := 8) hx hb hts inG2 hown hK hP 0 rfl rfl 3 (Nat.le_of_ble_eq_true rfl) (hts _ q426) (fun _ h9 => h9) rfl dX2_next_66 ?_
    refine va_get (D := G.1) (cl := vwCl) (ci := 7) (v := .int (t_sourceI 1)) (C := RX7) (T := TX7) (N := 2) hx hb hts inG7 hown hK hP 1 rfl rfl 1 (Nat.le_of_ble_eq_true rfl) (hts _ q210) (fun _ h9 => h9) rfl dX2_next_69 ?_
    refine lv_icmp_lt (tgt := 83) hx hb dX2_next_72 (by decide) (fun c18 => ?_) (fun c18 => ?_)
    · have hf := if_t hf c18
      refine lv_aload_n hx hb dX2_next_83 rfl (lv_at hl 0 rfl) ?_
      refine va_get (D := G.1) (cl := vwCl) (ci := 2) (v := .ref ad_t_source) (C := RX2) (T := TX2) (N := 8) hx hb hts inG2 hown hK hP 0 rfl rfl 3 (Nat.le_of_ble_eq_true rfl) (hts _ q426) (fun _ h9 => h9) rfl dX2_next_84 ?_
      refine va_get (D := G.1) (cl := vwCl) (ci := 7) (v := .ref ad_t_source_bytes) (C := RX7) (T := TX7) (N := 2) hx hb hts inG7 hown hK hP 1 rfl rfl 0 (Nat.le_of_ble_eq_true rfl) (hts _ q206) (fun _ h9 => h9) rfl dX2_next_87 ?_
      refine lv_aload_n hx hb dX2_next_90 rfl (lv_at hl 0 rfl) ?_
      refine va_get (D := G.1) (cl := vwCl) (ci := 2) (v := .int (y17 5)) (C := RX2) (T := TX2) (N := 8) hx hb hts inG2 hown hK hP 0 rfl rfl 5 (Nat.le_of_ble_eq_true rfl) (hts _ q428) (fun _ h9 => h9) rfl dX2_next_91 ?_
      obtain ⟨h19, hf⟩ := gd_some hf
      refine va_bald (D := G.1) (cl := vwCl) hx hb hK hP 2 1 rfl rfl (gi_in h19) dX2_next_94 ?_
      refine kPS (tX2_isLetter l G (t_source_bytes (y17 5).toNatClampNeg) _ rfl) ⟨hx, hb, hml, hown, hts⟩ q623 q624 q104 q625 okyX2_isLetter ⟨Nat.le_of_ble_eq_true rfl, Nat.le_of_ble_eq_true rfl⟩ hP hG hS [] rfl hl.1 rfl (Nat.le_of_ble_eq_true rfl) dX2_next_95 ⟨Nat.zero_le _, Nat.zero_le _⟩ (fun locs hS => ?_)
      refine W.eq (g2 := F0 m 98 ls [.int (bi (fX2_isLetter (t_source_bytes (y17 5).toNatClampNeg)))]) rfl ?_
      refine lv_if_eq (tgt := 108) hx hb dX2_next_98 (by decide) (fun c20 => ?_) (fun c20 => ?_)
      · have hf := if_t hf c20
        refine lv_aload_n hx hb dX2_next_108 rfl (lv_at hl 0 rfl) ?_
        refine va_get (D := G.1) (cl := vwCl) (ci := 2) (v := .ref ad_t_source) (C := RX2) (T := TX2) (N := 8) hx hb hts inG2 hown hK hP 0 rfl rfl 3 (Nat.le_of_ble_eq_true rfl) (hts _ q426) (fun _ h9 => h9) rfl dX2_next_109 ?_
        refine va_get (D := G.1) (cl := vwCl) (ci := 7) (v := .ref ad_t_source_bytes) (C := RX7) (T := TX7) (N := 2) hx hb hts inG7 hown hK hP 1 rfl rfl 0 (Nat.le_of_ble_eq_true rfl) (hts _ q206) (fun _ h9 => h9) rfl dX2_next_112 ?_
        refine lv_aload_n hx hb dX2_next_115 rfl (lv_at hl 0 rfl) ?_
        refine va_get (D := G.1) (cl := vwCl) (ci := 2) (v := .int (y17 5)) (C := RX2) (T := TX2) (N := 8) hx hb hts inG2 hown hK hP 0 rfl rfl 5 (Nat.le_of_ble_eq_true rfl) (hts _ q428) (fun _ h9 => h9) rfl dX2_next_116 ?_
        obtain ⟨h21, hf⟩ := gd_some hf
        refine va_bald (D := G.1) (cl := vwCl) hx hb hK hP 2 1 rfl rfl (gi_in h21) dX2_next_119 ?_
        refine kPS (tX2_isDigit l G (t_source_bytes (y17 5).toNatClampNeg) _ rfl) ⟨hx, hb, hml, hown, hts⟩ q630 q631 q104 q632 okyX2_isDigit ⟨Nat.le_of_ble_eq_true rfl, Nat.le_of_ble_eq_true rfl⟩ hP hG hS [] rfl hl.1 rfl (Nat.le_of_ble_eq_true rfl) dX2_next_120 ⟨Nat.zero_le _, Nat.zero_le _⟩ (fun locs hS => ?_)
        refine W.eq (g2 := F0 m 123 ls [.int (bi (fX2_isDigit (t_source_bytes (y17 5).toNatClampNeg)))]) rfl ?_
        refine lv_if_eq (tgt := 133) hx hb dX2_next_123 (by decide) (fun c22 => ?_) (fun c22 => ?_)
        · have hf := if_t hf c22
          refine lv_aload_n hx hb dX2_next_133 rfl (lv_at hl 0 rfl) ?_
          refine lv_aload_n hx hb dX2_next_134 rfl (lv_at hl 0 rfl) ?_
          refine va_get (D := G.1) (cl := vwCl) (ci := 2) (v := .ref ad_t_source) (C := RX2) (T := TX2) (N := 8) hx hb hts inG2 hown hK hP 0 rfl rfl 3 (Nat.le_of_ble_eq_true rfl) (hts _ q426) (fun _ h9 => h9) rfl dX2_next_135 ?_
          refine va_get (D := G.1) (cl := vwCl) (ci := 7) (v := .ref ad_t_source_bytes) (C := RX7) (T := TX7) (N := 2) hx hb hts inG7 hown hK hP 1 rfl rfl 0 (Nat.le_of_ble_eq_true rfl) (hts _ q206) (fun _ h9 => h9) rfl dX2_next_138 ?_
          refine lv_aload_n hx hb dX2_next_141 rfl (lv_at hl 0 rfl) ?_
          refine va_get (D := G.1) (cl := vwCl) (ci := 2) (v := .int (y17 5)) (C := RX2) (T := TX2) (N := 8) hx hb hts inG2 hown hK hP 0 rfl rfl 5 (Nat.le_of_ble_eq_true rfl) (hts _ q428) (fun _ h9 => h9) rfl dX2_next_142 ?_
          obtain ⟨h23, hf⟩ := gd_some hf
          refine va_bald (D := G.1) (cl := vwCl) hx hb hK hP 2 1 rfl rfl (gi_in h23) dX2_next_145 ?_
          refine lv_bipush (v := 59) hx hb dX2_next_146 (by decide) ?_
          have J24 : wG p l e 2 40 s m [.ref ad_t] below meth cd H locs (eQ G A (fun r w => r = none ∧ w = [(ad_t, .inr (2, [.ref ad_t_told, .int (o 1), .int (o 2), .ref ad_t_source, .int (o 4), .int (o 5), .int (o 6), .int (o 7)])), (ad_t_source, .inr (7, [.ref ad_t_source_bytes, .int (t_sourceI 1)])), (ad_t_source_bytes, .inl (G.2.1 1, 300, .inl t_source_bytes))])) A (F0 m 156 ls [.int (if (t_source_bytes (y17 5).toNatClampNeg) = (59 : Int32) then (3 : Int32) else (4 : Int32)), .ref ad_t]) := by
            refine va_put (D := G.1) (cl := vwCl) (ci := 2) (v := .int (if (t_source_bytes (y17 5).toNatClampNeg) = (59 : Int32) then (3 : Int32) else (4 : Int32))) (ty := .int) (C := RX2) (T := TX2) (N := 8) hx hb hts inG2 tyX2 tyX2_ok nmX2 hown hK hP hD hS 0 rfl rfl 4 (Nat.le_of_ble_eq_true rfl) (hts _ q427) (fun _ h9 => h9) rfl (tyX2_ok 4 (Nat.le_of_ble_eq_true rfl)) rfl rfl (Nat.le_of_ble_eq_true rfl) dX2_next_156 (fun H locs hP hD hS => ?_)
            have hP : va_P G.1 vwCl [(ad_t, .inr (2, [.ref ad_t_told, .int (y17 1), .int (y17 2), .ref ad_t_source, .int (if (t_source_bytes (y17 5).toNatClampNeg) = (59 : Int32) then (3 : Int32) else (4 : Int32)), .int (y17 5), .int (y17 5), .int (y17 7)])), (ad_t_source, .inr (7, [.ref ad_t_source_bytes, .int (t_sourceI 1)])), (ad_t_source_bytes, .inl (G.2.1 1, 300, .inl t_source_bytes))] H := hP
            have hD : va_D A [(ad_t, .inr (2, [.ref ad_t_told, .int (y17 1), .int (y17 2), .ref ad_t_source, .int (if (t_source_bytes (y17 5).toNatClampNeg) = (59 : Int32) then (3 : Int32) else (4 : Int32)), .int (y17 5), .int (y17 5), .int (y17 7)])), (ad_t_source, .inr (7, [.ref ad_t_source_bytes, .int (t_sourceI 1)])), (ad_t_source_bytes, .inl (G.2.1 1, 300, .inl t_source_bytes))] := hD
            refine lv_aload_n hx hb dX2_next_159 rfl (lv_at hl 0 rfl) ?_
            refine lv_aload_n hx hb dX2_next_160 rfl (lv_at hl 0 rfl) ?_
            refine va_get (D := G.1) (cl := vwCl) (ci := 2) (v := .int (y17 5)) (C := RX2) (T := TX2) (N := 8) hx hb hts inG2 hown hK hP 0 rfl rfl 5 (Nat.le_of_ble_eq_true rfl) (hts _ q428) (fun _ h9 => h9) rfl dX2_next_161 ?_
            refine lv_iconst (v := 1) hx hb dX2_next_164 (by decide) ?_
            refine lv_iadd hx hb dX2_next_165 ?_
            refine va_put (D := G.1) (cl := vwCl) (ci := 2) (v := .int ((y17 5) + (1 : Int32))) (ty := .int) (C := RX2) (T := TX2) (N := 8) hx hb hts inG2 tyX2 tyX2_ok nmX2 hown hK hP hD hS 0 rfl rfl 6 (Nat.le_of_ble_eq_true rfl) (hts _ q429) (fun _ h9 => h9) rfl (tyX2_ok 6 (Nat.le_of_ble_eq_true rfl)) rfl rfl (Nat.le_of_ble_eq_true rfl) dX2_next_166 (fun H locs hP hD hS => ?_)
            have hP : va_P G.1 vwCl [(ad_t, .inr (2, [.ref ad_t_told, .int (y17 1), .int (y17 2), .ref ad_t_source, .int (if (t_source_bytes (y17 5).toNatClampNeg) = (59 : Int32) then (3 : Int32) else (4 : Int32)), .int (y17 5), .int ((y17 5) + (1 : Int32)), .int (y17 7)])), (ad_t_source, .inr (7, [.ref ad_t_source_bytes, .int (t_sourceI 1)])), (ad_t_source_bytes, .inl (G.2.1 1, 300, .inl t_source_bytes))] H := hP
            have hD : va_D A [(ad_t, .inr (2, [.ref ad_t_told, .int (y17 1), .int (y17 2), .ref ad_t_source, .int (if (t_source_bytes (y17 5).toNatClampNeg) = (59 : Int32) then (3 : Int32) else (4 : Int32)), .int (y17 5), .int ((y17 5) + (1 : Int32)), .int (y17 7)])), (ad_t_source, .inr (7, [.ref ad_t_source_bytes, .int (t_sourceI 1)])), (ad_t_source_bytes, .inl (G.2.1 1, 300, .inl t_source_bytes))] := hD
            have hf := Option.some.inj hf
            subst hf
            exact eRetV hx hb hr hlocks hP hD hS ⟨rfl, rfl⟩ dX2_next_169
          refine lv_icmp_ne (tgt := 155) hx hb dX2_next_148 (by decide) (fun c25 => ?_) (fun c25 => ?_)
          · refine lv_iconst (v := 4) hx hb dX2_next_155 (by decide) ?_
            exact (mgF c25 J24)
          · refine lv_iconst (v := 3) hx hb dX2_next_151 (by decide) ?_
            refine lv_goto (tgt := 156) hx hb dX2_next_152 (by decide) ?_
            exact (mgT c25 J24)
        · have hf := if_f hf c22
          refine lv_aload_n hx hb dX2_next_126 rfl (lv_at hl 0 rfl) ?_
          obtain ⟨a26, h27, hf⟩ := bn_some hf
          refine kEV (tX2_takeDigits l G ad_t ad_t_told ad_t_source ad_t_source_bytes (upd y17 6 (y17 5)) t_sourceI t_source_bytes a26 h27) ⟨hx, hb, hml, hown, hts⟩ q633 q635 q13 q104 q636 okyX2_takeDigits ⟨Nat.le_of_ble_eq_true rfl, Nat.le_of_ble_eq_true rfl⟩ hP hD hG hS hA [0, 1, 2] [] rfl (wr := []) rfl (by decide) 0 rfl rfl hl.1 rfl (Nat.le_of_ble_eq_true rfl) dX2_next_127 ⟨Nat.zero_le _, Nat.zero_le _⟩ (fun r w H locs hR hP hD hS => ?_)
          obtain ⟨rfl, rfl⟩ := hR
          have hP : va_P G.1 vwCl [(ad_t, .inr (2, [.ref ad_t_told, .int (a26 1), .int (a26 2), .ref ad_t_source, .int (a26 4), .int (a26 5), .int (a26 6), .int (a26 7)])), (ad_t_source, .inr (7, [.ref ad_t_source_bytes, .int (t_sourceI 1)])), (ad_t_source_bytes, .inl (G.2.1 1, 300, .inl t_source_bytes))] H := hP
          have hD : va_D A [(ad_t, .inr (2, [.ref ad_t_told, .int (a26 1), .int (a26 2), .ref ad_t_source, .int (a26 4), .int (a26 5), .int (a26 6), .int (a26 7)])), (ad_t_source, .inr (7, [.ref ad_t_source_bytes, .int (t_sourceI 1)])), (ad_t_source_bytes, .inl (G.2.1 1, 300, .inl t_source_bytes))] := hD
          refine W.eq (g2 := F0 m 130 ls []) rfl ?_
          refine lv_goto (tgt := 169) hx hb dX2_next_130 (by decide) ?_
          have hf := Option.some.inj hf
          subst hf
          exact eRetV hx hb hr hlocks hP hD hS ⟨rfl, rfl⟩ dX2_next_169
      · have hf := if_f hf c20
        refine lv_aload_n hx hb dX2_next_101 rfl (lv_at hl 0 rfl) ?_
        obtain ⟨a28, h29, hf⟩ := bn_some hf
        refine kEV (tX2_takeLetters l G ad_t ad_t_told ad_t_source ad_t_source_bytes (upd y17 6 (y17 5)) t_sourceI t_source_bytes a28 h29) ⟨hx, hb, hml, hown, hts⟩ q626 q628 q12 q104 q629 okyX2_takeLetters ⟨Nat.le_of_ble_eq_true rfl, Nat.le_of_ble_eq_true rfl⟩ hP hD hG hS hA [0, 1, 2] [] rfl (wr := []) rfl (by decide) 0 rfl rfl hl.1 rfl (Nat.le_of_ble_eq_true rfl) dX2_next_102 ⟨Nat.zero_le _, Nat.zero_le _⟩ (fun r w H locs hR hP hD hS => ?_)
        obtain ⟨rfl, rfl⟩ := hR
        have hP : va_P G.1 vwCl [(ad_t, .inr (2, [.ref ad_t_told, .int (a28 1), .int (a28 2), .ref ad_t_source, .int (a28 4), .int (a28 5), .int (a28 6), .int (a28 7)])), (ad_t_source, .inr (7, [.ref ad_t_source_bytes, .int (t_sourceI 1)])), (ad_t_source_bytes, .inl (G.2.1 1, 300, .inl t_source_bytes))] H := hP
        have hD : va_D A [(ad_t, .inr (2, [.ref ad_t_told, .int (a28 1), .int (a28 2), .ref ad_t_source, .int (a28 4), .int (a28 5), .int (a28 6), .int (a28 7)])), (ad_t_source, .inr (7, [.ref ad_t_source_bytes, .int (t_sourceI 1)])), (ad_t_source_bytes, .inl (G.2.1 1, 300, .inl t_source_bytes))] := hD
        refine W.eq (g2 := F0 m 105 ls []) rfl ?_
        refine lv_goto (tgt := 169) hx hb dX2_next_105 (by decide) ?_
        have hf := Option.some.inj hf
        subst hf
        exact eRetV hx hb hr hlocks hP hD hS ⟨rfl, rfl⟩ dX2_next_169
    · have hf := if_f hf c18
      refine lv_aload_n hx hb dX2_next_75 rfl (lv_at hl 0 rfl) ?_
      refine lv_iconst (v := 0) hx hb dX2_next_76 (by decide) ?_
      refine va_put (D := G.1) (cl := vwCl) (ci := 2) (v := .int (0 : Int32)) (ty := .int) (C := RX2) (T := TX2) (N := 8) hx hb hts inG2 tyX2 tyX2_ok nmX2 hown hK hP hD hS 0 rfl rfl 4 (Nat.le_of_ble_eq_true rfl) (hts _ q427) (fun _ h9 => h9) rfl (tyX2_ok 4 (Nat.le_of_ble_eq_true rfl)) rfl rfl (Nat.le_of_ble_eq_true rfl) dX2_next_77 (fun H locs hP hD hS => ?_)
      have hP : va_P G.1 vwCl [(ad_t, .inr (2, [.ref ad_t_told, .int (y17 1), .int (y17 2), .ref ad_t_source, .int (0 : Int32), .int (y17 5), .int (y17 5), .int (y17 7)])), (ad_t_source, .inr (7, [.ref ad_t_source_bytes, .int (t_sourceI 1)])), (ad_t_source_bytes, .inl (G.2.1 1, 300, .inl t_source_bytes))] H := hP
      have hD : va_D A [(ad_t, .inr (2, [.ref ad_t_told, .int (y17 1), .int (y17 2), .ref ad_t_source, .int (0 : Int32), .int (y17 5), .int (y17 5), .int (y17 7)])), (ad_t_source, .inr (7, [.ref ad_t_source_bytes, .int (t_sourceI 1)])), (ad_t_source_bytes, .inl (G.2.1 1, 300, .inl t_source_bytes))] := hD
      refine lv_goto (tgt := 169) hx hb dX2_next_80 (by decide) ?_
      have hf := Option.some.inj hf
      subst hf
      exact eRetV hx hb hr hlocks hP hD hS ⟨rfl, rfl⟩ dX2_next_169
  have Ly17 : ∀ (n : Nat), ∀ (g30 : Nat → Int32) (H : Heap) (locs : List Loc) (ls : Array Slot), lv_has ls 1 [(0, .ref ad_t)] → va_P G.1 vwCl [(ad_t, .inr (2, [.ref ad_t_told, .int (g30 1), .int (g30 2), .ref ad_t_source, .int (g30 4), .int (g30 5), .int (g30 6), .int (g30 7)])), (ad_t_source, .inr (7, [.ref ad_t_source_bytes, .int (t_sourceI 1)])), (ad_t_source_bytes, .inl (G.2.1 1, 300, .inl t_source_bytes))] H → va_D A [(ad_t, .inr (2, [.ref ad_t_told, .int (g30 1), .int (g30 2), .ref ad_t_source, .int (g30 4), .int (g30 5), .int (g30 6), .int (g30 7)])), (ad_t_source, .inr (7, [.ref ad_t_source_bytes, .int (t_sourceI 1)])), (ad_t_source_bytes, .inl (G.2.1 1, 300, .inl t_source_bytes))] → va_S A s.heap H locs → fX2_next_l8 t_sourceI t_source_bytes n g30 = some y17 → wG p l e 2 40 s m [.ref ad_t] below meth cd H locs (eQ G A (fun r w => r = none ∧ w = [(ad_t, .inr (2, [.ref ad_t_told, .int (o 1), .int (o 2), .ref ad_t_source, .int (o 4), .int (o 5), .int (o 6), .int (o 7)])), (ad_t_source, .inr (7, [.ref ad_t_source_bytes, .int (t_sourceI 1)])), (ad_t_source_bytes, .inl (G.2.1 1, 300, .inl t_source_bytes))])) A (F0 m 8 ls []) := by
    intro n
    induction n with
    | zero =>
      intro g30 H locs ls hl hP hD hS hf
      rw [fX2_next_l8] at hf
      cases hf
    | succ n ih =>
      intro g30 H locs ls hl hP hD hS hf
      rw [fX2_next_l8] at hf
      refine lv_aload_n hx hb dX2_next_8 rfl (lv_at hl 0 rfl) ?_
      refine va_get (D := G.1) (cl := vwCl) (ci := 2) (v := .int (g30 5)) (C := RX2) (T := TX2) (N := 8) hx hb hts inG2 hown hK hP 0 rfl rfl 5 (Nat.le_of_ble_eq_true rfl) (hts _ q428) (fun _ h9 => h9) rfl dX2_next_9 ?_
      refine lv_aload_n hx hb dX2_next_12 rfl (lv_at hl 0 rfl) ?_
      refine va_get (D := G.1) (cl := vwCl) (ci := 2) (v := .ref ad_t_source) (C := RX2) (T := TX2) (N := 8) hx hb hts inG2 hown hK hP 0 rfl rfl 3 (Nat.le_of_ble_eq_true rfl) (hts _ q426) (fun _ h9 => h9) rfl dX2_next_13 ?_
      refine va_get (D := G.1) (cl := vwCl) (ci := 7) (v := .int (t_sourceI 1)) (C := RX7) (T := TX7) (N := 2) hx hb hts inG7 hown hK hP 1 rfl rfl 1 (Nat.le_of_ble_eq_true rfl) (hts _ q210) (fun _ h9 => h9) rfl dX2_next_16 ?_
      refine lv_icmp_ge (tgt := 53) hx hb dX2_next_19 (by decide) (fun c31 => ?_) (fun c31 => ?_)
      · have hf := if_t hf c31
        have hf := Option.some.inj hf
        subst hf
        exact Ey17  H locs ls (lv_sub hl [0] rfl) hP hD hS 
      · have hf := if_f hf c31
        refine lv_aload_n hx hb dX2_next_22 rfl (lv_at hl 0 rfl) ?_
        refine va_get (D := G.1) (cl := vwCl) (ci := 2) (v := .ref ad_t_source) (C := RX2) (T := TX2) (N := 8) hx hb hts inG2 hown hK hP 0 rfl rfl 3 (Nat.le_of_ble_eq_true rfl) (hts _ q426) (fun _ h9 => h9) rfl dX2_next_23 ?_
        refine va_get (D := G.1) (cl := vwCl) (ci := 7) (v := .ref ad_t_source_bytes) (C := RX7) (T := TX7) (N := 2) hx hb hts inG7 hown hK hP 1 rfl rfl 0 (Nat.le_of_ble_eq_true rfl) (hts _ q206) (fun _ h9 => h9) rfl dX2_next_26 ?_
        refine lv_aload_n hx hb dX2_next_29 rfl (lv_at hl 0 rfl) ?_
        refine va_get (D := G.1) (cl := vwCl) (ci := 2) (v := .int (g30 5)) (C := RX2) (T := TX2) (N := 8) hx hb hts inG2 hown hK hP 0 rfl rfl 5 (Nat.le_of_ble_eq_true rfl) (hts _ q428) (fun _ h9 => h9) rfl dX2_next_30 ?_
        obtain ⟨h32, hf⟩ := gd_some hf
        refine va_bald (D := G.1) (cl := vwCl) hx hb hK hP 2 1 rfl rfl (gi_in h32) dX2_next_33 ?_
        refine kPS (tX2_isBlank l G (t_source_bytes (g30 5).toNatClampNeg) _ rfl) ⟨hx, hb, hml, hown, hts⟩ q620 q621 q104 q622 okyX2_isBlank ⟨Nat.le_of_ble_eq_true rfl, Nat.le_of_ble_eq_true rfl⟩ hP hG hS [] rfl hl.1 rfl (Nat.le_of_ble_eq_true rfl) dX2_next_34 ⟨Nat.zero_le _, Nat.zero_le _⟩ (fun locs hS => ?_)
        refine W.eq (g2 := F0 m 37 ls [.int (bi (fX2_isBlank (t_source_bytes (g30 5).toNatClampNeg)))]) rfl ?_
        refine lv_if_eq (tgt := 53) hx hb dX2_next_37 (by decide) (fun c33 => ?_) (fun c33 => ?_)
        · have hf := if_t hf c33
          have hf := Option.some.inj hf
          subst hf
          exact Ey17  H locs ls (lv_sub hl [0] rfl) hP hD hS 
        · have hf := if_f hf c33
          refine lv_aload_n hx hb dX2_next_40 rfl (lv_at hl 0 rfl) ?_
          refine lv_dup hx hb dX2_next_41 rfl ?_
          refine va_get (D := G.1) (cl := vwCl) (ci := 2) (v := .int (g30 5)) (C := RX2) (T := TX2) (N := 8) hx hb hts inG2 hown hK hP 0 rfl rfl 5 (Nat.le_of_ble_eq_true rfl) (hts _ q428) (fun _ h9 => h9) rfl dX2_next_42 ?_
          refine lv_iconst (v := 1) hx hb dX2_next_45 (by decide) ?_
          refine lv_iadd hx hb dX2_next_46 ?_
          refine va_put (D := G.1) (cl := vwCl) (ci := 2) (v := .int ((g30 5) + (1 : Int32))) (ty := .int) (C := RX2) (T := TX2) (N := 8) hx hb hts inG2 tyX2 tyX2_ok nmX2 hown hK hP hD hS 0 rfl rfl 5 (Nat.le_of_ble_eq_true rfl) (hts _ q428) (fun _ h9 => h9) rfl (tyX2_ok 5 (Nat.le_of_ble_eq_true rfl)) rfl rfl (Nat.le_of_ble_eq_true rfl) dX2_next_47 (fun H locs hP hD hS => ?_)
          have hP : va_P G.1 vwCl [(ad_t, .inr (2, [.ref ad_t_told, .int (g30 1), .int (g30 2), .ref ad_t_source, .int (g30 4), .int ((g30 5) + (1 : Int32)), .int (g30 6), .int (g30 7)])), (ad_t_source, .inr (7, [.ref ad_t_source_bytes, .int (t_sourceI 1)])), (ad_t_source_bytes, .inl (G.2.1 1, 300, .inl t_source_bytes))] H := hP
          have hD : va_D A [(ad_t, .inr (2, [.ref ad_t_told, .int (g30 1), .int (g30 2), .ref ad_t_source, .int (g30 4), .int ((g30 5) + (1 : Int32)), .int (g30 6), .int (g30 7)])), (ad_t_source, .inr (7, [.ref ad_t_source_bytes, .int (t_sourceI 1)])), (ad_t_source_bytes, .inl (G.2.1 1, 300, .inl t_source_bytes))] := hD
          refine lv_goto (tgt := 8) hx hb dX2_next_50 (by decide) ?_
          exact ih (upd g30 5 ((g30 5) + (1 : Int32))) H locs ls (lv_sub hl [0] rfl) hP hD hS hf
  exact Ly17 FU (upd tI 5 (tI 6)) H locs ls (lv_sub hl [0] rfl) hP hD hS hLy17

def fX4_make (tI : Nat → Int32) (t_sizes : Nat → Int32) (p0 : Nat → Int32) (p1 : Int32) (p2 : Int32) : Option (Bool × (Nat → Int32) × (Nat → Int32)) :=
  (if p2 = 0 then some (false, tI, t_sizes) else bn (fX10_canBe (2 : Int32) p2) fun a2 => (if (bi a2) = 0 then some (false, tI, t_sizes) else (if (p1 >>> ((fX10_log p2) &&& 31)) < (8 : Int32) then some (false, (upd (upd tI 1 (p1 >>> ((fX10_log p2) &&& 31))) 6 (fX10_log p2)), t_sizes) else (if (p1 >>> ((fX10_log p2) &&& 31)) ≤ (512 : Int32) then bn (fX4_chooseStages (upd (upd (upd (upd (upd (upd tI 1 (p1 >>> ((fX10_log p2) &&& 31))) 2 ((p0 1) * p2)) 3 (((p1 >>> ((fX10_log p2) &&& 31)) + (p0 3)) + (1 : Int32))) 4 ((((p0 1) * p2) + (p0 4)) + (1 : Int32))) 5 (fX10_log (p1 >>> ((fX10_log p2) &&& 31)))) 6 (fX10_log p2))) fun a7 => bn (fX4_sizeStages a7 t_sizes) fun a9 => gd (gi ((a7 9) - (1 : Int32)) 8) (bn (fX4_mostPulls (upd (upd (upd (upd (upd a7 12 ((((a7 4) * (p0 5)) + ((12 : Int32) * (a7 5))) + (a9 ((a7 9) - (1 : Int32)).toNatClampNeg))) 13 ((((a7 3) * (p0 6)) + (30 : Int32)) + ((8 : Int32) * (a7 6)))) 14 (((a7 4) * (a7 4)) / (20 : Int32))) 15 ((3 : Int32) * (a7 3))) 16 ((20 : Int32) + ((5 : Int32) * (a7 6)))) (p0 7)) fun a12 => some (true, (upd (upd (upd (upd (upd (upd a7 12 ((((a7 4) * (p0 5)) + ((12 : Int32) * (a7 5))) + (a9 ((a7 9) - (1 : Int32)).toNatClampNeg))) 13 ((((a7 3) * (p0 6)) + (30 : Int32)) + ((8 : Int32) * (a7 6)))) 14 (((a7 4) * (a7 4)) / (20 : Int32))) 15 ((3 : Int32) * (a7 3))) 16 ((20 : Int32) + ((5 : Int32) * (a7 6)))) 17 a12), a9)) else some (false, (upd (upd tI 1 (p1 >>> ((fX10_log p2) &&& 31))) 6 (fX10_log p2)), t_sizes)))))
set_option maxRecDepth 100000 in
set_option maxHeartbeats 4000000 in
theorem tX4_make (l : Launch) (G : gG) (ad_t ad_t_sizes ad_p0 : Nat) (tI : Nat → Int32) (t_sizes : Nat → Int32) (p0 : Nat → Int32) (p1 : Int32) (p2 : Int32) (o : Bool × (Nat → Int32) × (Nat → Int32)) (hf : fX4_make tI t_sizes p0 p1 p2 = some o) : mE G l yX4_make cX4_make 4 (some .boolean) 2 50 0 0 [.ref ad_t, .ref ad_p0, .int p1, .int p2] [(ad_t, .inr (4, [.ref ad_t_sizes, .int (tI 1), .int (tI 2), .int (tI 3), .int (tI 4), .int (tI 5), .int (tI 6), .int (tI 7), .int (tI 8), .int (tI 9), .int (tI 10), .int (tI 11), .int (tI 12), .int (tI 13), .int (tI 14), .int (tI 15), .int (tI 16), .int (tI 17)])), (ad_t_sizes, .inl (G.2.1 0, 8, .inl t_sizes)), (ad_p0, .inl (G.2.1 0, 9, .inl p0))] (fun r w => r = (some (.int (bi o.1))) ∧ w = [(ad_t, .inr (4, [.ref ad_t_sizes, .int (o.2.1 1), .int (o.2.1 2), .int (o.2.1 3), .int (o.2.1 4), .int (o.2.1 5), .int (o.2.1 6), .int (o.2.1 7), .int (o.2.1 8), .int (o.2.1 9), .int (o.2.1 10), .int (o.2.1 11), .int (o.2.1 12), .int (o.2.1 13), .int (o.2.1 14), .int (o.2.1 15), .int (o.2.1 16), .int (o.2.1 17)])), (ad_t_sizes, .inl (G.2.1 0, 8, .inl o.2.2)), (ad_p0, .inl (G.2.1 0, 9, .inl p0))]) := by
  refine mE_of (by decide) (Nat.le_of_ble_eq_true rfl) ?_
  intro p e s m below meth cd ls A hx hb hml hown hts hr hlocks hnm hl hA hP hD hS hG
  have hK := hG.1
  have hown : s.vm.findClass RX4 = some m.cls := hown
  have hl : lv_has ls 4 [(0, .ref ad_t), (1, .ref ad_p0), (2, .int p1), (3, .int p2)] := hl
  have hS := hS
  unfold fX4_make at hf
  obtain ⟨H, locs, eH, eL⟩ : ∃ (H : Heap) (locs : List Loc), H = s.heap ∧ locs = [] := ⟨_, _, rfl, rfl⟩
  have hP : va_P G.1 vwCl [(ad_t, .inr (4, [.ref ad_t_sizes, .int (tI 1), .int (tI 2), .int (tI 3), .int (tI 4), .int (tI 5), .int (tI 6), .int (tI 7), .int (tI 8), .int (tI 9), .int (tI 10), .int (tI 11), .int (tI 12), .int (tI 13), .int (tI 14), .int (tI 15), .int (tI 16), .int (tI 17)])), (ad_t_sizes, .inl (G.2.1 0, 8, .inl t_sizes)), (ad_p0, .inl (G.2.1 0, 9, .inl p0))] H := eH ▸ hP
  have hS : va_S A s.heap H locs := by rw [eH, eL]; exact hS
  suffices hgo : wG p l e 2 50 s m [.ref ad_t, .ref ad_p0, .int p1, .int p2] below meth cd H locs (eQ G A (fun r w => r = (some (.int (bi o.1))) ∧ w = [(ad_t, .inr (4, [.ref ad_t_sizes, .int (o.2.1 1), .int (o.2.1 2), .int (o.2.1 3), .int (o.2.1 4), .int (o.2.1 5), .int (o.2.1 6), .int (o.2.1 7), .int (o.2.1 8), .int (o.2.1 9), .int (o.2.1 10), .int (o.2.1 11), .int (o.2.1 12), .int (o.2.1 13), .int (o.2.1 14), .int (o.2.1 15), .int (o.2.1 16), .int (o.2.1 17)])), (ad_t_sizes, .inl (G.2.1 0, 8, .inl o.2.2)), (ad_p0, .inl (G.2.1 0, 9, .inl p0))])) A (F0 m 0 ls []) by rw [eH, eL] at hgo; exact hgo
  clear eH eL
  refine lv_iload_n hx hb dX4_make_0 rfl (lv_at hl 3 rfl) ?_
  refine lv_if_eq (tgt := 12) hx hb dX4_make_1 (by decide) (fun c14 => ?_) (fun c14 => ?_)
  · have hf := if_t hf c14
    refine lv_iconst (v := 0) hx hb dX4_make_12 (by decide) ?_
    have hf := Option.some.inj hf
    subst hf
    exact eRetZ (v := false) hx hb hr hlocks hP hD hS ⟨rfl, rfl⟩ dX4_make_13
  · have hf := if_f hf c14
    refine lv_iconst (v := 2) hx hb dX4_make_4 (by decide) ?_
    refine lv_iload_n hx hb dX4_make_5 rfl (lv_at hl 3 rfl) ?_
    obtain ⟨a15, h16, hf⟩ := bn_some hf
    refine kPSN (tX10_canBe l G (2 : Int32) p2 a15 h16) ⟨hx, hb, hml, hown, hts⟩ n_mn_X4_15 q480 q94 q481 okyX10_canBe ⟨Nat.le_of_ble_eq_true rfl, Nat.le_of_ble_eq_true rfl⟩ hP hG hS [] rfl hl.1 rfl (Nat.le_of_ble_eq_true rfl) dX4_make_6 ⟨Nat.zero_le _, Nat.zero_le _⟩ (fun locs hS => ?_)
    refine W.eq (g2 := F0 m 9 ls [.int (bi a15)]) rfl ?_
    refine lv_if_ne (tgt := 14) hx hb dX4_make_9 (by decide) (fun c17 => ?_) (fun c17 => ?_)
    · have hf := if_f hf c17
      refine lv_aload_n hx hb dX4_make_14 rfl (lv_at hl 0 rfl) ?_
      refine lv_iload_n hx hb dX4_make_15 rfl (lv_at hl 3 rfl) ?_
      refine kPSN (tX10_log l G p2 _ rfl) ⟨hx, hb, hml, hown, hts⟩ n_mn_X4_19 q487 q94 q488 okyX10_log ⟨Nat.le_of_ble_eq_true rfl, Nat.le_of_ble_eq_true rfl⟩ hP hG hS [] rfl hl.1 rfl (Nat.le_of_ble_eq_true rfl) dX4_make_16 ⟨Nat.zero_le _, Nat.zero_le _⟩ (fun locs hS => ?_)
      refine W.eq (g2 := F0 m 19 ls [.int (fX10_log p2), .ref ad_t]) rfl ?_
      refine va_put (D := G.1) (cl := vwCl) (ci := 4) (v := .int (fX10_log p2)) (ty := .int) (C := RX4) (T := TX4) (N := 18) hx hb hts inG4 tyX4 tyX4_ok nmX4 hown hK hP hD hS 0 rfl rfl 6 (Nat.le_of_ble_eq_true rfl) (hts _ q354) (fun _ h9 => h9) rfl (tyX4_ok 6 (Nat.le_of_ble_eq_true rfl)) rfl rfl (Nat.le_of_ble_eq_true rfl) dX4_make_19 (fun H locs hP hD hS => ?_)
      have hP : va_P G.1 vwCl [(ad_t, .inr (4, [.ref ad_t_sizes, .int (tI 1), .int (tI 2), .int (tI 3), .int (tI 4), .int (tI 5), .int (fX10_log p2), .int (tI 7), .int (tI 8), .int (tI 9), .int (tI 10), .int (tI 11), .int (tI 12), .int (tI 13), .int (tI 14), .int (tI 15), .int (tI 16), .int (tI 17)])), (ad_t_sizes, .inl (G.2.1 0, 8, .inl t_sizes)), (ad_p0, .inl (G.2.1 0, 9, .inl p0))] H := hP
      have hD : va_D A [(ad_t, .inr (4, [.ref ad_t_sizes, .int (tI 1), .int (tI 2), .int (tI 3), .int (tI 4), .int (tI 5), .int (fX10_log p2), .int (tI 7), .int (tI 8), .int (tI 9), .int (tI 10), .int (tI 11), .int (tI 12), .int (tI 13), .int (tI 14), .int (tI 15), .int (tI 16), .int (tI 17)])), (ad_t_sizes, .inl (G.2.1 0, 8, .inl t_sizes)), (ad_p0, .inl (G.2.1 0, 9, .inl p0))] := hD
      refine lv_aload_n hx hb dX4_make_22 rfl (lv_at hl 0 rfl) ?_
      refine lv_iload_n hx hb dX4_make_23 rfl (lv_at hl 2 rfl) ?_
      refine lv_aload_n hx hb dX4_make_24 rfl (lv_at hl 0 rfl) ?_
      refine va_get (D := G.1) (cl := vwCl) (ci := 4) (v := .int (fX10_log p2)) (C := RX4) (T := TX4) (N := 18) hx hb hts inG4 hown hK hP 0 rfl rfl 6 (Nat.le_of_ble_eq_true rfl) (hts _ q354) (fun _ h9 => h9) rfl dX4_make_25 ?_
      refine lv_ishr hx hb dX4_make_28 ?_
      refine va_put (D := G.1) (cl := vwCl) (ci := 4) (v := .int (p1 >>> ((fX10_log p2) &&& 31))) (ty := .int) (C := RX4) (T := TX4) (N := 18) hx hb hts inG4 tyX4 tyX4_ok nmX4 hown hK hP hD hS 0 rfl rfl 1 (Nat.le_of_ble_eq_true rfl) (hts _ q347) (fun _ h9 => h9) rfl (tyX4_ok 1 (Nat.le_of_ble_eq_true rfl)) rfl rfl (Nat.le_of_ble_eq_true rfl) dX4_make_29 (fun H locs hP hD hS => ?_)
      have hP : va_P G.1 vwCl [(ad_t, .inr (4, [.ref ad_t_sizes, .int (p1 >>> ((fX10_log p2) &&& 31)), .int (tI 2), .int (tI 3), .int (tI 4), .int (tI 5), .int (fX10_log p2), .int (tI 7), .int (tI 8), .int (tI 9), .int (tI 10), .int (tI 11), .int (tI 12), .int (tI 13), .int (tI 14), .int (tI 15), .int (tI 16), .int (tI 17)])), (ad_t_sizes, .inl (G.2.1 0, 8, .inl t_sizes)), (ad_p0, .inl (G.2.1 0, 9, .inl p0))] H := hP
      have hD : va_D A [(ad_t, .inr (4, [.ref ad_t_sizes, .int (p1 >>> ((fX10_log p2) &&& 31)), .int (tI 2), .int (tI 3), .int (tI 4), .int (tI 5), .int (fX10_log p2), .int (tI 7), .int (tI 8), .int (tI 9), .int (tI 10), .int (tI 11), .int (tI 12), .int (tI 13), .int (tI 14), .int (tI 15), .int (tI 16), .int (tI 17)])), (ad_t_sizes, .inl (G.2.1 0, 8, .inl t_sizes)), (ad_p0, .inl (G.2.1 0, 9, .inl p0))] := hD
      refine lv_aload_n hx hb dX4_make_32 rfl (lv_at hl 0 rfl) ?_
      refine va_get (D := G.1) (cl := vwCl) (ci := 4) (v := .int (p1 >>> ((fX10_log p2) &&& 31))) (C := RX4) (T := TX4) (N := 18) hx hb hts inG4 hown hK hP 0 rfl rfl 1 (Nat.le_of_ble_eq_true rfl) (hts _ q347) (fun _ h9 => h9) rfl dX4_make_33 ?_
      refine lv_bipush (v := 8) hx hb dX4_make_36 (by decide) ?_
      refine lv_icmp_lt (tgt := 51) hx hb dX4_make_38 (by decide) (fun c18 => ?_) (fun c18 => ?_)
      · have hf := if_t hf c18
        refine lv_iconst (v := 0) hx hb dX4_make_51 (by decide) ?_
        have hf := Option.some.inj hf
        subst hf
        exact eRetZ (v := false) hx hb hr hlocks hP hD hS ⟨rfl, rfl⟩ dX4_make_52
      · have hf := if_f hf c18
        refine lv_aload_n hx hb dX4_make_41 rfl (lv_at hl 0 rfl) ?_
        refine va_get (D := G.1) (cl := vwCl) (ci := 4) (v := .int (p1 >>> ((fX10_log p2) &&& 31))) (C := RX4) (T := TX4) (N := 18) hx hb hts inG4 hown hK hP 0 rfl rfl 1 (Nat.le_of_ble_eq_true rfl) (hts _ q347) (fun _ h9 => h9) rfl dX4_make_42 ?_
        refine lv_sipush (v := 512) hx hb dX4_make_45 (by decide) ?_
        refine lv_icmp_le (tgt := 53) hx hb dX4_make_48 (by decide) (fun c19 => ?_) (fun c19 => ?_)
        · have hf := if_t hf c19
          refine lv_aload_n hx hb dX4_make_53 rfl (lv_at hl 0 rfl) ?_
          refine lv_aload_n hx hb dX4_make_54 rfl (lv_at hl 0 rfl) ?_
          refine va_get (D := G.1) (cl := vwCl) (ci := 4) (v := .int (p1 >>> ((fX10_log p2) &&& 31))) (C := RX4) (T := TX4) (N := 18) hx hb hts inG4 hown hK hP 0 rfl rfl 1 (Nat.le_of_ble_eq_true rfl) (hts _ q347) (fun _ h9 => h9) rfl dX4_make_55 ?_
          refine kPSN (tX10_log l G (p1 >>> ((fX10_log p2) &&& 31)) _ rfl) ⟨hx, hb, hml, hown, hts⟩ n_mn_X4_19 q487 q94 q488 okyX10_log ⟨Nat.le_of_ble_eq_true rfl, Nat.le_of_ble_eq_true rfl⟩ hP hG hS [] rfl hl.1 rfl (Nat.le_of_ble_eq_true rfl) dX4_make_58 ⟨Nat.zero_le _, Nat.zero_le _⟩ (fun locs hS => ?_)
          refine W.eq (g2 := F0 m 61 ls [.int (fX10_log (p1 >>> ((fX10_log p2) &&& 31))), .ref ad_t]) rfl ?_
          refine va_put (D := G.1) (cl := vwCl) (ci := 4) (v := .int (fX10_log (p1 >>> ((fX10_log p2) &&& 31)))) (ty := .int) (C := RX4) (T := TX4) (N := 18) hx hb hts inG4 tyX4 tyX4_ok nmX4 hown hK hP hD hS 0 rfl rfl 5 (Nat.le_of_ble_eq_true rfl) (hts _ q353) (fun _ h9 => h9) rfl (tyX4_ok 5 (Nat.le_of_ble_eq_true rfl)) rfl rfl (Nat.le_of_ble_eq_true rfl) dX4_make_61 (fun H locs hP hD hS => ?_)
          have hP : va_P G.1 vwCl [(ad_t, .inr (4, [.ref ad_t_sizes, .int (p1 >>> ((fX10_log p2) &&& 31)), .int (tI 2), .int (tI 3), .int (tI 4), .int (fX10_log (p1 >>> ((fX10_log p2) &&& 31))), .int (fX10_log p2), .int (tI 7), .int (tI 8), .int (tI 9), .int (tI 10), .int (tI 11), .int (tI 12), .int (tI 13), .int (tI 14), .int (tI 15), .int (tI 16), .int (tI 17)])), (ad_t_sizes, .inl (G.2.1 0, 8, .inl t_sizes)), (ad_p0, .inl (G.2.1 0, 9, .inl p0))] H := hP
          have hD : va_D A [(ad_t, .inr (4, [.ref ad_t_sizes, .int (p1 >>> ((fX10_log p2) &&& 31)), .int (tI 2), .int (tI 3), .int (tI 4), .int (fX10_log (p1 >>> ((fX10_log p2) &&& 31))), .int (fX10_log p2), .int (tI 7), .int (tI 8), .int (tI 9), .int (tI 10), .int (tI 11), .int (tI 12), .int (tI 13), .int (tI 14), .int (tI 15), .int (tI 16), .int (tI 17)])), (ad_t_sizes, .inl (G.2.1 0, 8, .inl t_sizes)), (ad_p0, .inl (G.2.1 0, 9, .inl p0))] := hD
          refine lv_aload_n hx hb dX4_make_64 rfl (lv_at hl 0 rfl) ?_
          refine lv_aload_n hx hb dX4_make_65 rfl (lv_at hl 1 rfl) ?_
          refine lv_iconst (v := 1) hx hb dX4_make_66 (by decide) ?_
          refine va_iald (D := G.1) (cl := vwCl) hx hb hK hP 2 0 rfl rfl (vin (by decide)) dX4_make_67 ?_
          refine lv_ti (v := (p0 1)) (congrArg (p0) (tn 1)) ?_
          refine lv_iload_n hx hb dX4_make_68 rfl (lv_at hl 3 rfl) ?_
          refine lv_imul hx hb dX4_make_69 ?_
          refine va_put (D := G.1) (cl := vwCl) (ci := 4) (v := .int ((p0 1) * p2)) (ty := .int) (C := RX4) (T := TX4) (N := 18) hx hb hts inG4 tyX4 tyX4_ok nmX4 hown hK hP hD hS 0 rfl rfl 2 (Nat.le_of_ble_eq_true rfl) (hts _ q349) (fun _ h9 => h9) rfl (tyX4_ok 2 (Nat.le_of_ble_eq_true rfl)) rfl rfl (Nat.le_of_ble_eq_true rfl) dX4_make_70 (fun H locs hP hD hS => ?_)
          have hP : va_P G.1 vwCl [(ad_t, .inr (4, [.ref ad_t_sizes, .int (p1 >>> ((fX10_log p2) &&& 31)), .int ((p0 1) * p2), .int (tI 3), .int (tI 4), .int (fX10_log (p1 >>> ((fX10_log p2) &&& 31))), .int (fX10_log p2), .int (tI 7), .int (tI 8), .int (tI 9), .int (tI 10), .int (tI 11), .int (tI 12), .int (tI 13), .int (tI 14), .int (tI 15), .int (tI 16), .int (tI 17)])), (ad_t_sizes, .inl (G.2.1 0, 8, .inl t_sizes)), (ad_p0, .inl (G.2.1 0, 9, .inl p0))] H := hP
          have hD : va_D A [(ad_t, .inr (4, [.ref ad_t_sizes, .int (p1 >>> ((fX10_log p2) &&& 31)), .int ((p0 1) * p2), .int (tI 3), .int (tI 4), .int (fX10_log (p1 >>> ((fX10_log p2) &&& 31))), .int (fX10_log p2), .int (tI 7), .int (tI 8), .int (tI 9), .int (tI 10), .int (tI 11), .int (tI 12), .int (tI 13), .int (tI 14), .int (tI 15), .int (tI 16), .int (tI 17)])), (ad_t_sizes, .inl (G.2.1 0, 8, .inl t_sizes)), (ad_p0, .inl (G.2.1 0, 9, .inl p0))] := hD
          refine lv_aload_n hx hb dX4_make_73 rfl (lv_at hl 0 rfl) ?_
          refine lv_aload_n hx hb dX4_make_74 rfl (lv_at hl 0 rfl) ?_
          refine va_get (D := G.1) (cl := vwCl) (ci := 4) (v := .int (p1 >>> ((fX10_log p2) &&& 31))) (C := RX4) (T := TX4) (N := 18) hx hb hts inG4 hown hK hP 0 rfl rfl 1 (Nat.le_of_ble_eq_true rfl) (hts _ q347) (fun _ h9 => h9) rfl dX4_make_75 ?_
          refine lv_aload_n hx hb dX4_make_78 rfl (lv_at hl 1 rfl) ?_
          refine lv_iconst (v := 3) hx hb dX4_make_79 (by decide) ?_
          refine va_iald (D := G.1) (cl := vwCl) hx hb hK hP 2 0 rfl rfl (vin (by decide)) dX4_make_80 ?_
          refine lv_ti (v := (p0 3)) (congrArg (p0) (tn 3)) ?_
          refine lv_iadd hx hb dX4_make_81 ?_
          refine lv_iconst (v := 1) hx hb dX4_make_82 (by decide) ?_
          refine lv_iadd hx hb dX4_make_83 ?_
          refine va_put (D := G.1) (cl := vwCl) (ci := 4) (v := .int (((p1 >>> ((fX10_log p2) &&& 31)) + (p0 3)) + (1 : Int32))) (ty := .int) (C := RX4) (T := TX4) (N := 18) hx hb hts inG4 tyX4 tyX4_ok nmX4 hown hK hP hD hS 0 rfl rfl 3 (Nat.le_of_ble_eq_true rfl) (hts _ q351) (fun _ h9 => h9) rfl (tyX4_ok 3 (Nat.le_of_ble_eq_true rfl)) rfl rfl (Nat.le_of_ble_eq_true rfl) dX4_make_84 (fun H locs hP hD hS => ?_)
          have hP : va_P G.1 vwCl [(ad_t, .inr (4, [.ref ad_t_sizes, .int (p1 >>> ((fX10_log p2) &&& 31)), .int ((p0 1) * p2), .int (((p1 >>> ((fX10_log p2) &&& 31)) + (p0 3)) + (1 : Int32)), .int (tI 4), .int (fX10_log (p1 >>> ((fX10_log p2) &&& 31))), .int (fX10_log p2), .int (tI 7), .int (tI 8), .int (tI 9), .int (tI 10), .int (tI 11), .int (tI 12), .int (tI 13), .int (tI 14), .int (tI 15), .int (tI 16), .int (tI 17)])), (ad_t_sizes, .inl (G.2.1 0, 8, .inl t_sizes)), (ad_p0, .inl (G.2.1 0, 9, .inl p0))] H := hP
          have hD : va_D A [(ad_t, .inr (4, [.ref ad_t_sizes, .int (p1 >>> ((fX10_log p2) &&& 31)), .int ((p0 1) * p2), .int (((p1 >>> ((fX10_log p2) &&& 31)) + (p0 3)) + (1 : Int32)), .int (tI 4), .int (fX10_log (p1 >>> ((fX10_log p2) &&& 31))), .int (fX10_log p2), .int (tI 7), .int (tI 8), .int (tI 9), .int (tI 10), .int (tI 11), .int (tI 12), .int (tI 13), .int (tI 14), .int (tI 15), .int (tI 16), .int (tI 17)])), (ad_t_sizes, .inl (G.2.1 0, 8, .inl t_sizes)), (ad_p0, .inl (G.2.1 0, 9, .inl p0))] := hD
          refine lv_aload_n hx hb dX4_make_87 rfl (lv_at hl 0 rfl) ?_
          refine lv_aload_n hx hb dX4_make_88 rfl (lv_at hl 0 rfl) ?_
          refine va_get (D := G.1) (cl := vwCl) (ci := 4) (v := .int ((p0 1) * p2)) (C := RX4) (T := TX4) (N := 18) hx hb hts inG4 hown hK hP 0 rfl rfl 2 (Nat.le_of_ble_eq_true rfl) (hts _ q349) (fun _ h9 => h9) rfl dX4_make_89 ?_
          refine lv_aload_n hx hb dX4_make_92 rfl (lv_at hl 1 rfl) ?_
          refine lv_iconst (v := 4) hx hb dX4_make_93 (by decide) ?_
          refine va_iald (D := G.1) (cl := vwCl) hx hb hK hP 2 0 rfl rfl (vin (by decide)) dX4_make_94 ?_
          refine lv_ti (v := (p0 4)) (congrArg (p0) (tn 4)) ?_
          refine lv_iadd hx hb dX4_make_95 ?_
          refine lv_iconst (v := 1) hx hb dX4_make_96 (by decide) ?_
          refine lv_iadd hx hb dX4_make_97 ?_
          refine va_put (D := G.1) (cl := vwCl) (ci := 4) (v := .int ((((p0 1) * p2) + (p0 4)) + (1 : Int32))) (ty := .int) (C := RX4) (T := TX4) (N := 18) hx hb hts inG4 tyX4 tyX4_ok nmX4 hown hK hP hD hS 0 rfl rfl 4 (Nat.le_of_ble_eq_true rfl) (hts _ q352) (fun _ h9 => h9) rfl (tyX4_ok 4 (Nat.le_of_ble_eq_true rfl)) rfl rfl (Nat.le_of_ble_eq_true rfl) dX4_make_98 (fun H locs hP hD hS => ?_)
          have hP : va_P G.1 vwCl [(ad_t, .inr (4, [.ref ad_t_sizes, .int (p1 >>> ((fX10_log p2) &&& 31)), .int ((p0 1) * p2), .int (((p1 >>> ((fX10_log p2) &&& 31)) + (p0 3)) + (1 : Int32)), .int ((((p0 1) * p2) + (p0 4)) + (1 : Int32)), .int (fX10_log (p1 >>> ((fX10_log p2) &&& 31))), .int (fX10_log p2), .int (tI 7), .int (tI 8), .int (tI 9), .int (tI 10), .int (tI 11), .int (tI 12), .int (tI 13), .int (tI 14), .int (tI 15), .int (tI 16), .int (tI 17)])), (ad_t_sizes, .inl (G.2.1 0, 8, .inl t_sizes)), (ad_p0, .inl (G.2.1 0, 9, .inl p0))] H := hP
          have hD : va_D A [(ad_t, .inr (4, [.ref ad_t_sizes, .int (p1 >>> ((fX10_log p2) &&& 31)), .int ((p0 1) * p2), .int (((p1 >>> ((fX10_log p2) &&& 31)) + (p0 3)) + (1 : Int32)), .int ((((p0 1) * p2) + (p0 4)) + (1 : Int32)), .int (fX10_log (p1 >>> ((fX10_log p2) &&& 31))), .int (fX10_log p2), .int (tI 7), .int (tI 8), .int (tI 9), .int (tI 10), .int (tI 11), .int (tI 12), .int (tI 13), .int (tI 14), .int (tI 15), .int (tI 16), .int (tI 17)])), (ad_t_sizes, .inl (G.2.1 0, 8, .inl t_sizes)), (ad_p0, .inl (G.2.1 0, 9, .inl p0))] := hD
          refine lv_aload_n hx hb dX4_make_101 rfl (lv_at hl 0 rfl) ?_
          obtain ⟨a20, h21, hf⟩ := bn_some hf
          refine kEV (tX4_chooseStages l G ad_t ad_t_sizes (upd (upd (upd (upd (upd (upd tI 1 (p1 >>> ((fX10_log p2) &&& 31))) 2 ((p0 1) * p2)) 3 (((p1 >>> ((fX10_log p2) &&& 31)) + (p0 3)) + (1 : Int32))) 4 ((((p0 1) * p2) + (p0 4)) + (1 : Int32))) 5 (fX10_log (p1 >>> ((fX10_log p2) &&& 31)))) 6 (fX10_log p2)) a20 h21) ⟨hx, hb, hml, hown, hts⟩ q495 q497 q2 q103 q498 okyX4_chooseStages ⟨Nat.le_of_ble_eq_true rfl, Nat.le_of_ble_eq_true rfl⟩ hP hD hG hS hA [0] [1, 2] rfl (wr := [(ad_t_sizes, .inl (G.2.1 0, 8, .inl t_sizes)), (ad_p0, .inl (G.2.1 0, 9, .inl p0))]) rfl (by decide) 0 rfl rfl hl.1 rfl (Nat.le_of_ble_eq_true rfl) dX4_make_102 ⟨Nat.zero_le _, Nat.zero_le _⟩ (fun r w H locs hR hP hD hS => ?_)
          obtain ⟨rfl, rfl⟩ := hR
          have hP : va_P G.1 vwCl [(ad_t_sizes, .inl (G.2.1 0, 8, .inl t_sizes)), (ad_p0, .inl (G.2.1 0, 9, .inl p0)), (ad_t, .inr (4, [.ref ad_t_sizes, .int (a20 1), .int (a20 2), .int (a20 3), .int (a20 4), .int (a20 5), .int (a20 6), .int (a20 7), .int (a20 8), .int (a20 9), .int (a20 10), .int (a20 11), .int (a20 12), .int (a20 13), .int (a20 14), .int (a20 15), .int (a20 16), .int (a20 17)]))] H := hP
          have hD : va_D A [(ad_t_sizes, .inl (G.2.1 0, 8, .inl t_sizes)), (ad_p0, .inl (G.2.1 0, 9, .inl p0)), (ad_t, .inr (4, [.ref ad_t_sizes, .int (a20 1), .int (a20 2), .int (a20 3), .int (a20 4), .int (a20 5), .int (a20 6), .int (a20 7), .int (a20 8), .int (a20 9), .int (a20 10), .int (a20 11), .int (a20 12), .int (a20 13), .int (a20 14), .int (a20 15), .int (a20 16), .int (a20 17)]))] := hD
          refine W.eq (g2 := F0 m 105 ls []) rfl ?_
          refine lv_aload_n hx hb dX4_make_105 rfl (lv_at hl 0 rfl) ?_
          obtain ⟨a22, h23, hf⟩ := bn_some hf
          refine kEV (tX4_sizeStages l G ad_t ad_t_sizes a20 t_sizes a22 h23) ⟨hx, hb, hml, hown, hts⟩ q513 q515 q5 q103 q516 okyX4_sizeStages ⟨Nat.le_of_ble_eq_true rfl, Nat.le_of_ble_eq_true rfl⟩ hP hD hG hS hA [2, 0] [1] rfl (wr := [(ad_p0, .inl (G.2.1 0, 9, .inl p0))]) rfl (by decide) 2 rfl rfl hl.1 rfl (Nat.le_of_ble_eq_true rfl) dX4_make_106 ⟨Nat.zero_le _, Nat.zero_le _⟩ (fun r w H locs hR hP hD hS => ?_)
          obtain ⟨rfl, rfl⟩ := hR
          have hP : va_P G.1 vwCl [(ad_p0, .inl (G.2.1 0, 9, .inl p0)), (ad_t, .inr (4, [.ref ad_t_sizes, .int (a20 1), .int (a20 2), .int (a20 3), .int (a20 4), .int (a20 5), .int (a20 6), .int (a20 7), .int (a20 8), .int (a20 9), .int (a20 10), .int (a20 11), .int (a20 12), .int (a20 13), .int (a20 14), .int (a20 15), .int (a20 16), .int (a20 17)])), (ad_t_sizes, .inl (G.2.1 0, 8, .inl a22))] H := hP
          have hD : va_D A [(ad_p0, .inl (G.2.1 0, 9, .inl p0)), (ad_t, .inr (4, [.ref ad_t_sizes, .int (a20 1), .int (a20 2), .int (a20 3), .int (a20 4), .int (a20 5), .int (a20 6), .int (a20 7), .int (a20 8), .int (a20 9), .int (a20 10), .int (a20 11), .int (a20 12), .int (a20 13), .int (a20 14), .int (a20 15), .int (a20 16), .int (a20 17)])), (ad_t_sizes, .inl (G.2.1 0, 8, .inl a22))] := hD
          refine W.eq (g2 := F0 m 109 ls []) rfl ?_
          refine lv_aload_n hx hb dX4_make_109 rfl (lv_at hl 0 rfl) ?_
          refine lv_aload_n hx hb dX4_make_110 rfl (lv_at hl 0 rfl) ?_
          refine va_get (D := G.1) (cl := vwCl) (ci := 4) (v := .int (a20 4)) (C := RX4) (T := TX4) (N := 18) hx hb hts inG4 hown hK hP 1 rfl rfl 4 (Nat.le_of_ble_eq_true rfl) (hts _ q352) (fun _ h9 => h9) rfl dX4_make_111 ?_
          refine lv_aload_n hx hb dX4_make_114 rfl (lv_at hl 1 rfl) ?_
          refine lv_iconst (v := 5) hx hb dX4_make_115 (by decide) ?_
          refine va_iald (D := G.1) (cl := vwCl) hx hb hK hP 0 0 rfl rfl (vin (by decide)) dX4_make_116 ?_
          refine lv_ti (v := (p0 5)) (congrArg (p0) (tn 5)) ?_
          refine lv_imul hx hb dX4_make_117 ?_
          refine lv_bipush (v := 12) hx hb dX4_make_118 (by decide) ?_
          refine lv_aload_n hx hb dX4_make_120 rfl (lv_at hl 0 rfl) ?_
          refine va_get (D := G.1) (cl := vwCl) (ci := 4) (v := .int (a20 5)) (C := RX4) (T := TX4) (N := 18) hx hb hts inG4 hown hK hP 1 rfl rfl 5 (Nat.le_of_ble_eq_true rfl) (hts _ q353) (fun _ h9 => h9) rfl dX4_make_121 ?_
          refine lv_imul hx hb dX4_make_124 ?_
          refine lv_iadd hx hb dX4_make_125 ?_
          refine lv_aload_n hx hb dX4_make_126 rfl (lv_at hl 0 rfl) ?_
          refine va_get (D := G.1) (cl := vwCl) (ci := 4) (v := .ref ad_t_sizes) (C := RX4) (T := TX4) (N := 18) hx hb hts inG4 hown hK hP 1 rfl rfl 0 (Nat.le_of_ble_eq_true rfl) (hts _ q345) (fun _ h9 => h9) rfl dX4_make_127 ?_
          refine lv_aload_n hx hb dX4_make_130 rfl (lv_at hl 0 rfl) ?_
          refine va_get (D := G.1) (cl := vwCl) (ci := 4) (v := .int (a20 9)) (C := RX4) (T := TX4) (N := 18) hx hb hts inG4 hown hK hP 1 rfl rfl 9 (Nat.le_of_ble_eq_true rfl) (hts _ q357) (fun _ h9 => h9) rfl dX4_make_131 ?_
          refine lv_iconst (v := 1) hx hb dX4_make_134 (by decide) ?_
          refine lv_isub hx hb dX4_make_135 ?_
          obtain ⟨h24, hf⟩ := gd_some hf
          refine va_iald (D := G.1) (cl := vwCl) hx hb hK hP 2 0 rfl rfl (gi_in h24) dX4_make_136 ?_
          refine lv_iadd hx hb dX4_make_137 ?_
          refine va_put (D := G.1) (cl := vwCl) (ci := 4) (v := .int ((((a20 4) * (p0 5)) + ((12 : Int32) * (a20 5))) + (a22 ((a20 9) - (1 : Int32)).toNatClampNeg))) (ty := .int) (C := RX4) (T := TX4) (N := 18) hx hb hts inG4 tyX4 tyX4_ok nmX4 hown hK hP hD hS 1 rfl rfl 12 (Nat.le_of_ble_eq_true rfl) (hts _ q361) (fun _ h9 => h9) rfl (tyX4_ok 12 (Nat.le_of_ble_eq_true rfl)) rfl rfl (Nat.le_of_ble_eq_true rfl) dX4_make_138 (fun H locs hP hD hS => ?_)
          have hP : va_P G.1 vwCl [(ad_p0, .inl (G.2.1 0, 9, .inl p0)), (ad_t, .inr (4, [.ref ad_t_sizes, .int (a20 1), .int (a20 2), .int (a20 3), .int (a20 4), .int (a20 5), .int (a20 6), .int (a20 7), .int (a20 8), .int (a20 9), .int (a20 10), .int (a20 11), .int ((((a20 4) * (p0 5)) + ((12 : Int32) * (a20 5))) + (a22 ((a20 9) - (1 : Int32)).toNatClampNeg)), .int (a20 13), .int (a20 14), .int (a20 15), .int (a20 16), .int (a20 17)])), (ad_t_sizes, .inl (G.2.1 0, 8, .inl a22))] H := hP
          have hD : va_D A [(ad_p0, .inl (G.2.1 0, 9, .inl p0)), (ad_t, .inr (4, [.ref ad_t_sizes, .int (a20 1), .int (a20 2), .int (a20 3), .int (a20 4), .int (a20 5), .int (a20 6), .int (a20 7), .int (a20 8), .int (a20 9), .int (a20 10), .int (a20 11), .int ((((a20 4) * (p0 5)) + ((12 : Int32) * (a20 5))) + (a22 ((a20 9) - (1 : Int32)).toNatClampNeg)), .int (a20 13), .int (a20 14), .int (a20 15), .int (a20 16), .int (a20 17)])), (ad_t_sizes, .inl (G.2.1 0, 8, .inl a22))] := hD
          refine lv_aload_n hx hb dX4_make_141 rfl (lv_at hl 0 rfl) ?_
          refine lv_aload_n hx hb dX4_make_142 rfl (lv_at hl 0 rfl) ?_
          refine va_get (D := G.1) (cl := vwCl) (ci := 4) (v := .int (a20 3)) (C := RX4) (T := TX4) (N := 18) hx hb hts inG4 hown hK hP 1 rfl rfl 3 (Nat.le_of_ble_eq_true rfl) (hts _ q351) (fun _ h9 => h9) rfl dX4_make_143 ?_
          refine lv_aload_n hx hb dX4_make_146 rfl (lv_at hl 1 rfl) ?_
          refine lv_bipush (v := 6) hx hb dX4_make_147 (by decide) ?_
          refine va_iald (D := G.1) (cl := vwCl) hx hb hK hP 0 0 rfl rfl (vin (by decide)) dX4_make_149 ?_
          refine lv_ti (v := (p0 6)) (congrArg (p0) (tn 6)) ?_
          refine lv_imul hx hb dX4_make_150 ?_
          refine lv_bipush (v := 30) hx hb dX4_make_151 (by decide) ?_
          refine lv_iadd hx hb dX4_make_153 ?_
          refine lv_bipush (v := 8) hx hb dX4_make_154 (by decide) ?_
          refine lv_aload_n hx hb dX4_make_156 rfl (lv_at hl 0 rfl) ?_
          refine va_get (D := G.1) (cl := vwCl) (ci := 4) (v := .int (a20 6)) (C := RX4) (T := TX4) (N := 18) hx hb hts inG4 hown hK hP 1 rfl rfl 6 (Nat.le_of_ble_eq_true rfl) (hts _ q354) (fun _ h9 => h9) rfl dX4_make_157 ?_
          refine lv_imul hx hb dX4_make_160 ?_
          refine lv_iadd hx hb dX4_make_161 ?_
          refine va_put (D := G.1) (cl := vwCl) (ci := 4) (v := .int ((((a20 3) * (p0 6)) + (30 : Int32)) + ((8 : Int32) * (a20 6)))) (ty := .int) (C := RX4) (T := TX4) (N := 18) hx hb hts inG4 tyX4 tyX4_ok nmX4 hown hK hP hD hS 1 rfl rfl 13 (Nat.le_of_ble_eq_true rfl) (hts _ q364) (fun _ h9 => h9) rfl (tyX4_ok 13 (Nat.le_of_ble_eq_true rfl)) rfl rfl (Nat.le_of_ble_eq_true rfl) dX4_make_162 (fun H locs hP hD hS => ?_)
          have hP : va_P G.1 vwCl [(ad_p0, .inl (G.2.1 0, 9, .inl p0)), (ad_t, .inr (4, [.ref ad_t_sizes, .int (a20 1), .int (a20 2), .int (a20 3), .int (a20 4), .int (a20 5), .int (a20 6), .int (a20 7), .int (a20 8), .int (a20 9), .int (a20 10), .int (a20 11), .int ((((a20 4) * (p0 5)) + ((12 : Int32) * (a20 5))) + (a22 ((a20 9) - (1 : Int32)).toNatClampNeg)), .int ((((a20 3) * (p0 6)) + (30 : Int32)) + ((8 : Int32) * (a20 6))), .int (a20 14), .int (a20 15), .int (a20 16), .int (a20 17)])), (ad_t_sizes, .inl (G.2.1 0, 8, .inl a22))] H := hP
          have hD : va_D A [(ad_p0, .inl (G.2.1 0, 9, .inl p0)), (ad_t, .inr (4, [.ref ad_t_sizes, .int (a20 1), .int (a20 2), .int (a20 3), .int (a20 4), .int (a20 5), .int (a20 6), .int (a20 7), .int (a20 8), .int (a20 9), .int (a20 10), .int (a20 11), .int ((((a20 4) * (p0 5)) + ((12 : Int32) * (a20 5))) + (a22 ((a20 9) - (1 : Int32)).toNatClampNeg)), .int ((((a20 3) * (p0 6)) + (30 : Int32)) + ((8 : Int32) * (a20 6))), .int (a20 14), .int (a20 15), .int (a20 16), .int (a20 17)])), (ad_t_sizes, .inl (G.2.1 0, 8, .inl a22))] := hD
          refine lv_aload_n hx hb dX4_make_165 rfl (lv_at hl 0 rfl) ?_
          refine lv_aload_n hx hb dX4_make_166 rfl (lv_at hl 0 rfl) ?_
          refine va_get (D := G.1) (cl := vwCl) (ci := 4) (v := .int (a20 4)) (C := RX4) (T := TX4) (N := 18) hx hb hts inG4 hown hK hP 1 rfl rfl 4 (Nat.le_of_ble_eq_true rfl) (hts _ q352) (fun _ h9 => h9) rfl dX4_make_167 ?_
          refine lv_aload_n hx hb dX4_make_170 rfl (lv_at hl 0 rfl) ?_
          refine va_get (D := G.1) (cl := vwCl) (ci := 4) (v := .int (a20 4)) (C := RX4) (T := TX4) (N := 18) hx hb hts inG4 hown hK hP 1 rfl rfl 4 (Nat.le_of_ble_eq_true rfl) (hts _ q352) (fun _ h9 => h9) rfl dX4_make_171 ?_
          refine lv_imul hx hb dX4_make_174 ?_
          refine lv_bipush (v := 20) hx hb dX4_make_175 (by decide) ?_
          refine lv_idiv hx hb dX4_make_177 (by decide) ?_
          refine va_put (D := G.1) (cl := vwCl) (ci := 4) (v := .int (((a20 4) * (a20 4)) / (20 : Int32))) (ty := .int) (C := RX4) (T := TX4) (N := 18) hx hb hts inG4 tyX4 tyX4_ok nmX4 hown hK hP hD hS 1 rfl rfl 14 (Nat.le_of_ble_eq_true rfl) (hts _ q367) (fun _ h9 => h9) rfl (tyX4_ok 14 (Nat.le_of_ble_eq_true rfl)) rfl rfl (Nat.le_of_ble_eq_true rfl) dX4_make_178 (fun H locs hP hD hS => ?_)
          have hP : va_P G.1 vwCl [(ad_p0, .inl (G.2.1 0, 9, .inl p0)), (ad_t, .inr (4, [.ref ad_t_sizes, .int (a20 1), .int (a20 2), .int (a20 3), .int (a20 4), .int (a20 5), .int (a20 6), .int (a20 7), .int (a20 8), .int (a20 9), .int (a20 10), .int (a20 11), .int ((((a20 4) * (p0 5)) + ((12 : Int32) * (a20 5))) + (a22 ((a20 9) - (1 : Int32)).toNatClampNeg)), .int ((((a20 3) * (p0 6)) + (30 : Int32)) + ((8 : Int32) * (a20 6))), .int (((a20 4) * (a20 4)) / (20 : Int32)), .int (a20 15), .int (a20 16), .int (a20 17)])), (ad_t_sizes, .inl (G.2.1 0, 8, .inl a22))] H := hP
          have hD : va_D A [(ad_p0, .inl (G.2.1 0, 9, .inl p0)), (ad_t, .inr (4, [.ref ad_t_sizes, .int (a20 1), .int (a20 2), .int (a20 3), .int (a20 4), .int (a20 5), .int (a20 6), .int (a20 7), .int (a20 8), .int (a20 9), .int (a20 10), .int (a20 11), .int ((((a20 4) * (p0 5)) + ((12 : Int32) * (a20 5))) + (a22 ((a20 9) - (1 : Int32)).toNatClampNeg)), .int ((((a20 3) * (p0 6)) + (30 : Int32)) + ((8 : Int32) * (a20 6))), .int (((a20 4) * (a20 4)) / (20 : Int32)), .int (a20 15), .int (a20 16), .int (a20 17)])), (ad_t_sizes, .inl (G.2.1 0, 8, .inl a22))] := hD
          refine lv_aload_n hx hb dX4_make_181 rfl (lv_at hl 0 rfl) ?_
          refine lv_iconst (v := 3) hx hb dX4_make_182 (by decide) ?_
          refine lv_aload_n hx hb dX4_make_183 rfl (lv_at hl 0 rfl) ?_
          refine va_get (D := G.1) (cl := vwCl) (ci := 4) (v := .int (a20 3)) (C := RX4) (T := TX4) (N := 18) hx hb hts inG4 hown hK hP 1 rfl rfl 3 (Nat.le_of_ble_eq_true rfl) (hts _ q351) (fun _ h9 => h9) rfl dX4_make_184 ?_
          refine lv_imul hx hb dX4_make_187 ?_
          refine va_put (D := G.1) (cl := vwCl) (ci := 4) (v := .int ((3 : Int32) * (a20 3))) (ty := .int) (C := RX4) (T := TX4) (N := 18) hx hb hts inG4 tyX4 tyX4_ok nmX4 hown hK hP hD hS 1 rfl rfl 15 (Nat.le_of_ble_eq_true rfl) (hts _ q368) (fun _ h9 => h9) rfl (tyX4_ok 15 (Nat.le_of_ble_eq_true rfl)) rfl rfl (Nat.le_of_ble_eq_true rfl) dX4_make_188 (fun H locs hP hD hS => ?_)
          have hP : va_P G.1 vwCl [(ad_p0, .inl (G.2.1 0, 9, .inl p0)), (ad_t, .inr (4, [.ref ad_t_sizes, .int (a20 1), .int (a20 2), .int (a20 3), .int (a20 4), .int (a20 5), .int (a20 6), .int (a20 7), .int (a20 8), .int (a20 9), .int (a20 10), .int (a20 11), .int ((((a20 4) * (p0 5)) + ((12 : Int32) * (a20 5))) + (a22 ((a20 9) - (1 : Int32)).toNatClampNeg)), .int ((((a20 3) * (p0 6)) + (30 : Int32)) + ((8 : Int32) * (a20 6))), .int (((a20 4) * (a20 4)) / (20 : Int32)), .int ((3 : Int32) * (a20 3)), .int (a20 16), .int (a20 17)])), (ad_t_sizes, .inl (G.2.1 0, 8, .inl a22))] H := hP
          have hD : va_D A [(ad_p0, .inl (G.2.1 0, 9, .inl p0)), (ad_t, .inr (4, [.ref ad_t_sizes, .int (a20 1), .int (a20 2), .int (a20 3), .int (a20 4), .int (a20 5), .int (a20 6), .int (a20 7), .int (a20 8), .int (a20 9), .int (a20 10), .int (a20 11), .int ((((a20 4) * (p0 5)) + ((12 : Int32) * (a20 5))) + (a22 ((a20 9) - (1 : Int32)).toNatClampNeg)), .int ((((a20 3) * (p0 6)) + (30 : Int32)) + ((8 : Int32) * (a20 6))), .int (((a20 4) * (a20 4)) / (20 : Int32)), .int ((3 : Int32) * (a20 3)), .int (a20 16), .int (a20 17)])), (ad_t_sizes, .inl (G.2.1 0, 8, .inl a22))] := hD
          refine lv_aload_n hx hb dX4_make_191 rfl (lv_at hl 0 rfl) ?_
          refine lv_bipush (v := 20) hx hb dX4_make_192 (by decide) ?_
          refine lv_iconst (v := 5) hx hb dX4_make_194 (by decide) ?_
          refine lv_aload_n hx hb dX4_make_195 rfl (lv_at hl 0 rfl) ?_
          refine va_get (D := G.1) (cl := vwCl) (ci := 4) (v := .int (a20 6)) (C := RX4) (T := TX4) (N := 18) hx hb hts inG4 hown hK hP 1 rfl rfl 6 (Nat.le_of_ble_eq_true rfl) (hts _ q354) (fun _ h9 => h9) rfl dX4_make_196 ?_
          refine lv_imul hx hb dX4_make_199 ?_
          refine lv_iadd hx hb dX4_make_200 ?_
          refine va_put (D := G.1) (cl := vwCl) (ci := 4) (v := .int ((20 : Int32) + ((5 : Int32) * (a20 6)))) (ty := .int) (C := RX4) (T := TX4) (N := 18) hx hb hts inG4 tyX4 tyX4_ok nmX4 hown hK hP hD hS 1 rfl rfl 16 (Nat.le_of_ble_eq_true rfl) (hts _ q369) (fun _ h9 => h9) rfl (tyX4_ok 16 (Nat.le_of_ble_eq_true rfl)) rfl rfl (Nat.le_of_ble_eq_true rfl) dX4_make_201 (fun H locs hP hD hS => ?_)
          have hP : va_P G.1 vwCl [(ad_p0, .inl (G.2.1 0, 9, .inl p0)), (ad_t, .inr (4, [.ref ad_t_sizes, .int (a20 1), .int (a20 2), .int (a20 3), .int (a20 4), .int (a20 5), .int (a20 6), .int (a20 7), .int (a20 8), .int (a20 9), .int (a20 10), .int (a20 11), .int ((((a20 4) * (p0 5)) + ((12 : Int32) * (a20 5))) + (a22 ((a20 9) - (1 : Int32)).toNatClampNeg)), .int ((((a20 3) * (p0 6)) + (30 : Int32)) + ((8 : Int32) * (a20 6))), .int (((a20 4) * (a20 4)) / (20 : Int32)), .int ((3 : Int32) * (a20 3)), .int ((20 : Int32) + ((5 : Int32) * (a20 6))), .int (a20 17)])), (ad_t_sizes, .inl (G.2.1 0, 8, .inl a22))] H := hP
          have hD : va_D A [(ad_p0, .inl (G.2.1 0, 9, .inl p0)), (ad_t, .inr (4, [.ref ad_t_sizes, .int (a20 1), .int (a20 2), .int (a20 3), .int (a20 4), .int (a20 5), .int (a20 6), .int (a20 7), .int (a20 8), .int (a20 9), .int (a20 10), .int (a20 11), .int ((((a20 4) * (p0 5)) + ((12 : Int32) * (a20 5))) + (a22 ((a20 9) - (1 : Int32)).toNatClampNeg)), .int ((((a20 3) * (p0 6)) + (30 : Int32)) + ((8 : Int32) * (a20 6))), .int (((a20 4) * (a20 4)) / (20 : Int32)), .int ((3 : Int32) * (a20 3)), .int ((20 : Int32) + ((5 : Int32) * (a20 6))), .int (a20 17)])), (ad_t_sizes, .inl (G.2.1 0, 8, .inl a22))] := hD
          refine lv_aload_n hx hb dX4_make_204 rfl (lv_at hl 0 rfl) ?_
          refine lv_aload_n hx hb dX4_make_205 rfl (lv_at hl 0 rfl) ?_
          refine lv_aload_n hx hb dX4_make_206 rfl (lv_at hl 1 rfl) ?_
          refine lv_bipush (v := 7) hx hb dX4_make_207 (by decide) ?_
          refine va_iald (D := G.1) (cl := vwCl) hx hb hK hP 0 0 rfl rfl (vin (by decide)) dX4_make_209 ?_
          refine lv_ti (v := (p0 7)) (congrArg (p0) (tn 7)) ?_
          obtain ⟨a25, h26, hf⟩ := bn_some hf
          refine kPV (tX4_mostPulls l G ad_t ad_t_sizes (upd (upd (upd (upd (upd a20 12 ((((a20 4) * (p0 5)) + ((12 : Int32) * (a20 5))) + (a22 ((a20 9) - (1 : Int32)).toNatClampNeg))) 13 ((((a20 3) * (p0 6)) + (30 : Int32)) + ((8 : Int32) * (a20 6)))) 14 (((a20 4) * (a20 4)) / (20 : Int32))) 15 ((3 : Int32) * (a20 3))) 16 ((20 : Int32) + ((5 : Int32) * (a20 6)))) (p0 7) a25 h26) ⟨hx, hb, hml, hown, hts⟩ q517 q519 q6 q103 q520 okyX4_mostPulls ⟨Nat.le_of_ble_eq_true rfl, Nat.le_of_ble_eq_true rfl⟩ hP hG hS [1] rfl 1 rfl rfl hl.1 rfl (Nat.le_of_ble_eq_true rfl) dX4_make_210 ⟨Nat.zero_le _, Nat.zero_le _⟩ (fun locs hS => ?_)
          refine W.eq (g2 := F0 m 213 ls [.int a25, .ref ad_t]) rfl ?_
          refine va_put (D := G.1) (cl := vwCl) (ci := 4) (v := .int a25) (ty := .int) (C := RX4) (T := TX4) (N := 18) hx hb hts inG4 tyX4 tyX4_ok nmX4 hown hK hP hD hS 1 rfl rfl 17 (Nat.le_of_ble_eq_true rfl) (hts _ q370) (fun _ h9 => h9) rfl (tyX4_ok 17 (Nat.le_of_ble_eq_true rfl)) rfl rfl (Nat.le_of_ble_eq_true rfl) dX4_make_213 (fun H locs hP hD hS => ?_)
          have hP : va_P G.1 vwCl [(ad_p0, .inl (G.2.1 0, 9, .inl p0)), (ad_t, .inr (4, [.ref ad_t_sizes, .int (a20 1), .int (a20 2), .int (a20 3), .int (a20 4), .int (a20 5), .int (a20 6), .int (a20 7), .int (a20 8), .int (a20 9), .int (a20 10), .int (a20 11), .int ((((a20 4) * (p0 5)) + ((12 : Int32) * (a20 5))) + (a22 ((a20 9) - (1 : Int32)).toNatClampNeg)), .int ((((a20 3) * (p0 6)) + (30 : Int32)) + ((8 : Int32) * (a20 6))), .int (((a20 4) * (a20 4)) / (20 : Int32)), .int ((3 : Int32) * (a20 3)), .int ((20 : Int32) + ((5 : Int32) * (a20 6))), .int a25])), (ad_t_sizes, .inl (G.2.1 0, 8, .inl a22))] H := hP
          have hD : va_D A [(ad_p0, .inl (G.2.1 0, 9, .inl p0)), (ad_t, .inr (4, [.ref ad_t_sizes, .int (a20 1), .int (a20 2), .int (a20 3), .int (a20 4), .int (a20 5), .int (a20 6), .int (a20 7), .int (a20 8), .int (a20 9), .int (a20 10), .int (a20 11), .int ((((a20 4) * (p0 5)) + ((12 : Int32) * (a20 5))) + (a22 ((a20 9) - (1 : Int32)).toNatClampNeg)), .int ((((a20 3) * (p0 6)) + (30 : Int32)) + ((8 : Int32) * (a20 6))), .int (((a20 4) * (a20 4)) / (20 : Int32)), .int ((3 : Int32) * (a20 3)), .int ((20 : Int32) + ((5 : Int32) * (a20 6))), .int a25])), (ad_t_sizes, .inl (G.2.1 0, 8, .inl a22))] := hD
          refine lv_iconst (v := 1) hx hb dX4_make_216 (by decide) ?_
          have hf := Option.some.inj hf
          subst hf
          have hP := hP.sub (ws' := [(ad_t, .inr (4, [.ref ad_t_sizes, .int (a20 1), .int (a20 2), .int (a20 3), .int (a20 4), .int (a20 5), .int (a20 6), .int (a20 7), .int (a20 8), .int (a20 9), .int (a20 10), .int (a20 11), .int ((((a20 4) * (p0 5)) + ((12 : Int32) * (a20 5))) + (a22 ((a20 9) - (1 : Int32)).toNatClampNeg)), .int ((((a20 3) * (p0 6)) + (30 : Int32)) + ((8 : Int32) * (a20 6))), .int (((a20 4) * (a20 4)) / (20 : Int32)), .int ((3 : Int32) * (a20 3)), .int ((20 : Int32) + ((5 : Int32) * (a20 6))), .int a25])), (ad_t_sizes, .inl (G.2.1 0, 8, .inl a22)), (ad_p0, .inl (G.2.1 0, 9, .inl p0))]) [1, 2, 0] rfl
          have hD := hD.sub (ws' := [(ad_t, .inr (4, [.ref ad_t_sizes, .int (a20 1), .int (a20 2), .int (a20 3), .int (a20 4), .int (a20 5), .int (a20 6), .int (a20 7), .int (a20 8), .int (a20 9), .int (a20 10), .int (a20 11), .int ((((a20 4) * (p0 5)) + ((12 : Int32) * (a20 5))) + (a22 ((a20 9) - (1 : Int32)).toNatClampNeg)), .int ((((a20 3) * (p0 6)) + (30 : Int32)) + ((8 : Int32) * (a20 6))), .int (((a20 4) * (a20 4)) / (20 : Int32)), .int ((3 : Int32) * (a20 3)), .int ((20 : Int32) + ((5 : Int32) * (a20 6))), .int a25])), (ad_t_sizes, .inl (G.2.1 0, 8, .inl a22)), (ad_p0, .inl (G.2.1 0, 9, .inl p0))]) [1, 2, 0] (by decide) rfl
          exact eRetZ (v := true) hx hb hr hlocks hP hD hS ⟨rfl, rfl⟩ dX4_make_217
        · have hf := if_f hf c19
          refine lv_iconst (v := 0) hx hb dX4_make_51 (by decide) ?_
          have hf := Option.some.inj hf
          subst hf
          exact eRetZ (v := false) hx hb hr hlocks hP hD hS ⟨rfl, rfl⟩ dX4_make_52
    · have hf := if_t hf c17
      refine lv_iconst (v := 0) hx hb dX4_make_12 (by decide) ?_
      have hf := Option.some.inj hf
      subst hf
      exact eRetZ (v := false) hx hb hr hlocks hP hD hS ⟨rfl, rfl⟩ dX4_make_13
