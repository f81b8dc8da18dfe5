def fX2_next_l8 (t_sourceI : Nat → Int32) (t_source_bytes : Nat → Int32) : Nat → (Nat → Int32) → Option ((Nat → Int32))
  | 0, _ => none
  | n + 1, tI =>
    (if (t_sourceI 1) ≤ (tI 5) then some tI else gd (gi (tI 5) 300) ((if (bi (fX2_isBlank (t_source_bytes (tI 5).toNatClampNeg))) = 0 then some tI else fX2_next_l8 t_sourceI t_source_bytes n (upd tI 5 ((tI 5) + (1 : Int32))))))
def fX2_next (tI : Nat → Int32) (t_sourceI : Nat → Int32) (t_source_bytes : Nat → Int32) : Option ((Nat → Int32)) :=
  bn (fX2_next_l8 t_sourceI t_source_bytes FU (upd tI 5 (tI 6))) fun y4 => (if (y4 5) < (t_sourceI 1) then gd (gi (y4 5) 300) ((if (bi (fX2_isLetter (t_source_bytes (y4 5).toNatClampNeg))) = 0 then gd (gi (y4 5) 300) ((if (bi (fX2_isDigit (t_source_bytes (y4 5).toNatClampNeg))) = 0 then gd (gi (y4 5) 300) (some (upd (upd y4 4 (if (t_source_bytes (y4 5).toNatClampNeg) = (59 : Int32) then (3 : Int32) else (4 : Int32))) 6 ((y4 5) + (1 : Int32)))) else bn (fX2_takeDigits (upd y4 6 (y4 5)) t_sourceI t_source_bytes) fun a13 => some a13)) else bn (fX2_takeLetters (upd y4 6 (y4 5)) t_sourceI t_source_bytes) fun a15 => some a15)) else some (upd (upd y4 4 (0 : Int32)) 6 (y4 5)))
set_option maxRecDepth 100000 in
set_option maxHeartbeats 4000000 in
theorem tX2_next (l : Launch) (G : gG) (ad_t ad_t_told ad_t_source ad_t_source_bytes : Nat) (tI : Nat → Int32) (t_sourceI : Nat → Int32) (t_source_bytes : Nat → Int32) (o : (Nat → Int32)) (hf : fX2_next tI t_sourceI t_source_bytes = some o) : mE G l yX2_next cX2_next 1 none 2 40 0 0 [.ref ad_t] [(ad_t, .inr (2, [.ref ad_t_told, .int (tI 1), .int (tI 2), .ref ad_t_source, .int (tI 4), .int (tI 5), .int (tI 6), .int (tI 7)])), (ad_t_source, .inr (7, [.ref ad_t_source_bytes, .int (t_sourceI 1)])), (ad_t_source_bytes, .inl (G.2.1 1, 300, .inl t_source_bytes))] (fun r w => r = none ∧ w = [(ad_t, .inr (2, [.ref ad_t_told, .int (o 1), .int (o 2), .ref ad_t_source, .int (o 4), .int (o 5), .int (o 6), .int (o 7)])), (ad_t_source, .inr (7, [.ref ad_t_source_bytes, .int (t_sourceI 1)])), (ad_t_source_bytes, .inl (G.2.1 1, 300, .inl t_source_bytes))]) := by
  refine mE_of (by decide) (Nat.le_of_ble_eq_true rfl) ?_
  intro p e s m below meth cd ls A hx hb hml hown hts hr hlocks hnm hl hA hP hD hS hG
  have hK := hG.1
  have hown : s.vm.findClass RX2 = some m.cls := hown
  have hl : lv_has ls 1 [(0, .ref ad_t)] := hl
  have hS := hS
  unfold fX2_next at hf
  obtain ⟨H, locs, eH, eL⟩ : ∃ (H : Heap) (locs : List Loc), H = s.heap ∧ locs = [] := ⟨_, _, rfl, rfl⟩
  have hP : va_P G.1 vwCl [(ad_t, .inr (2, [.ref ad_t_told, .int (tI 1), .int (tI 2), .ref ad_t_source, .int (tI 4), .int (tI 5), .int (tI 6), .int (tI 7)])), (ad_t_source, .inr (7, [.ref ad_t_source_bytes, .int (t_sourceI 1)])), (ad_t_source_bytes, .inl (G.2.1 1, 300, .inl t_source_bytes))] H := eH ▸ hP
  have hS : va_S A s.heap H locs := by rw [eH, eL]; exact hS
  suffices hgo : wG p l e 2 40 s m [.ref ad_t] below meth cd H locs (eQ G A (fun r w => r = none ∧ w = [(ad_t, .inr (2, [.ref ad_t_told, .int (o 1), .int (o 2), .ref ad_t_source, .int (o 4), .int (o 5), .int (o 6), .int (o 7)])), (ad_t_source, .inr (7, [.ref ad_t_source_bytes, .int (t_sourceI 1)])), (ad_t_source_bytes, .inl (G.2.1 1, 300, .inl t_source_bytes))])) A (F0 m 0 ls []) by rw [eH, eL] at hgo; exact hgo
  clear eH eL
  refine lv_aload_n hx hb dX2_next_0 rfl (lv_at hl 0 rfl) ?_
  refine lv_aload_n hx hb dX2_next_1 rfl (lv_at hl 0 rfl) ?_
  refine va_get (D := G.1) (cl := vwCl) (ci := 2) (v := .int (tI 6)) (C := RX2) (T := TX2) (N := 8) hx hb hts inG2 hown hK hP 0 rfl rfl 6 (Nat.le_of_ble_eq_true rfl) (hts _ q429) (fun _ h9 => h9) rfl dX2_next_2 ?_
  refine va_put (D := G.1) (cl := vwCl) (ci := 2) (v := .int (tI 6)) (ty := .int) (C := RX2) (T := TX2) (N := 8) hx hb hts inG2 tyX2 tyX2_ok nmX2 hown hK hP hD hS 0 rfl rfl 5 (Nat.le_of_ble_eq_true rfl) (hts _ q428) (fun _ h9 => h9) rfl (tyX2_ok 5 (Nat.le_of_ble_eq_true rfl)) rfl rfl (Nat.le_of_ble_eq_true rfl) dX2_next_5 (fun H locs hP hD hS => ?_)
  have hP : va_P G.1 vwCl [(ad_t, .inr (2, [.ref ad_t_told, .int (tI 1), .int (tI 2), .ref ad_t_source, .int (tI 4), .int (tI 6), .int (tI 6), .int (tI 7)])), (ad_t_source, .inr (7, [.ref ad_t_source_bytes, .int (t_sourceI 1)])), (ad_t_source_bytes, .inl (G.2.1 1, 300, .inl t_source_bytes))] H := hP
  have hD : va_D A [(ad_t, .inr (2, [.ref ad_t_told, .int (tI 1), .int (tI 2), .ref ad_t_source, .int (tI 4), .int (tI 6), .int (tI 6), .int (tI 7)])), (ad_t_source, .inr (7, [.ref ad_t_source_bytes, .int (t_sourceI 1)])), (ad_t_source_bytes, .inl (G.2.1 1, 300, .inl t_source_bytes))] := hD
  obtain ⟨y17, hLy17, hky17⟩ := bn_some hf
  have Ey17 : ∀  (H : Heap) (locs : List Loc) (ls : Array Slot), lv_has ls 1 [(0, .ref ad_t)] → va_P G.1 vwCl [(ad_t, .inr (2, [.ref ad_t_told, .int (y17 1), .int (y17 2), .ref ad_t_source, .int (y17 4), .int (y17 5), .int (y17 6), .int (y17 7)])), (ad_t_source, .inr (7, [.ref ad_t_source_bytes, .int (t_sourceI 1)])), (ad_t_source_bytes, .inl (G.2.1 1, 300, .inl t_source_bytes))] H → va_D A [(ad_t, .inr (2, [.ref ad_t_told, .int (y17 1), .int (y17 2), .ref ad_t_source, .int (y17 4), .int (y17 5), .int (y17 6), .int (y17 7)])), (ad_t_source, .inr (7, [.ref ad_t_source_bytes, .int (t_sourceI 1)])), (ad_t_source_bytes, .inl (G.2.1 1, 300, .inl t_source_bytes))] → va_S A s.heap H locs → wG p l e 2 40 s m [.ref ad_t] below meth cd H locs (eQ G A (fun r w => r = none ∧ w = [(ad_t, .inr (2, [.ref ad_t_told, .int (o 1), .int (o 2), .ref ad_t_source, .int (o 4), .int (o 5), .int (o 6), .int (o 7)])), (ad_t_source, .inr (7, [.ref ad_t_source_bytes, .int (t_sourceI 1)])), (ad_t_source_bytes, .inl (G.2.1 1, 300, .inl t_source_bytes))])) A (F0 m 53 ls []) := by
    intro  H locs ls hl hP hD hS
    have hf := hky17
    refine lv_aload_n hx hb dX2_next_53 rfl (lv_at hl 0 rfl) ?_
    refine lv_aload_n hx hb dX2_next_54 rfl (lv_at hl 0 rfl) ?_
    refine va_get (D := G.1) (cl := vwCl) (ci := 2) (v := .int (y17 5)) (C := RX2) (T := TX2) (N := 8) hx hb hts inG2 hown hK hP 0 rfl rfl 5 (Nat.le_of_ble_eq_true rfl) (hts _ q428) (fun _ h9 => h9) rfl dX2_next_55 ?_
    refine va_put (D := G.1) (cl := vwCl) (ci := 2) (v := .int (y17 5)) (ty := .int) (C := RX2) (T := TX2) (N := 8) hx hb hts inG2 tyX2 tyX2_ok nmX2 hown hK hP hD hS 0 rfl rfl 6 (Nat.le_of_ble_eq_true rfl) (hts _ q429) (fun _ h9 => h9) rfl (tyX2_ok 6 (Nat.le_of_ble_eq_true rfl)) rfl rfl (Nat.le_of_ble_eq_true rfl) dX2_next_58 (fun H locs hP hD hS => ?_)
    have hP : va_P G.1 vwCl [(ad_t, .inr (2, [.ref ad_t_told, .int (y17 1), .int (y17 2), .ref ad_t_source, .int (y17 4), .int (y17 5), .int (y17 5), .int (y17 7)])), (ad_t_source, .inr (7, [.ref ad_t_source_bytes, .int (t_sourceI 1)])), (ad_t_source_bytes, .inl (G.2.1 1, 300, .inl t_source_bytes))] H := hP
    have hD : va_D A [(ad_t, .inr (2, [.ref ad_t_told, .int (y17 1), .int (y17 2), .ref ad_t_source, .int (y17 4), .int (y17 5), .int (y17 5), .int (y17 7)])), (ad_t_source, .inr (7, [.ref ad_t_source_bytes, .int (t_sourceI 1)])), (ad_t_source_bytes, .inl (G.2.1 1, 300, .inl t_source_bytes))] := hD
    refine lv_aload_n hx hb dX2_next_61 rfl (lv_at hl 0 rfl) ?_
    refine va_get (D := G.1) (cl := vwCl) (ci := 2) (v := .int (y17 5)) (C := RX2) (T := TX2) (N := 8) hx hb hts inG2 hown hK hP 0 rfl rfl 5 (Nat.le_of_ble_eq_true rfl) (hts _ q428) (fun _ h9 => h9) rfl dX2_next_62 ?_
    refine lv_aload_n hx hb dX2_next_65 rfl (lv_at hl 0 rfl) ?_
    refine va_get (D := G.1) (cl := vwCl) (ci := 2) (v := .ref ad_t_source) (C := RX2) (T := TX2) (N := 8) hx hb hts inG2 hown hK hP 0 rfl rfl 3 (Nat.le_of_ble_eq_true rfl) (hts _ q426) (fun _ h9 => h9) rfl dX2_next_66 ?_
    refine va_get (D := G.1) (cl := vwCl) (ci := 7) (v := .int (t_sourceI 1)) (C := RX7) (T := TX7) (N := 2) hx hb hts inG7 hown hK hP 1 rfl rfl 1 (Nat.le_of_ble_eq_true rfl) (hts _ q210) (fun _ h9 => h9) rfl dX2_next_69 ?_
    refine lv_icmp_lt (tgt := 83) hx hb dX2_next_72 (by decide) (fun c18 => ?_) (fun c18 => ?_)
    · have hf := if_t hf c18
      refine lv_aload_n hx hb dX2_next_83 rfl (lv_at hl 0 rfl) ?_
      refine va_get (D := G.1) (cl := vwCl) (ci := 2) (v := .ref ad_t_source) (C := RX2) (T := TX2) (N := 8) hx hb hts inG2 hown hK hP 0 rfl rfl 3 (Nat.le_of_ble_eq_true rfl) (hts _ q426) (fun _ h9 => h9) rfl dX2_next_84 ?_
      refine va_get (D := G.1) (cl := vwCl) (ci := 7) (v := .ref ad_t_source_bytes) (C := RX7) (T := TX7) (N := 2) hx hb hts inG7 hown hK hP 1 rfl rfl 0 (Nat.le_of_ble_eq_true rfl) (hts _ q206) (fun _ h9 => h9) rfl dX2_next_87 ?_
      refine lv_aload_n hx hb dX2_next_90 rfl (lv_at hl 0 rfl) ?_
      refine va_get (D := G.1) (cl := vwCl) (ci := 2) (v := .int (y17 5)) (C := RX2) (T := TX2) (N := 8) hx hb hts inG2 hown hK hP 0 rfl rfl 5 (Nat.le_of_ble_eq_true rfl) (hts _ q428) (fun _ h9 => h9) rfl dX2_next_91 ?_
      obtain ⟨h19, hf⟩ := gd_some hf
      refine va_bald (D := G.1) (cl := vwCl) hx hb hK hP 2 1 rfl rfl (gi_in h19) dX2_next_94 ?_
      refine kPS (tX2_isLetter l G (t_source_bytes (y17 5).toNatClampNeg) _ rfl) ⟨hx, hb, hml, hown, hts⟩ q623 q624 q104 q625 okyX2_isLetter ⟨Nat.le_of_ble_eq_true rfl, Nat.le_of_ble_eq_true rfl⟩ hP hG hS [] rfl hl.1 rfl (Nat.le_of_ble_eq_true rfl) dX2_next_95 ⟨Nat.zero_le _, Nat.zero_le _⟩ (fun locs hS => ?_)
      refine W.eq (g2 := F0 m 98 ls [.int (bi (fX2_isLetter (t_source_bytes (y17 5).toNatClampNeg)))]) rfl ?_
      refine lv_if_eq (tgt := 108) hx hb dX2_next_98 (by decide) (fun c20 => ?_) (fun c20 => ?_)
      · have hf := if_t hf c20
        refine lv_aload_n hx hb dX2_next_108 rfl (lv_at hl 0 rfl) ?_
        refine va_get (D := G.1) (cl := vwCl) (ci := 2) (v := .ref ad_t_source) (C := RX2) (T := TX2) (N := 8) hx hb hts inG2 hown hK hP 0 rfl rfl 3 (Nat.le_of_ble_eq_true rfl) (hts _ q426) (fun _ h9 => h9) rfl dX2_next_109 ?_
        refine va_get (D := G.1) (cl := vwCl) (ci := 7) (v := .ref ad_t_source_bytes) (C := RX7) (T := TX7) (N := 2) hx hb hts inG7 hown hK hP 1 rfl rfl 0 (Nat.le_of_ble_eq_true rfl) (hts _ q206) (fun _ h9 => h9) rfl dX2_next_112 ?_
        refine lv_aload_n hx hb dX2_next_115 rfl (lv_at hl 0 rfl) ?_
        refine va_get (D := G.1) (cl := vwCl) (ci := 2) (v := .int (y17 5)) (C := RX2) (T := TX2) (N := 8) hx hb hts inG2 hown hK hP 0 rfl rfl 5 (Nat.le_of_ble_eq_true rfl) (hts _ q428) (fun _ h9 => h9) rfl dX2_next_116 ?_
        obtain ⟨h21, hf⟩ := gd_some hf
        refine va_bald (D := G.1) (cl := vwCl) hx hb hK hP 2 1 rfl rfl (gi_in h21) dX2_next_119 ?_
        refine kPS (tX2_isDigit l G (t_source_bytes (y17 5).toNatClampNeg) _ rfl) ⟨hx, hb, hml, hown, hts⟩ q630 q631 q104 q632 okyX2_isDigit ⟨Nat.le_of_ble_eq_true rfl, Nat.le_of_ble_eq_true rfl⟩ hP hG hS [] rfl hl.1 rfl (Nat.le_of_ble_eq_true rfl) dX2_next_120 ⟨Nat.zero_le _, Nat.zero_le _⟩ (fun locs hS => ?_)
        refine W.eq (g2 := F0 m 123 ls [.int (bi (fX2_isDigit (t_source_bytes (y17 5).toNatClampNeg)))]) rfl ?_
        refine lv_if_eq (tgt := 133) hx hb dX2_next_123 (by decide) (fun c22 => ?_) (fun c22 => ?_)
        · have hf := if_t hf c22
          refine lv_aload_n hx hb dX2_next_133 rfl (lv_at hl 0 rfl) ?_
          refine lv_aload_n hx hb dX2_next_134 rfl (lv_at hl 0 rfl) ?_
          refine va_get (D := G.1) (cl := vwCl) (ci := 2) (v := .ref ad_t_source) (C := RX2) (T := TX2) (N := 8) hx hb hts inG2 hown hK hP 0 rfl rfl 3 (Nat.le_of_ble_eq_true rfl) (hts _ q426) (fun _ h9 => h9) rfl dX2_next_135 ?_
          refine va_get (D := G.1) (cl := vwCl) (ci := 7) (v := .ref ad_t_source_bytes) (C := RX7) (T := TX7) (N := 2) hx hb hts inG7 hown hK hP 1 rfl rfl 0 (Nat.le_of_ble_eq_true rfl) (hts _ q206) (fun _ h9 => h9) rfl dX2_next_138 ?_
          refine lv_aload_n hx hb dX2_next_141 rfl (lv_at hl 0 rfl) ?_
          refine va_get (D := G.1) (cl := vwCl) (ci := 2) (v := .int (y17 5)) (C := RX2) (T := TX2) (N := 8) hx hb hts inG2 hown hK hP 0 rfl rfl 5 (Nat.le_of_ble_eq_true rfl) (hts _ q428) (fun _ h9 => h9) rfl dX2_next_142 ?_
          obtain ⟨h23, hf⟩ := gd_some hf
          refine va_bald (D := G.1) (cl := vwCl) hx hb hK hP 2 1 rfl rfl (gi_in h23) dX2_next_145 ?_
          refine lv_bipush (v := 59) hx hb dX2_next_146 (by decide) ?_
          have J24 : wG p l e 2 40 s m [.ref ad_t] below meth cd H locs (eQ G A (fun r w => r = none ∧ w = [(ad_t, .inr (2, [.ref ad_t_told, .int (o 1), .int (o 2), .ref ad_t_source, .int (o 4), .int (o 5), .int (o 6), .int (o 7)])), (ad_t_source, .inr (7, [.ref ad_t_source_bytes, .int (t_sourceI 1)])), (ad_t_source_bytes, .inl (G.2.1 1, 300, .inl t_source_bytes))])) A (F0 m 156 ls [.int (if (t_source_bytes (y17 5).toNatClampNeg) = (59 : Int32) then (3 : Int32) else (4 : Int32)), .ref ad_t]) := by
            refine va_put (D := G.1) (cl := vwCl) (ci := 2) (v := .int (if (t_source_bytes (y17 5).toNatClampNeg) = (59 : Int32) then (3 : Int32) else (4 : Int32))) (ty := .int) (C := RX2) (T := TX2) (N := 8) hx hb hts inG2 tyX2 tyX2_ok nmX2 hown hK hP hD hS 0 rfl rfl 4 (Nat.le_of_ble_eq_true rfl) (hts _ q427) (fun _ h9 => h9) rfl (tyX2_ok 4 (Nat.le_of_ble_eq_true rfl)) rfl rfl (Nat.le_of_ble_eq_true rfl) dX2_next_156 (fun H locs hP hD hS => ?_)
            have hP : va_P G.1 vwCl [(ad_t, .inr (2, [.ref ad_t_told, .int (y17 1), .int (y17 2), .ref ad_t_source, .int (if (t_source_bytes (y17 5).toNatClampNeg) = (59 : Int32) then (3 : Int32) else (4 : Int32)), .int (y17 5), .int (y17 5), .int (y17 7)])), (ad_t_source, .inr (7, [.ref ad_t_source_bytes, .int (t_sourceI 1)])), (ad_t_source_bytes, .inl (G.2.1 1, 300, .inl t_source_bytes))] H := hP
            have hD : va_D A [(ad_t, .inr (2, [.ref ad_t_told, .int (y17 1), .int (y17 2), .ref ad_t_source, .int (if (t_source_bytes (y17 5).toNatClampNeg) = (59 : Int32) then (3 : Int32) else (4 : Int32)), .int (y17 5), .int (y17 5), .int (y17 7)])), (ad_t_source, .inr (7, [.ref ad_t_source_bytes, .int (t_sourceI 1)])), (ad_t_source_bytes, .inl (G.2.1 1, 300, .inl t_source_bytes))] := hD
            refine lv_aload_n hx hb dX2_next_159 rfl (lv_at hl 0 rfl) ?_
            refine lv_aload_n hx hb dX2_next_160 rfl (lv_at hl 0 rfl) ?_
            refine va_get (D := G.1) (cl := vwCl) (ci := 2) (v := .int (y17 5)) (C := RX2) (T := TX2) (N := 8) hx hb hts inG2 hown hK hP 0 rfl rfl 5 (Nat.le_of_ble_eq_true rfl) (hts _ q428) (fun _ h9 => h9) rfl dX2_next_161 ?_
            refine lv_iconst (v := 1) hx hb dX2_next_164 (by decide) ?_
            refine lv_iadd hx hb dX2_next_165 ?_
            refine va_put (D := G.1) (cl := vwCl) (ci := 2) (v := .int ((y17 5) + (1 : Int32))) (ty := .int) (C := RX2) (T := TX2) (N := 8) hx hb hts inG2 tyX2 tyX2_ok nmX2 hown hK hP hD hS 0 rfl rfl 6 (Nat.le_of_ble_eq_true rfl) (hts _ q429) (fun _ h9 => h9) rfl (tyX2_ok 6 (Nat.le_of_ble_eq_true rfl)) rfl rfl (Nat.le_of_ble_eq_true rfl) dX2_next_166 (fun H locs hP hD hS => ?_)
            have hP : va_P G.1 vwCl [(ad_t, .inr (2, [.ref ad_t_told, .int (y17 1), .int (y17 2), .ref ad_t_source, .int (if (t_source_bytes (y17 5).toNatClampNeg) = (59 : Int32) then (3 : Int32) else (4 : Int32)), .int (y17 5), .int ((y17 5) + (1 : Int32)), .int (y17 7)])), (ad_t_source, .inr (7, [.ref ad_t_source_bytes, .int (t_sourceI 1)])), (ad_t_source_bytes, .inl (G.2.1 1, 300, .inl t_source_bytes))] H := hP
            have hD : va_D A [(ad_t, .inr (2, [.ref ad_t_told, .int (y17 1), .int (y17 2), .ref ad_t_source, .int (if (t_source_bytes (y17 5).toNatClampNeg) = (59 : Int32) then (3 : Int32) else (4 : Int32)), .int (y17 5), .int ((y17 5) + (1 : Int32)), .int (y17 7)])), (ad_t_source, .inr (7, [.ref ad_t_source_bytes, .int (t_sourceI 1)])), (ad_t_source_bytes, .inl (G.2.1 1, 300, .inl t_source_bytes))] := hD
            have hf := Option.some.inj hf
            subst hf
            exact eRetV hx hb hr hlocks hP hD hS ⟨rfl, rfl⟩ dX2_next_169
          refine lv_icmp_ne (tgt := 155) hx hb dX2_next_148 (by decide) (fun c25 => ?_) (fun c25 => ?_)
          · refine lv_iconst (v := 4) hx hb dX2_next_155 (by decide) ?_
            exact (mgF c25 J24)
          · refine lv_iconst (v := 3) hx hb dX2_next_151 (by decide) ?_
            refine lv_goto (tgt := 156) hx hb dX2_next_152 (by decide) ?_
            exact (mgT c25 J24)
        · have hf := if_f hf c22
          refine lv_aload_n hx hb dX2_next_126 rfl (lv_at hl 0 rfl) ?_
          obtain ⟨a26, h27, hf⟩ := bn_some hf
          refine kEV (tX2_takeDigits l G ad_t ad_t_told ad_t_source ad_t_source_bytes (upd y17 6 (y17 5)) t_sourceI t_source_bytes a26 h27) ⟨hx, hb, hml, hown, hts⟩ q633 q635 q13 q104 q636 okyX2_takeDigits ⟨Nat.le_of_ble_eq_true rfl, Nat.le_of_ble_eq_true rfl⟩ hP hD hG hS hA [0, 1, 2] [] rfl (wr := []) rfl (by decide) 0 rfl rfl hl.1 rfl (Nat.le_of_ble_eq_true rfl) dX2_next_127 ⟨Nat.zero_le _, Nat.zero_le _⟩ (fun r w H locs hR hP hD hS => ?_)
          obtain ⟨rfl, rfl⟩ := hR
          have hP : va_P G.1 vwCl [(ad_t, .inr (2, [.ref ad_t_told, .int (a26 1), .int (a26 2), .ref ad_t_source, .int (a26 4), .int (a26 5), .int (a26 6), .int (a26 7)])), (ad_t_source, .inr (7, [.ref ad_t_source_bytes, .int (t_sourceI 1)])), (ad_t_source_bytes, .inl (G.2.1 1, 300, .inl t_source_bytes))] H := hP
          have hD : va_D A [(ad_t, .inr (2, [.ref ad_t_told, .int (a26 1), .int (a26 2), .ref ad_t_source, .int (a26 4), .int (a26 5), .int (a26 6), .int (a26 7)])), (ad_t_source, .inr (7, [.ref ad_t_source_bytes, .int (t_sourceI 1)])), (ad_t_source_bytes, .inl (G.2.1 1, 300, .inl t_source_bytes))] := hD
          refine W.eq (g2 := F0 m 130 ls []) rfl ?_
          refine lv_goto (tgt := 169) hx hb dX2_next_130 (by decide) ?_
          have hf := Option.some.inj hf
          subst hf
          exact eRetV hx hb hr hlocks hP hD hS ⟨rfl, rfl⟩ dX2_next_169
      · have hf := if_f hf c20
        refine lv_aload_n hx hb dX2_next_101 rfl (lv_at hl 0 rfl) ?_
        obtain ⟨a28, h29, hf⟩ := bn_some hf
        refine kEV (tX2_takeLetters l G ad_t ad_t_told ad_t_source ad_t_source_bytes (upd y17 6 (y17 5)) t_sourceI t_source_bytes a28 h29) ⟨hx, hb, hml, hown, hts⟩ q626 q628 q12 q104 q629 okyX2_takeLetters ⟨Nat.le_of_ble_eq_true rfl, Nat.le_of_ble_eq_true rfl⟩ hP hD hG hS hA [0, 1, 2] [] rfl (wr := []) rfl (by decide) 0 rfl rfl hl.1 rfl (Nat.le_of_ble_eq_true rfl) dX2_next_102 ⟨Nat.zero_le _, Nat.zero_le _⟩ (fun r w H locs hR hP hD hS => ?_)
        obtain ⟨rfl, rfl⟩ := hR
        have hP : va_P G.1 vwCl [(ad_t, .inr (2, [.ref ad_t_told, .int (a28 1), .int (a28 2), .ref ad_t_source, .int (a28 4), .int (a28 5), .int (a28 6), .int (a28 7)])), (ad_t_source, .inr (7, [.ref ad_t_source_bytes, .int (t_sourceI 1)])), (ad_t_source_bytes, .inl (G.2.1 1, 300, .inl t_source_bytes))] H := hP
        have hD : va_D A [(ad_t, .inr (2, [.ref ad_t_told, .int (a28 1), .int (a28 2), .ref ad_t_source, .int (a28 4), .int (a28 5), .int (a28 6), .int (a28 7)])), (ad_t_source, .inr (7, [.ref ad_t_source_bytes, .int (t_sourceI 1)])), (ad_t_source_bytes, .inl (G.2.1 1, 300, .inl t_source_bytes))] := hD
        refine W.eq (g2 := F0 m 105 ls []) rfl ?_
        refine lv_goto (tgt := 169) hx hb dX2_next_105 (by decide) ?_
        have hf := Option.some.inj hf
        subst hf
        exact eRetV hx hb hr hlocks hP hD hS ⟨rfl, rfl⟩ dX2_next_169
    · have hf := if_f hf c18
      refine lv_aload_n hx hb dX2_next_75 rfl (lv_at hl 0 rfl) ?_
      refine lv_iconst (v := 0) hx hb dX2_next_76 (by decide) ?_
      refine va_put (D := G.1) (cl := vwCl) (ci := 2) (v := .int (0 : Int32)) (ty := .int) (C := RX2) (T := TX2) (N := 8) hx hb hts inG2 tyX2 tyX2_ok nmX2 hown hK hP hD hS 0 rfl rfl 4 (Nat.le_of_ble_eq_true rfl) (hts _ q427) (fun _ h9 => h9) rfl (tyX2_ok 4 (Nat.le_of_ble_eq_true rfl)) rfl rfl (Nat.le_of_ble_eq_true rfl) dX2_next_77 (fun H locs hP hD hS => ?_)
      have hP : va_P G.1 vwCl [(ad_t, .inr (2, [.ref ad_t_told, .int (y17 1), .int (y17 2), .ref ad_t_source, .int (0 : Int32), .int (y17 5), .int (y17 5), .int (y17 7)])), (ad_t_source, .inr (7, [.ref ad_t_source_bytes, .int (t_sourceI 1)])), (ad_t_source_bytes, .inl (G.2.1 1, 300, .inl t_source_bytes))] H := hP
      have hD : va_D A [(ad_t, .inr (2, [.ref ad_t_told, .int (y17 1), .int (y17 2), .ref ad_t_source, .int (0 : Int32), .int (y17 5), .int (y17 5), .int (y17 7)])), (ad_t_source, .inr (7, [.ref ad_t_source_bytes, .int (t_sourceI 1)])), (ad_t_source_bytes, .inl (G.2.1 1, 300, .inl t_source_bytes))] := hD
      refine lv_goto (tgt := 169) hx hb dX2_next_80 (by decide) ?_
      have hf := Option.some.inj hf
      subst hf
      exact eRetV hx hb hr hlocks hP hD hS ⟨rfl, rfl⟩ dX2_next_169
  have Ly17 : ∀ (n : Nat), ∀ (g30 : Nat → Int32) (H : Heap) (locs : List Loc) (ls : Array Slot), lv_has ls 1 [(0, .ref ad_t)] → va_P G.1 vwCl [(ad_t, .inr (2, [.ref ad_t_told, .int (g30 1), .int (g30 2), .ref ad_t_source, .int (g30 4), .int (g30 5), .int (g30 6), .int (g30 7)])), (ad_t_source, .inr (7, [.ref ad_t_source_bytes, .int (t_sourceI 1)])), (ad_t_source_bytes, .inl (G.2.1 1, 300, .inl t_source_bytes))] H → va_D A [(ad_t, .inr (2, [.ref ad_t_told, .int (g30 1), .int (g30 2), .ref ad_t_source, .int (g30 4), .int (g30 5), .int (g30 6), .int (g30 7)])), (ad_t_source, .inr (7, [.ref ad_t_source_bytes, .int (t_sourceI 1)])), (ad_t_source_bytes, .inl (G.2.1 1, 300, .inl t_source_bytes))] → va_S A s.heap H locs → fX2_next_l8 t_sourceI t_source_bytes n g30 = some y17 → wG p l e 2 40 s m [.ref ad_t] below meth cd H locs (eQ G A (fun r w => r = none ∧ w = [(ad_t, .inr (2, [.ref ad_t_told, .int (o 1), .int (o 2), .ref ad_t_source, .int (o 4), .int (o 5), .int (o 6), .int (o 7)])), (ad_t_source, .inr (7, [.ref ad_t_source_bytes, .int (t_sourceI 1)])), (ad_t_source_bytes, .inl (G.2.1 1, 300, .inl t_source_bytes))])) A (F0 m 8 ls []) := by
    intro n
    induction n with
    | zero =>
      intro g30 H locs ls hl hP hD hS hf
      rw [fX2_next_l8] at hf
      cases hf
    | succ n ih =>
      intro g30 H locs ls hl hP hD hS hf
      rw [fX2_next_l8] at hf
      refine lv_aload_n hx hb dX2_next_8 rfl (lv_at hl 0 rfl) ?_
      refine va_get (D := G.1) (cl := vwCl) (ci := 2) (v := .int (g30 5)) (C := RX2) (T := TX2) (N := 8) hx hb hts inG2 hown hK hP 0 rfl rfl 5 (Nat.le_of_ble_eq_true rfl) (hts _ q428) (fun _ h9 => h9) rfl dX2_next_9 ?_
      refine lv_aload_n hx hb dX2_next_12 rfl (lv_at hl 0 rfl) ?_
      refine va_get (D := G.1) (cl := vwCl) (ci := 2) (v := .ref ad_t_source) (C := RX2) (T := TX2) (N := 8) hx hb hts inG2 hown hK hP 0 rfl rfl 3 (Nat.le_of_ble_eq_true rfl) (hts _ q426) (fun _ h9 => h9) rfl dX2_next_13 ?_
      refine va_get (D := G.1) (cl := vwCl) (ci := 7) (v := .int (t_sourceI 1)) (C := RX7) (T := TX7) (N := 2) hx hb hts inG7 hown hK hP 1 rfl rfl 1 (Nat.le_of_ble_eq_true rfl) (hts _ q210) (fun _ h9 => h9) rfl dX2_next_16 ?_
      refine lv_icmp_ge (tgt := 53) hx hb dX2_next_19 (by decide) (fun c31 => ?_) (fun c31 => ?_)
      · have hf := if_t hf c31
        have hf := Option.some.inj hf
        subst hf
        exact Ey17  H locs ls (lv_sub hl [0] rfl) hP hD hS 
      · have hf := if_f hf c31
        refine lv_aload_n hx hb dX2_next_22 rfl (lv_at hl 0 rfl) ?_
        refine va_get (D := G.1) (cl := vwCl) (ci := 2) (v := .ref ad_t_source) (C := RX2) (T := TX2) (N := 8) hx hb hts inG2 hown hK hP 0 rfl rfl 3 (Nat.le_of_ble_eq_true rfl) (hts _ q426) (fun _ h9 => h9) rfl dX2_next_23 ?_
        refine va_get (D := G.1) (cl := vwCl) (ci := 7) (v := .ref ad_t_source_bytes) (C := RX7) (T := TX7) (N := 2) hx hb hts inG7 hown hK hP 1 rfl rfl 0 (Nat.le_of_ble_eq_true rfl) (hts _ q206) (fun _ h9 => h9) rfl dX2_next_26 ?_
        refine lv_aload_n hx hb dX2_next_29 rfl (lv_at hl 0 rfl) ?_
        refine va_get (D := G.1) (cl := vwCl) (ci := 2) (v := .int (g30 5)) (C := RX2) (T := TX2) (N := 8) hx hb hts inG2 hown hK hP 0 rfl rfl 5 (Nat.le_of_ble_eq_true rfl) (hts _ q428) (fun _ h9 => h9) rfl dX2_next_30 ?_
        obtain ⟨h32, hf⟩ := gd_some hf
        refine va_bald (D := G.1) (cl := vwCl) hx hb hK hP 2 1 rfl rfl (gi_in h32) dX2_next_33 ?_
        refine kPS (tX2_isBlank l G (t_source_bytes (g30 5).toNatClampNeg) _ rfl) ⟨hx, hb, hml, hown, hts⟩ q620 q621 q104 q622 okyX2_isBlank ⟨Nat.le_of_ble_eq_true rfl, Nat.le_of_ble_eq_true rfl⟩ hP hG hS [] rfl hl.1 rfl (Nat.le_of_ble_eq_true rfl) dX2_next_34 ⟨Nat.zero_le _, Nat.zero_le _⟩ (fun locs hS => ?_)
        refine W.eq (g2 := F0 m 37 ls [.int (bi (fX2_isBlank (t_source_bytes (g30 5).toNatClampNeg)))]) rfl ?_
        refine lv_if_eq (tgt := 53) hx hb dX2_next_37 (by decide) (fun c33 => ?_) (fun c33 => ?_)
        · have hf := if_t hf c33
          have hf := Option.some.inj hf
          subst hf
          exact Ey17  H locs ls (lv_sub hl [0] rfl) hP hD hS 
        · have hf := if_f hf c33
          refine lv_aload_n hx hb dX2_next_40 rfl (lv_at hl 0 rfl) ?_
          refine lv_dup hx hb dX2_next_41 rfl ?_
          refine va_get (D := G.1) (cl := vwCl) (ci := 2) (v := .int (g30 5)) (C := RX2) (T := TX2) (N := 8) hx hb hts inG2 hown hK hP 0 rfl rfl 5 (Nat.le_of_ble_eq_true rfl) (hts _ q428) (fun _ h9 => h9) rfl dX2_next_42 ?_
          refine lv_iconst (v := 1) hx hb dX2_next_45 (by decide) ?_
          refine lv_iadd hx hb dX2_next_46 ?_
          refine va_put (D := G.1) (cl := vwCl) (ci := 2) (v := .int ((g30 5) + (1 : Int32))) (ty := .int) (C := RX2) (T := TX2) (N := 8) hx hb hts inG2 tyX2 tyX2_ok nmX2 hown hK hP hD hS 0 rfl rfl 5 (Nat.le_of_ble_eq_true rfl) (hts _ q428) (fun _ h9 => h9) rfl (tyX2_ok 5 (Nat.le_of_ble_eq_true rfl)) rfl rfl (Nat.le_of_ble_eq_true rfl) dX2_next_47 (fun H locs hP hD hS => ?_)
          have hP : va_P G.1 vwCl [(ad_t, .inr (2, [.ref ad_t_told, .int (g30 1), .int (g30 2), .ref ad_t_source, .int (g30 4), .int ((g30 5) + (1 : Int32)), .int (g30 6), .int (g30 7)])), (ad_t_source, .inr (7, [.ref ad_t_source_bytes, .int (t_sourceI 1)])), (ad_t_source_bytes, .inl (G.2.1 1, 300, .inl t_source_bytes))] H := hP
          have hD : va_D A [(ad_t, .inr (2, [.ref ad_t_told, .int (g30 1), .int (g30 2), .ref ad_t_source, .int (g30 4), .int ((g30 5) + (1 : Int32)), .int (g30 6), .int (g30 7)])), (ad_t_source, .inr (7, [.ref ad_t_source_bytes, .int (t_sourceI 1)])), (ad_t_source_bytes, .inl (G.2.1 1, 300, .inl t_source_bytes))] := hD
          refine lv_goto (tgt := 8) hx hb dX2_next_50 (by decide) ?_
          exact ih (upd g30 5 ((g30 5) + (1 : Int32))) H locs ls (lv_sub hl [0] rfl) hP hD hS hf
  exact Ly17 FU (upd tI 5 (tI 6)) H locs ls (lv_sub hl [0] rfl) hP hD hS hLy17

def fX3_find_l33 (p0I : Nat → Int32) (p0_badColumns : Nat → Int32) : Nat → Int32 → Int32 → (Nat → Int32) → Option (Int32 × (Nat → Int32))
  | 0, _, _, _ => none
  | n + 1, x3, x4, t_candidates =>
    (if (p0I 4) ≤ x4 then some (x3, t_candidates) else gd (gi x4 12) (bn (fX10_putRising t_candidates x3 (p0_badColumns x4.toNatClampNeg)) fun a3 => fX3_find_l33 p0I p0_badColumns n a3.1 (x4 + (1 : Int32)) a3.2))
def fX3_find_l103 (x2 : Int32) (x3 : Int32) (x4 : Int32) (t_candidates : Nat → Int32) (p0I : Nat → Int32) (p0_numbers : Nat → Int32) (p0_badRows : Nat → Int32) (p0_badColumns : Nat → Int32) : Nat → Int32 → (Nat → Int32) → (Nat → Int32) → (Nat → Int32) → (Nat → Int32) → Option ((Nat → Int32) × (Nat → Int32) × (Nat → Int32) × (Nat → Int32))
  | 0, _, _, _, _, _ => none
  | n + 1, x5, tI, t_rows, t_columns, t_left =>
    (if x3 ≤ x5 then some (tI, t_rows, t_columns, t_left) else (if x2 ≤ (1 : Int32) then some (tI, t_rows, t_columns, t_left) else gd (gi x4 12) (gd (gi x5 12) (bn (fX3_offer tI t_rows t_columns t_left p0I p0_numbers p0_badRows p0_badColumns (t_candidates x4.toNatClampNeg) (t_candidates x5.toNatClampNeg)) fun a17 => fX3_find_l103 x2 x3 x4 t_candidates p0I p0_numbers p0_badRows p0_badColumns n (x5 + (1 : Int32)) a17.1 a17.2.1 a17.2.2.1 a17.2.2.2))))
def fX3_find_l74 (x2 : Int32) (x3 : Int32) (t_candidates : Nat → Int32) (p0I : Nat → Int32) (p0_numbers : Nat → Int32) (p0_badRows : Nat → Int32) (p0_badColumns : Nat → Int32) : Nat → Int32 → (Nat → Int32) → (Nat → Int32) → (Nat → Int32) → (Nat → Int32) → Option ((Nat → Int32) × (Nat → Int32) × (Nat → Int32) × (Nat → Int32))
  | 0, _, _, _, _, _ => none
  | n + 1, x4, tI, t_rows, t_columns, t_left =>
    (if x3 ≤ x4 then some (tI, t_rows, t_columns, t_left) else (if x2 ≤ 0 then some (tI, t_rows, t_columns, t_left) else gd (gi x4 12) (bn (fX3_offer tI t_rows t_columns t_left p0I p0_numbers p0_badRows p0_badColumns (t_candidates x4.toNatClampNeg) (-1 : Int32)) fun a11 => bn (fX3_find_l103 x2 x3 x4 t_candidates p0I p0_numbers p0_badRows p0_badColumns FU (x4 + (1 : Int32)) a11.1 a11.2.1 a11.2.2.1 a11.2.2.2) fun y19 => fX3_find_l74 x2 x3 t_candidates p0I p0_numbers p0_badRows p0_badColumns n (x4 + (1 : Int32)) y19.1 y19.2.1 y19.2.2.1 y19.2.2.2)))
def fX3_find (tI : Nat → Int32) (t_rows : Nat → Int32) (t_columns : Nat → Int32) (t_candidates : Nat → Int32) (t_left : Nat → Int32) (p0I : Nat → Int32) (p0_numbers : Nat → Int32) (p0_badRows : Nat → Int32) (p0_badColumns : Nat → Int32) : Option ((Nat → Int32) × (Nat → Int32) × (Nat → Int32) × (Nat → Int32) × (Nat → Int32)) :=
  bn (fX3_find_l33 p0I p0_badColumns FU (0 : Int32) (0 : Int32) t_candidates) fun y5 => bn (fX3_offer (upd (upd (upd (upd tI 2 (0 : Int32)) 3 (0 : Int32)) 4 (0 : Int32)) 5 (12 : Int32)) t_rows t_columns t_left p0I p0_numbers p0_badRows p0_badColumns (-1 : Int32) (-1 : Int32)) fun a6 => bn (fX3_find_l74 (p0_numbers 4) y5.1 y5.2 p0I p0_numbers p0_badRows p0_badColumns FU (0 : Int32) a6.1 a6.2.1 a6.2.2.1 a6.2.2.2) fun y20 => some (y20.1, y20.2.1, y20.2.2.1, y5.2, y20.2.2.2)
set_option maxRecDepth 100000 in
set_option maxHeartbeats 4000000 in
theorem tX3_find (l : Launch) (G : gG) (ad_t ad_t_rows ad_t_columns ad_t_candidates ad_t_left ad_p0 ad_p0_numbers ad_p0_badRows ad_p0_badColumns ad_p0_badBits : Nat) (tI : Nat → Int32) (t_rows : Nat → Int32) (t_columns : Nat → Int32) (t_candidates : Nat → Int32) (t_left : Nat → Int32) (p0I : Nat → Int32) (p0_numbers : Nat → Int32) (p0_badRows : Nat → Int32) (p0_badColumns : Nat → Int32) (o : (Nat → Int32) × (Nat → Int32) × (Nat → Int32) × (Nat → Int32) × (Nat → Int32)) (hf : fX3_find tI t_rows t_columns t_candidates t_left p0I p0_numbers p0_badRows p0_badColumns = some o) : mE G l yX3_find cX3_find 6 none 2 51 0 0 [.ref ad_t, .ref ad_p0] [(ad_t, .inr (3, [.ref ad_t_rows, .ref ad_t_columns, .int (tI 2), .int (tI 3), .int (tI 4), .int (tI 5), .ref ad_t_candidates, .ref ad_t_left, .int (tI 8)])), (ad_t_rows, .inl (G.2.1 0, 4, .inl t_rows)), (ad_t_columns, .inl (G.2.1 0, 2, .inl t_columns)), (ad_t_candidates, .inl (G.2.1 0, 12, .inl t_candidates)), (ad_t_left, .inl (G.2.1 0, 12, .inl t_left)), (ad_p0, .inr (5, [.ref ad_p0_numbers, .ref ad_p0_badRows, .ref ad_p0_badColumns, .ref ad_p0_badBits, .int (p0I 4)])), (ad_p0_numbers, .inl (G.2.1 0, 9, .inl p0_numbers)), (ad_p0_badRows, .inl (G.2.1 0, 12, .inl p0_badRows)), (ad_p0_badColumns, .inl (G.2.1 0, 12, .inl p0_badColumns))] (fun r w => r = none ∧ w = [(ad_t, .inr (3, [.ref ad_t_rows, .ref ad_t_columns, .int (o.1 2), .int (o.1 3), .int (o.1 4), .int (o.1 5), .ref ad_t_candidates, .ref ad_t_left, .int (o.1 8)])), (ad_t_rows, .inl (G.2.1 0, 4, .inl o.2.1)), (ad_t_columns, .inl (G.2.1 0, 2, .inl o.2.2.1)), (ad_t_candidates, .inl (G.2.1 0, 12, .inl o.2.2.2.1)), (ad_t_left, .inl (G.2.1 0, 12, .inl o.2.2.2.2)), (ad_p0, .inr (5, [.ref ad_p0_numbers, .ref ad_p0_badRows, .ref ad_p0_badColumns, .ref ad_p0_badBits, .int (p0I 4)])), (ad_p0_numbers, .inl (G.2.1 0, 9, .inl p0_numbers)), (ad_p0_badRows, .inl (G.2.1 0, 12, .inl p0_badRows)), (ad_p0_badColumns, .inl (G.2.1 0, 12, .inl p0_badColumns))]) := by
  refine mE_of (by decide) (Nat.le_of_ble_eq_true rfl) ?_
  intro p e s m below meth cd ls A hx hb hml hown hts hr hlocks hnm hl hA hP hD hS hG
  have hK := hG.1
  have hown : s.vm.findClass RX3 = some m.cls := hown
  have hl : lv_has ls 6 [(0, .ref ad_t), (1, .ref ad_p0)] := hl
  have hS := hS
  unfold fX3_find at hf
  obtain ⟨H, locs, eH, eL⟩ : ∃ (H : Heap) (locs : List Loc), H = s.heap ∧ locs = [] := ⟨_, _, rfl, rfl⟩
  have hP : va_P G.1 vwCl [(ad_t, .inr (3, [.ref ad_t_rows, .ref ad_t_columns, .int (tI 2), .int (tI 3), .int (tI 4), .int (tI 5), .ref ad_t_candidates, .ref ad_t_left, .int (tI 8)])), (ad_t_rows, .inl (G.2.1 0, 4, .inl t_rows)), (ad_t_columns, .inl (G.2.1 0, 2, .inl t_columns)), (ad_t_candidates, .inl (G.2.1 0, 12, .inl t_candidates)), (ad_t_left, .inl (G.2.1 0, 12, .inl t_left)), (ad_p0, .inr (5, [.ref ad_p0_numbers, .ref ad_p0_badRows, .ref ad_p0_badColumns, .ref ad_p0_badBits, .int (p0I 4)])), (ad_p0_numbers, .inl (G.2.1 0, 9, .inl p0_numbers)), (ad_p0_badRows, .inl (G.2.1 0, 12, .inl p0_badRows)), (ad_p0_badColumns, .inl (G.2.1 0, 12, .inl p0_badColumns))] H := eH ▸ hP
  have hS : va_S A s.heap H locs := by rw [eH, eL]; exact hS
  suffices hgo : wG p l e 2 51 s m [.ref ad_t, .ref ad_p0] below meth cd H locs (eQ G A (fun r w => r = none ∧ w = [(ad_t, .inr (3, [.ref ad_t_rows, .ref ad_t_columns, .int (o.1 2), .int (o.1 3), .int (o.1 4), .int (o.1 5), .ref ad_t_candidates, .ref ad_t_left, .int (o.1 8)])), (ad_t_rows, .inl (G.2.1 0, 4, .inl o.2.1)), (ad_t_columns, .inl (G.2.1 0, 2, .inl o.2.2.1)), (ad_t_candidates, .inl (G.2.1 0, 12, .inl o.2.2.2.1)), (ad_t_left, .inl (G.2.1 0, 12, .inl o.2.2.2.2)), (ad_p0, .inr (5, [.ref ad_p0_numbers, .ref ad_p0_badRows, .ref ad_p0_badColumns, .ref ad_p0_badBits, .int (p0I 4)])), (ad_p0_numbers, .inl (G.2.1 0, 9, .inl p0_numbers)), (ad_p0_badRows, .inl (G.2.1 0, 12, .inl p0_badRows)), (ad_p0_badColumns, .inl (G.2.1 0, 12, .inl p0_badColumns))])) A (F0 m 0 ls []) by rw [eH, eL] at hgo; exact hgo
  clear eH eL
  refine lv_aload_n hx hb dX3_find_0 rfl (lv_at hl 0 rfl) ?_
  refine lv_iconst (v := 0) hx hb dX3_find_1 (by decide) ?_
  refine va_put (D := G.1) (cl := vwCl) (ci := 3) (v := .int (0 : Int32)) (ty := .boolean) (C := RX3) (T := TX3) (N := 9) hx hb hts inG3 tyX3 tyX3_ok nmX3 hown hK hP hD hS 0 rfl rfl 4 (Nat.le_of_ble_eq_true rfl) (hts _ q292) (fun _ h9 => h9) rfl (tyX3_ok 4 (Nat.le_of_ble_eq_true rfl)) rfl rfl (Nat.le_of_ble_eq_true rfl) dX3_find_2 (fun H locs hP hD hS => ?_)
  have hP : va_P G.1 vwCl [(ad_t, .inr (3, [.ref ad_t_rows, .ref ad_t_columns, .int (tI 2), .int (tI 3), .int (0 : Int32), .int (tI 5), .ref ad_t_candidates, .ref ad_t_left, .int (tI 8)])), (ad_t_rows, .inl (G.2.1 0, 4, .inl t_rows)), (ad_t_columns, .inl (G.2.1 0, 2, .inl t_columns)), (ad_t_candidates, .inl (G.2.1 0, 12, .inl t_candidates)), (ad_t_left, .inl (G.2.1 0, 12, .inl t_left)), (ad_p0, .inr (5, [.ref ad_p0_numbers, .ref ad_p0_badRows, .ref ad_p0_badColumns, .ref ad_p0_badBits, .int (p0I 4)])), (ad_p0_numbers, .inl (G.2.1 0, 9, .inl p0_numbers)), (ad_p0_badRows, .inl (G.2.1 0, 12, .inl p0_badRows)), (ad_p0_badColumns, .inl (G.2.1 0, 12, .inl p0_badColumns))] H := hP
  have hD : va_D A [(ad_t, .inr (3, [.ref ad_t_rows, .ref ad_t_columns, .int (tI 2), .int (tI 3), .int (0 : Int32), .int (tI 5), .ref ad_t_candidates, .ref ad_t_left, .int (tI 8)])), (ad_t_rows, .inl (G.2.1 0, 4, .inl t_rows)), (ad_t_columns, .inl (G.2.1 0, 2, .inl t_columns)), (ad_t_candidates, .inl (G.2.1 0, 12, .inl t_candidates)), (ad_t_left, .inl (G.2.1 0, 12, .inl t_left)), (ad_p0, .inr (5, [.ref ad_p0_numbers, .ref ad_p0_badRows, .ref ad_p0_badColumns, .ref ad_p0_badBits, .int (p0I 4)])), (ad_p0_numbers, .inl (G.2.1 0, 9, .inl p0_numbers)), (ad_p0_badRows, .inl (G.2.1 0, 12, .inl p0_badRows)), (ad_p0_badColumns, .inl (G.2.1 0, 12, .inl p0_badColumns))] := hD
  refine lv_aload_n hx hb dX3_find_5 rfl (lv_at hl 0 rfl) ?_
  refine lv_iconst (v := 0) hx hb dX3_find_6 (by decide) ?_
  refine va_put (D := G.1) (cl := vwCl) (ci := 3) (v := .int (0 : Int32)) (ty := .int) (C := RX3) (T := TX3) (N := 9) hx hb hts inG3 tyX3 tyX3_ok nmX3 hown hK hP hD hS 0 rfl rfl 2 (Nat.le_of_ble_eq_true rfl) (hts _ q284) (fun _ h9 => h9) rfl (tyX3_ok 2 (Nat.le_of_ble_eq_true rfl)) rfl rfl (Nat.le_of_ble_eq_true rfl) dX3_find_7 (fun H locs hP hD hS => ?_)
  have hP : va_P G.1 vwCl [(ad_t, .inr (3, [.ref ad_t_rows, .ref ad_t_columns, .int (0 : Int32), .int (tI 3), .int (0 : Int32), .int (tI 5), .ref ad_t_candidates, .ref ad_t_left, .int (tI 8)])), (ad_t_rows, .inl (G.2.1 0, 4, .inl t_rows)), (ad_t_columns, .inl (G.2.1 0, 2, .inl t_columns)), (ad_t_candidates, .inl (G.2.1 0, 12, .inl t_candidates)), (ad_t_left, .inl (G.2.1 0, 12, .inl t_left)), (ad_p0, .inr (5, [.ref ad_p0_numbers, .ref ad_p0_badRows, .ref ad_p0_badColumns, .ref ad_p0_badBits, .int (p0I 4)])), (ad_p0_numbers, .inl (G.2.1 0, 9, .inl p0_numbers)), (ad_p0_badRows, .inl (G.2.1 0, 12, .inl p0_badRows)), (ad_p0_badColumns, .inl (G.2.1 0, 12, .inl p0_badColumns))] H := hP
  have hD : va_D A [(ad_t, .inr (3, [.ref ad_t_rows, .ref ad_t_columns, .int (0 : Int32), .int (tI 3), .int (0 : Int32), .int (tI 5), .ref ad_t_candidates, .ref ad_t_left, .int (tI 8)])), (ad_t_rows, .inl (G.2.1 0, 4, .inl t_rows)), (ad_t_columns, .inl (G.2.1 0, 2, .inl t_columns)), (ad_t_candidates, .inl (G.2.1 0, 12, .inl t_candidates)), (ad_t_left, .inl (G.2.1 0, 12, .inl t_left)), (ad_p0, .inr (5, [.ref ad_p0_numbers, .ref ad_p0_badRows, .ref ad_p0_badColumns, .ref ad_p0_badBits, .int (p0I 4)])), (ad_p0_numbers, .inl (G.2.1 0, 9, .inl p0_numbers)), (ad_p0_badRows, .inl (G.2.1 0, 12, .inl p0_badRows)), (ad_p0_badColumns, .inl (G.2.1 0, 12, .inl p0_badColumns))] := hD
  refine lv_aload_n hx hb dX3_find_10 rfl (lv_at hl 0 rfl) ?_
  refine lv_iconst (v := 0) hx hb dX3_find_11 (by decide) ?_
  refine va_put (D := G.1) (cl := vwCl) (ci := 3) (v := .int (0 : Int32)) (ty := .int) (C := RX3) (T := TX3) (N := 9) hx hb hts inG3 tyX3 tyX3_ok nmX3 hown hK hP hD hS 0 rfl rfl 3 (Nat.le_of_ble_eq_true rfl) (hts _ q288) (fun _ h9 => h9) rfl (tyX3_ok 3 (Nat.le_of_ble_eq_true rfl)) rfl rfl (Nat.le_of_ble_eq_true rfl) dX3_find_12 (fun H locs hP hD hS => ?_)
  have hP : va_P G.1 vwCl [(ad_t, .inr (3, [.ref ad_t_rows, .ref ad_t_columns, .int (0 : Int32), .int (0 : Int32), .int (0 : Int32), .int (tI 5), .ref ad_t_candidates, .ref ad_t_left, .int (tI 8)])), (ad_t_rows, .inl (G.2.1 0, 4, .inl t_rows)), (ad_t_columns, .inl (G.2.1 0, 2, .inl t_columns)), (ad_t_candidates, .inl (G.2.1 0, 12, .inl t_candidates)), (ad_t_left, .inl (G.2.1 0, 12, .inl t_left)), (ad_p0, .inr (5, [.ref ad_p0_numbers, .ref ad_p0_badRows, .ref ad_p0_badColumns, .ref ad_p0_badBits, .int (p0I 4)])), (ad_p0_numbers, .inl (G.2.1 0, 9, .inl p0_numbers)), (ad_p0_badRows, .inl (G.2.1 0, 12, .inl p0_badRows)), (ad_p0_badColumns, .inl (G.2.1 0, 12, .inl p0_badColumns))] H := hP
  have hD : va_D A [(ad_t, .inr (3, [.ref ad_t_rows, .ref ad_t_columns, .int (0 : Int32), .int (0 : Int32), .int (0 : Int32), .int (tI 5), .ref ad_t_candidates, .ref ad_t_left, .int (tI 8)])), (ad_t_rows, .inl (G.2.1 0, 4, .inl t_rows)), (ad_t_columns, .inl (G.2.1 0, 2, .inl t_columns)), (ad_t_candidates, .inl (G.2.1 0, 12, .inl t_candidates)), (ad_t_left, .inl (G.2.1 0, 12, .inl t_left)), (ad_p0, .inr (5, [.ref ad_p0_numbers, .ref ad_p0_badRows, .ref ad_p0_badColumns, .ref ad_p0_badBits, .int (p0I 4)])), (ad_p0_numbers, .inl (G.2.1 0, 9, .inl p0_numbers)), (ad_p0_badRows, .inl (G.2.1 0, 12, .inl p0_badRows)), (ad_p0_badColumns, .inl (G.2.1 0, 12, .inl p0_badColumns))] := hD
  refine lv_aload_n hx hb dX3_find_15 rfl (lv_at hl 0 rfl) ?_
  refine lv_bipush (v := 12) hx hb dX3_find_16 (by decide) ?_
  refine va_put (D := G.1) (cl := vwCl) (ci := 3) (v := .int (12 : Int32)) (ty := .int) (C := RX3) (T := TX3) (N := 9) hx hb hts inG3 tyX3 tyX3_ok nmX3 hown hK hP hD hS 0 rfl rfl 5 (Nat.le_of_ble_eq_true rfl) (hts _ q295) (fun _ h9 => h9) rfl (tyX3_ok 5 (Nat.le_of_ble_eq_true rfl)) rfl rfl (Nat.le_of_ble_eq_true rfl) dX3_find_18 (fun H locs hP hD hS => ?_)
  have hP : va_P G.1 vwCl [(ad_t, .inr (3, [.ref ad_t_rows, .ref ad_t_columns, .int (0 : Int32), .int (0 : Int32), .int (0 : Int32), .int (12 : Int32), .ref ad_t_candidates, .ref ad_t_left, .int (tI 8)])), (ad_t_rows, .inl (G.2.1 0, 4, .inl t_rows)), (ad_t_columns, .inl (G.2.1 0, 2, .inl t_columns)), (ad_t_candidates, .inl (G.2.1 0, 12, .inl t_candidates)), (ad_t_left, .inl (G.2.1 0, 12, .inl t_left)), (ad_p0, .inr (5, [.ref ad_p0_numbers, .ref ad_p0_badRows, .ref ad_p0_badColumns, .ref ad_p0_badBits, .int (p0I 4)])), (ad_p0_numbers, .inl (G.2.1 0, 9, .inl p0_numbers)), (ad_p0_badRows, .inl (G.2.1 0, 12, .inl p0_badRows)), (ad_p0_badColumns, .inl (G.2.1 0, 12, .inl p0_badColumns))] H := hP
  have hD : va_D A [(ad_t, .inr (3, [.ref ad_t_rows, .ref ad_t_columns, .int (0 : Int32), .int (0 : Int32), .int (0 : Int32), .int (12 : Int32), .ref ad_t_candidates, .ref ad_t_left, .int (tI 8)])), (ad_t_rows, .inl (G.2.1 0, 4, .inl t_rows)), (ad_t_columns, .inl (G.2.1 0, 2, .inl t_columns)), (ad_t_candidates, .inl (G.2.1 0, 12, .inl t_candidates)), (ad_t_left, .inl (G.2.1 0, 12, .inl t_left)), (ad_p0, .inr (5, [.ref ad_p0_numbers, .ref ad_p0_badRows, .ref ad_p0_badColumns, .ref ad_p0_badBits, .int (p0I 4)])), (ad_p0_numbers, .inl (G.2.1 0, 9, .inl p0_numbers)), (ad_p0_badRows, .inl (G.2.1 0, 12, .inl p0_badRows)), (ad_p0_badColumns, .inl (G.2.1 0, 12, .inl p0_badColumns))] := hD
  refine lv_aload_n hx hb dX3_find_21 rfl (lv_at hl 1 rfl) ?_
  refine va_get (D := G.1) (cl := vwCl) (ci := 5) (v := .ref ad_p0_numbers) (C := RX5) (T := TX5) (N := 5) hx hb hts inG5 hown hK hP 5 rfl rfl 0 (Nat.le_of_ble_eq_true rfl) (hts _ q151) (fun _ h9 => h9) rfl dX3_find_22 ?_
  refine lv_iconst (v := 4) hx hb dX3_find_25 (by decide) ?_
  refine va_iald (D := G.1) (cl := vwCl) hx hb hK hP 6 0 rfl rfl (vin (by decide)) dX3_find_26 ?_
  refine lv_ti (v := (p0_numbers 4)) (congrArg (p0_numbers) (tn 4)) ?_
  refine lv_istore_n (lv' := [(2, .int (p0_numbers 4)), (0, .ref ad_t), (1, .ref ad_p0)]) hx hb dX3_find_27 rfl hl (by decide) rfl (fun ls hl => ?_)
  refine lv_iconst (v := 0) hx hb dX3_find_28 (by decide) ?_
  refine lv_istore_n (lv' := [(3, .int (0 : Int32)), (2, .int (p0_numbers 4)), (0, .ref ad_t), (1, .ref ad_p0)]) hx hb dX3_find_29 rfl hl (by decide) rfl (fun ls hl => ?_)
  refine lv_iconst (v := 0) hx hb dX3_find_30 (by decide) ?_
  refine lv_istore (lv' := [(4, .int (0 : Int32)), (3, .int (0 : Int32)), (2, .int (p0_numbers 4)), (0, .ref ad_t), (1, .ref ad_p0)]) hx hb dX3_find_31 hl (by decide) rfl (fun ls hl => ?_)
  obtain ⟨y21, hLy21, hky21⟩ := bn_some hf
  have Ey21 : ∀  (H : Heap) (locs : List Loc) (ls : Array Slot), lv_has ls 6 [(3, .int y21.1), (2, .int (p0_numbers 4)), (0, .ref ad_t), (1, .ref ad_p0)] → va_P G.1 vwCl [(ad_t, .inr (3, [.ref ad_t_rows, .ref ad_t_columns, .int (0 : Int32), .int (0 : Int32), .int (0 : Int32), .int (12 : Int32), .ref ad_t_candidates, .ref ad_t_left, .int (tI 8)])), (ad_t_rows, .inl (G.2.1 0, 4, .inl t_rows)), (ad_t_columns, .inl (G.2.1 0, 2, .inl t_columns)), (ad_t_candidates, .inl (G.2.1 0, 12, .inl y21.2)), (ad_t_left, .inl (G.2.1 0, 12, .inl t_left)), (ad_p0, .inr (5, [.ref ad_p0_numbers, .ref ad_p0_badRows, .ref ad_p0_badColumns, .ref ad_p0_badBits, .int (p0I 4)])), (ad_p0_numbers, .inl (G.2.1 0, 9, .inl p0_numbers)), (ad_p0_badRows, .inl (G.2.1 0, 12, .inl p0_badRows)), (ad_p0_badColumns, .inl (G.2.1 0, 12, .inl p0_badColumns))] H → va_D A [(ad_t, .inr (3, [.ref ad_t_rows, .ref ad_t_columns, .int (0 : Int32), .int (0 : Int32), .int (0 : Int32), .int (12 : Int32), .ref ad_t_candidates, .ref ad_t_left, .int (tI 8)])), (ad_t_rows, .inl (G.2.1 0, 4, .inl t_rows)), (ad_t_columns, .inl (G.2.1 0, 2, .inl t_columns)), (ad_t_candidates, .inl (G.2.1 0, 12, .inl y21.2)), (ad_t_left, .inl (G.2.1 0, 12, .inl t_left)), (ad_p0, .inr (5, [.ref ad_p0_numbers, .ref ad_p0_badRows, .ref ad_p0_badColumns, .ref ad_p0_badBits, .int (p0I 4)])), (ad_p0_numbers, .inl (G.2.1 0, 9, .inl p0_numbers)), (ad_p0_badRows, .inl (G.2.1 0, 12, .inl p0_badRows)), (ad_p0_badColumns, .inl (G.2.1 0, 12, .inl p0_badColumns))] → va_S A s.heap H locs → wG p l e 2 51 s m [.ref ad_t, .ref ad_p0] below meth cd H locs (eQ G A (fun r w => r = none ∧ w = [(ad_t, .inr (3, [.ref ad_t_rows, .ref ad_t_columns, .int (o.1 2), .int (o.1 3), .int (o.1 4), .int (o.1 5), .ref ad_t_candidates, .ref ad_t_left, .int (o.1 8)])), (ad_t_rows, .inl (G.2.1 0, 4, .inl o.2.1)), (ad_t_columns, .inl (G.2.1 0, 2, .inl o.2.2.1)), (ad_t_candidates, .inl (G.2.1 0, 12, .inl o.2.2.2.1)), (ad_t_left, .inl (G.2.1 0, 12, .inl o.2.2.2.2)), (ad_p0, .inr (5, [.ref ad_p0_numbers, .ref ad_p0_badRows, .ref ad_p0_badColumns, .ref ad_p0_badBits, .int (p0I 4)])), (ad_p0_numbers, .inl (G.2.1 0, 9, .inl p0_numbers)), (ad_p0_badRows, .inl (G.2.1 0, 12, .inl p0_badRows)), (ad_p0_badColumns, .inl (G.2.1 0, 12, .inl p0_badColumns))])) A (F0 m 64 ls []) := by
    intro  H locs ls hl hP hD hS
    have hf := hky21
    refine lv_aload_n hx hb dX3_find_64 rfl (lv_at hl 2 rfl) ?_
    refine lv_aload_n hx hb dX3_find_65 rfl (lv_at hl 3 rfl) ?_
    refine lv_iconst (v := -1) hx hb dX3_find_66 (by decide) ?_
    refine lv_iconst (v := -1) hx hb dX3_find_67 (by decide) ?_
    obtain ⟨a22, h23, hf⟩ := bn_some hf
    refine kEV (tX3_offer l G ad_t ad_t_rows ad_t_columns ad_t_candidates ad_t_left ad_p0 ad_p0_numbers ad_p0_badRows ad_p0_badColumns ad_p0_badBits (upd (upd (upd (upd tI 2 (0 : Int32)) 3 (0 : Int32)) 4 (0 : Int32)) 5 (12 : Int32)) t_rows t_columns t_left p0I p0_numbers p0_badRows p0_badColumns (-1 : Int32) (-1 : Int32) a22 h23) ⟨hx, hb, hml, hown, hts⟩ q548 q550 q8 q102 q551 okyX3_offer ⟨Nat.le_of_ble_eq_true rfl, Nat.le_of_ble_eq_true rfl⟩ hP hD hG hS hA [0, 1, 2, 4, 5, 6, 7, 8] [3] rfl (wr := [(ad_t_candidates, .inl (G.2.1 0, 12, .inl y21.2))]) rfl (by decide) 0 rfl rfl hl.1 rfl (Nat.le_of_ble_eq_true rfl) dX3_find_68 ⟨Nat.zero_le _, Nat.zero_le _⟩ (fun r w H locs hR hP hD hS => ?_)
    obtain ⟨rfl, rfl⟩ := hR
    have hP : va_P G.1 vwCl [(ad_t_candidates, .inl (G.2.1 0, 12, .inl y21.2)), (ad_t, .inr (3, [.ref ad_t_rows, .ref ad_t_columns, .int (a22.1 2), .int (a22.1 3), .int (a22.1 4), .int (a22.1 5), .ref ad_t_candidates, .ref ad_t_left, .int (a22.1 8)])), (ad_t_rows, .inl (G.2.1 0, 4, .inl a22.2.1)), (ad_t_columns, .inl (G.2.1 0, 2, .inl a22.2.2.1)), (ad_t_left, .inl (G.2.1 0, 12, .inl a22.2.2.2)), (ad_p0, .inr (5, [.ref ad_p0_numbers, .ref ad_p0_badRows, .ref ad_p0_badColumns, .ref ad_p0_badBits, .int (p0I 4)])), (ad_p0_numbers, .inl (G.2.1 0, 9, .inl p0_numbers)), (ad_p0_badRows, .inl (G.2.1 0, 12, .inl p0_badRows)), (ad_p0_badColumns, .inl (G.2.1 0, 12, .inl p0_badColumns))] H := hP
    have hD : va_D A [(ad_t_candidates, .inl (G.2.1 0, 12, .inl y21.2)), (ad_t, .inr (3, [.ref ad_t_rows, .ref ad_t_columns, .int (a22.1 2), .int (a22.1 3), .int (a22.1 4), .int (a22.1 5), .ref ad_t_candidates, .ref ad_t_left, .int (a22.1 8)])), (ad_t_rows, .inl (G.2.1 0, 4, .inl a22.2.1)), (ad_t_columns, .inl (G.2.1 0, 2, .inl a22.2.2.1)), (ad_t_left, .inl (G.2.1 0, 12, .inl a22.2.2.2)), (ad_p0, .inr (5, [.ref ad_p0_numbers, .ref ad_p0_badRows, .ref ad_p0_badColumns, .ref ad_p0_badBits, .int (p0I 4)])), (ad_p0_numbers, .inl (G.2.1 0, 9, .inl p0_numbers)), (ad_p0_badRows, .inl (G.2.1 0, 12, .inl p0_badRows)), (ad_p0_badColumns, .inl (G.2.1 0, 12, .inl p0_badColumns))] := hD
    refine W.eq (g2 := F0 m 71 ls []) rfl ?_
    refine lv_iconst (v := 0) hx hb dX3_find_71 (by decide) ?_
    refine lv_istore (lv' := [(4, .int (0 : Int32)), (3, .int y21.1), (2, .int (p0_numbers 4)), (0, .ref ad_t), (1, .ref ad_p0)]) hx hb dX3_find_72 hl (by decide) rfl (fun ls hl => ?_)
    obtain ⟨y24, hLy24, hky24⟩ := bn_some hf
    have Ey24 : ∀  (H : Heap) (locs : List Loc) (ls : Array Slot), lv_has ls 6 [] → va_P G.1 vwCl [(ad_t_candidates, .inl (G.2.1 0, 12, .inl y21.2)), (ad_t, .inr (3, [.ref ad_t_rows, .ref ad_t_columns, .int (y24.1 2), .int (y24.1 3), .int (y24.1 4), .int (y24.1 5), .ref ad_t_candidates, .ref ad_t_left, .int (y24.1 8)])), (ad_t_rows, .inl (G.2.1 0, 4, .inl y24.2.1)), (ad_t_columns, .inl (G.2.1 0, 2, .inl y24.2.2.1)), (ad_t_left, .inl (G.2.1 0, 12, .inl y24.2.2.2)), (ad_p0, .inr (5, [.ref ad_p0_numbers, .ref ad_p0_badRows, .ref ad_p0_badColumns, .ref ad_p0_badBits, .int (p0I 4)])), (ad_p0_numbers, .inl (G.2.1 0, 9, .inl p0_numbers)), (ad_p0_badRows, .inl (G.2.1 0, 12, .inl p0_badRows)), (ad_p0_badColumns, .inl (G.2.1 0, 12, .inl p0_badColumns))] H → va_D A [(ad_t_candidates, .inl (G.2.1 0, 12, .inl y21.2)), (ad_t, .inr (3, [.ref ad_t_rows, .ref ad_t_columns, .int (y24.1 2), .int (y24.1 3), .int (y24.1 4), .int (y24.1 5), .ref ad_t_candidates, .ref ad_t_left, .int (y24.1 8)])), (ad_t_rows, .inl (G.2.1 0, 4, .inl y24.2.1)), (ad_t_columns, .inl (G.2.1 0, 2, .inl y24.2.2.1)), (ad_t_left, .inl (G.2.1 0, 12, .inl y24.2.2.2)), (ad_p0, .inr (5, [.ref ad_p0_numbers, .ref ad_p0_badRows, .ref ad_p0_badColumns, .ref ad_p0_badBits, .int (p0I 4)])), (ad_p0_numbers, .inl (G.2.1 0, 9, .inl p0_numbers)), (ad_p0_badRows, .inl (G.2.1 0, 12, .inl p0_badRows)), (ad_p0_badColumns, .inl (G.2.1 0, 12, .inl p0_badColumns))] → va_S A s.heap H locs → wG p l e 2 51 s m [.ref ad_t, .ref ad_p0] below meth cd H locs (eQ G A (fun r w => r = none ∧ w = [(ad_t, .inr (3, [.ref ad_t_rows, .ref ad_t_columns, .int (o.1 2), .int (o.1 3), .int (o.1 4), .int (o.1 5), .ref ad_t_candidates, .ref ad_t_left, .int (o.1 8)])), (ad_t_rows, .inl (G.2.1 0, 4, .inl o.2.1)), (ad_t_columns, .inl (G.2.1 0, 2, .inl o.2.2.1)), (ad_t_candidates, .inl (G.2.1 0, 12, .inl o.2.2.2.1)), (ad_t_left, .inl (G.2.1 0, 12, .inl o.2.2.2.2)), (ad_p0, .inr (5, [.ref ad_p0_numbers, .ref ad_p0_badRows, .ref ad_p0_badColumns, .ref ad_p0_badBits, .int (p0I 4)])), (ad_p0_numbers, .inl (G.2.1 0, 9, .inl p0_numbers)), (ad_p0_badRows, .inl (G.2.1 0, 12, .inl p0_badRows)), (ad_p0_badColumns, .inl (G.2.1 0, 12, .inl p0_badColumns))])) A (F0 m 145 ls []) := by
      intro  H locs ls hl hP hD hS
      have hf := hky24
      have hf := Option.some.inj hf
      subst hf
      have hP := hP.sub (ws' := [(ad_t, .inr (3, [.ref ad_t_rows, .ref ad_t_columns, .int (y24.1 2), .int (y24.1 3), .int (y24.1 4), .int (y24.1 5), .ref ad_t_candidates, .ref ad_t_left, .int (y24.1 8)])), (ad_t_rows, .inl (G.2.1 0, 4, .inl y24.2.1)), (ad_t_columns, .inl (G.2.1 0, 2, .inl y24.2.2.1)), (ad_t_candidates, .inl (G.2.1 0, 12, .inl y21.2)), (ad_t_left, .inl (G.2.1 0, 12, .inl y24.2.2.2)), (ad_p0, .inr (5, [.ref ad_p0_numbers, .ref ad_p0_badRows, .ref ad_p0_badColumns, .ref ad_p0_badBits, .int (p0I 4)])), (ad_p0_numbers, .inl (G.2.1 0, 9, .inl p0_numbers)), (ad_p0_badRows, .inl (G.2.1 0, 12, .inl p0_badRows)), (ad_p0_badColumns, .inl (G.2.1 0, 12, .inl p0_badColumns))]) [1, 2, 3, 0, 4, 5, 6, 7, 8] rfl
      have hD := hD.sub (ws' := [(ad_t, .inr (3, [.ref ad_t_rows, .ref ad_t_columns, .int (y24.1 2), .int (y24.1 3), .int (y24.1 4), .int (y24.1 5), .ref ad_t_candidates, .ref ad_t_left, .int (y24.1 8)])), (ad_t_rows, .inl (G.2.1 0, 4, .inl y24.2.1)), (ad_t_columns, .inl (G.2.1 0, 2, .inl y24.2.2.1)), (ad_t_candidates, .inl (G.2.1 0, 12, .inl y21.2)), (ad_t_left, .inl (G.2.1 0, 12, .inl y24.2.2.2)), (ad_p0, .inr (5, [.ref ad_p0_numbers, .ref ad_p0_badRows, .ref ad_p0_badColumns, .ref ad_p0_badBits, .int (p0I 4)])), (ad_p0_numbers, .inl (G.2.1 0, 9, .inl p0_numbers)), (ad_p0_badRows, .inl (G.2.1 0, 12, .inl p0_badRows)), (ad_p0_badColumns, .inl (G.2.1 0, 12, .inl p0_badColumns))]) [1, 2, 3, 0, 4, 5, 6, 7, 8] (by decide) rfl
      exact eRetV hx hb hr hlocks hP hD hS ⟨rfl, rfl⟩ dX3_find_145
    have Ly24 : ∀ (n : Nat), ∀ (x25 : Int32) (g26 : Nat → Int32) (g27 : Nat → Int32) (g28 : Nat → Int32) (g29 : Nat → Int32) (H : Heap) (locs : List Loc) (ls : Array Slot), lv_has ls 6 [(4, .int x25), (3, .int y21.1), (2, .int (p0_numbers 4)), (0, .ref ad_t), (1, .ref ad_p0)] → va_P G.1 vwCl [(ad_t_candidates, .inl (G.2.1 0, 12, .inl y21.2)), (ad_t, .inr (3, [.ref ad_t_rows, .ref ad_t_columns, .int (g26 2), .int (g26 3), .int (g26 4), .int (g26 5), .ref ad_t_candidates, .ref ad_t_left, .int (g26 8)])), (ad_t_rows, .inl (G.2.1 0, 4, .inl g27)), (ad_t_columns, .inl (G.2.1 0, 2, .inl g28)), (ad_t_left, .inl (G.2.1 0, 12, .inl g29)), (ad_p0, .inr (5, [.ref ad_p0_numbers, .ref ad_p0_badRows, .ref ad_p0_badColumns, .ref ad_p0_badBits, .int (p0I 4)])), (ad_p0_numbers, .inl (G.2.1 0, 9, .inl p0_numbers)), (ad_p0_badRows, .inl (G.2.1 0, 12, .inl p0_badRows)), (ad_p0_badColumns, .inl (G.2.1 0, 12, .inl p0_badColumns))] H → va_D A [(ad_t_candidates, .inl (G.2.1 0, 12, .inl y21.2)), (ad_t, .inr (3, [.ref ad_t_rows, .ref ad_t_columns, .int (g26 2), .int (g26 3), .int (g26 4), .int (g26 5), .ref ad_t_candidates, .ref ad_t_left, .int (g26 8)])), (ad_t_rows, .inl (G.2.1 0, 4, .inl g27)), (ad_t_columns, .inl (G.2.1 0, 2, .inl g28)), (ad_t_left, .inl (G.2.1 0, 12, .inl g29)), (ad_p0, .inr (5, [.ref ad_p0_numbers, .ref ad_p0_badRows, .ref ad_p0_badColumns, .ref ad_p0_badBits, .int (p0I 4)])), (ad_p0_numbers, .inl (G.2.1 0, 9, .inl p0_numbers)), (ad_p0_badRows, .inl (G.2.1 0, 12, .inl p0_badRows)), (ad_p0_badColumns, .inl (G.2.1 0, 12, .inl p0_badColumns))] → va_S A s.heap H locs → fX3_find_l74 (p0_numbers 4) y21.1 y21.2 p0I p0_numbers p0_badRows p0_badColumns n x25 g26 g27 g28 g29 = some y24 → wG p l e 2 51 s m [.ref ad_t, .ref ad_p0] below meth cd H locs (eQ G A (fun r w => r = none ∧ w = [(ad_t, .inr (3, [.ref ad_t_rows, .ref ad_t_columns, .int (o.1 2), .int (o.1 3), .int (o.1 4), .int (o.1 5), .ref ad_t_candidates, .ref ad_t_left, .int (o.1 8)])), (ad_t_rows, .inl (G.2.1 0, 4, .inl o.2.1)), (ad_t_columns, .inl (G.2.1 0, 2, .inl o.2.2.1)), (ad_t_candidates, .inl (G.2.1 0, 12, .inl o.2.2.2.1)), (ad_t_left, .inl (G.2.1 0, 12, .inl o.2.2.2.2)), (ad_p0, .inr (5, [.ref ad_p0_numbers, .ref ad_p0_badRows, .ref ad_p0_badColumns, .ref ad_p0_badBits, .int (p0I 4)])), (ad_p0_numbers, .inl (G.2.1 0, 9, .inl p0_numbers)), (ad_p0_badRows, .inl (G.2.1 0, 12, .inl p0_badRows)), (ad_p0_badColumns, .inl (G.2.1 0, 12, .inl p0_badColumns))])) A (F0 m 74 ls []) := by
      intro n
      induction n with
      | zero =>
        intro x25 g26 g27 g28 g29 H locs ls hl hP hD hS hf
        rw [fX3_find_l74] at hf
        cases hf
      | succ n ih =>
        intro x25 g26 g27 g28 g29 H locs ls hl hP hD hS hf
        rw [fX3_find_l74] at hf
        refine lv_iload hx hb dX3_find_74 (lv_at hl 0 rfl) ?_
        refine lv_iload_n hx hb dX3_find_76 rfl (lv_at hl 1 rfl) ?_
        refine lv_icmp_ge (tgt := 145) hx hb dX3_find_77 (by decide) (fun c30 => ?_) (fun c30 => ?_)
        · have hf := if_t hf c30
          have hf := Option.some.inj hf
          subst hf
          exact Ey24  H locs ls (lv_sub hl [] rfl) hP hD hS 
        · have hf := if_f hf c30
          refine lv_iload_n hx hb dX3_find_80 rfl (lv_at hl 2 rfl) ?_
          refine lv_if_le (tgt := 145) hx hb dX3_find_81 (by decide) (fun c31 => ?_) (fun c31 => ?_)
          · have hf := if_t hf c31
            have hf := Option.some.inj hf
            subst hf
            exact Ey24  H locs ls (lv_sub hl [] rfl) hP hD hS 
          · have hf := if_f hf c31
            refine lv_aload_n hx hb dX3_find_84 rfl (lv_at hl 3 rfl) ?_
            refine lv_aload_n hx hb dX3_find_85 rfl (lv_at hl 4 rfl) ?_
            refine lv_aload_n hx hb dX3_find_86 rfl (lv_at hl 3 rfl) ?_
            refine va_get (D := G.1) (cl := vwCl) (ci := 3) (v := .ref ad_t_candidates) (C := RX3) (T := TX3) (N := 9) hx hb hts inG3 hown hK hP 1 rfl rfl 6 (Nat.le_of_ble_eq_true rfl) (hts _ q297) (fun _ h9 => h9) rfl dX3_find_87 ?_
            refine lv_iload hx hb dX3_find_90 (lv_at hl 0 rfl) ?_
            obtain ⟨h32, hf⟩ := gd_some hf
            refine va_iald (D := G.1) (cl := vwCl) hx hb hK hP 0 0 rfl rfl (gi_in h32) dX3_find_92 ?_
            refine lv_iconst (v := -1) hx hb dX3_find_93 (by decide) ?_
            obtain ⟨a33, h34, hf⟩ := bn_some hf
            refine kEV (tX3_offer l G ad_t ad_t_rows ad_t_columns ad_t_candidates ad_t_left ad_p0 ad_p0_numbers ad_p0_badRows ad_p0_badColumns ad_p0_badBits g26 g27 g28 g29 p0I p0_numbers p0_badRows p0_badColumns (y21.2 x25.toNatClampNeg) (-1 : Int32) a33 h34) ⟨hx, hb, hml, hown, hts⟩ q548 q550 q8 q102 q551 okyX3_offer ⟨Nat.le_of_ble_eq_true rfl, Nat.le_of_ble_eq_true rfl⟩ hP hD hG hS hA [1, 2, 3, 4, 5, 6, 7, 8] [0] rfl (wr := [(ad_t_candidates, .inl (G.2.1 0, 12, .inl y21.2))]) rfl (by decide) 1 rfl rfl hl.1 rfl (Nat.le_of_ble_eq_true rfl) dX3_find_94 ⟨Nat.zero_le _, Nat.zero_le _⟩ (fun r w H locs hR hP hD hS => ?_)
            obtain ⟨rfl, rfl⟩ := hR
            have hP : va_P G.1 vwCl [(ad_t_candidates, .inl (G.2.1 0, 12, .inl y21.2)), (ad_t, .inr (3, [.ref ad_t_rows, .ref ad_t_columns, .int (a33.1 2), .int (a33.1 3), .int (a33.1 4), .int (a33.1 5), .ref ad_t_candidates, .ref ad_t_left, .int (a33.1 8)])), (ad_t_rows, .inl (G.2.1 0, 4, .inl a33.2.1)), (ad_t_columns, .inl (G.2.1 0, 2, .inl a33.2.2.1)), (ad_t_left, .inl (G.2.1 0, 12, .inl a33.2.2.2)), (ad_p0, .inr (5, [.ref ad_p0_numbers, .ref ad_p0_badRows, .ref ad_p0_badColumns, .ref ad_p0_badBits, .int (p0I 4)])), (ad_p0_numbers, .inl (G.2.1 0, 9, .inl p0_numbers)), (ad_p0_badRows, .inl (G.2.1 0, 12, .inl p0_badRows)), (ad_p0_badColumns, .inl (G.2.1 0, 12, .inl p0_badColumns))] H := hP
            have hD : va_D A [(ad_t_candidates, .inl (G.2.1 0, 12, .inl y21.2)), (ad_t, .inr (3, [.ref ad_t_rows, .ref ad_t_columns, .int (a33.1 2), .int (a33.1 3), .int (a33.1 4), .int (a33.1 5), .ref ad_t_candidates, .ref ad_t_left, .int (a33.1 8)])), (ad_t_rows, .inl (G.2.1 0, 4, .inl a33.2.1)), (ad_t_columns, .inl (G.2.1 0, 2, .inl a33.2.2.1)), (ad_t_left, .inl (G.2.1 0, 12, .inl a33.2.2.2)), (ad_p0, .inr (5, [.ref ad_p0_numbers, .ref ad_p0_badRows, .ref ad_p0_badColumns, .ref ad_p0_badBits, .int (p0I 4)])), (ad_p0_numbers, .inl (G.2.1 0, 9, .inl p0_numbers)), (ad_p0_badRows, .inl (G.2.1 0, 12, .inl p0_badRows)), (ad_p0_badColumns, .inl (G.2.1 0, 12, .inl p0_badColumns))] := hD
            refine W.eq (g2 := F0 m 97 ls []) rfl ?_
            refine lv_iload hx hb dX3_find_97 (lv_at hl 0 rfl) ?_
            refine lv_iconst (v := 1) hx hb dX3_find_99 (by decide) ?_
            refine lv_iadd hx hb dX3_find_100 ?_
            refine lv_istore (lv' := [(5, .int (x25 + (1 : Int32))), (4, .int x25), (3, .int y21.1), (2, .int (p0_numbers 4)), (0, .ref ad_t), (1, .ref ad_p0)]) hx hb dX3_find_101 hl (by decide) rfl (fun ls hl => ?_)
            obtain ⟨y35, hLy35, hky35⟩ := bn_some hf
            have Ey35 : ∀  (H : Heap) (locs : List Loc) (ls : Array Slot), lv_has ls 6 [(4, .int x25), (3, .int y21.1), (2, .int (p0_numbers 4)), (0, .ref ad_t), (1, .ref ad_p0)] → va_P G.1 vwCl [(ad_t_candidates, .inl (G.2.1 0, 12, .inl y21.2)), (ad_t, .inr (3, [.ref ad_t_rows, .ref ad_t_columns, .int (y35.1 2), .int (y35.1 3), .int (y35.1 4), .int (y35.1 5), .ref ad_t_candidates, .ref ad_t_left, .int (y35.1 8)])), (ad_t_rows, .inl (G.2.1 0, 4, .inl y35.2.1)), (ad_t_columns, .inl (G.2.1 0, 2, .inl y35.2.2.1)), (ad_t_left, .inl (G.2.1 0, 12, .inl y35.2.2.2)), (ad_p0, .inr (5, [.ref ad_p0_numbers, .ref ad_p0_badRows, .ref ad_p0_badColumns, .ref ad_p0_badBits, .int (p0I 4)])), (ad_p0_numbers, .inl (G.2.1 0, 9, .inl p0_numbers)), (ad_p0_badRows, .inl (G.2.1 0, 12, .inl p0_badRows)), (ad_p0_badColumns, .inl (G.2.1 0, 12, .inl p0_badColumns))] H → va_D A [(ad_t_candidates, .inl (G.2.1 0, 12, .inl y21.2)), (ad_t, .inr (3, [.ref ad_t_rows, .ref ad_t_columns, .int (y35.1 2), .int (y35.1 3), .int (y35.1 4), .int (y35.1 5), .ref ad_t_candidates, .ref ad_t_left, .int (y35.1 8)])), (ad_t_rows, .inl (G.2.1 0, 4, .inl y35.2.1)), (ad_t_columns, .inl (G.2.1 0, 2, .inl y35.2.2.1)), (ad_t_left, .inl (G.2.1 0, 12, .inl y35.2.2.2)), (ad_p0, .inr (5, [.ref ad_p0_numbers, .ref ad_p0_badRows, .ref ad_p0_badColumns, .ref ad_p0_badBits, .int (p0I 4)])), (ad_p0_numbers, .inl (G.2.1 0, 9, .inl p0_numbers)), (ad_p0_badRows, .inl (G.2.1 0, 12, .inl p0_badRows)), (ad_p0_badColumns, .inl (G.2.1 0, 12, .inl p0_badColumns))] → va_S A s.heap H locs → wG p l e 2 51 s m [.ref ad_t, .ref ad_p0] below meth cd H locs (eQ G A (fun r w => r = none ∧ w = [(ad_t, .inr (3, [.ref ad_t_rows, .ref ad_t_columns, .int (o.1 2), .int (o.1 3), .int (o.1 4), .int (o.1 5), .ref ad_t_candidates, .ref ad_t_left, .int (o.1 8)])), (ad_t_rows, .inl (G.2.1 0, 4, .inl o.2.1)), (ad_t_columns, .inl (G.2.1 0, 2, .inl o.2.2.1)), (ad_t_candidates, .inl (G.2.1 0, 12, .inl o.2.2.2.1)), (ad_t_left, .inl (G.2.1 0, 12, .inl o.2.2.2.2)), (ad_p0, .inr (5, [.ref ad_p0_numbers, .ref ad_p0_badRows, .ref ad_p0_badColumns, .ref ad_p0_badBits, .int (p0I 4)])), (ad_p0_numbers, .inl (G.2.1 0, 9, .inl p0_numbers)), (ad_p0_badRows, .inl (G.2.1 0, 12, .inl p0_badRows)), (ad_p0_badColumns, .inl (G.2.1 0, 12, .inl p0_badColumns))])) A (F0 m 139 ls []) := by
              intro  H locs ls hl hP hD hS
              have hf := hky35
              refine lv_iinc (v := (x25 + (1 : Int32))) (lv' := [(4, .int (x25 + (1 : Int32))), (3, .int y21.1), (2, .int (p0_numbers 4)), (0, .ref ad_t), (1, .ref ad_p0)]) hx hb dX3_find_139 hl (k := 0) rfl (ii_1 _) (by decide) rfl (fun ls hl => ?_)
              refine lv_goto (tgt := 74) hx hb dX3_find_142 (by decide) ?_
              exact ih (x25 + (1 : Int32)) y35.1 y35.2.1 y35.2.2.1 y35.2.2.2 H locs ls (lv_sub hl [0, 1, 2, 3, 4] rfl) hP hD hS hf
            have Ly35 : ∀ (n : Nat), ∀ (x36 : Int32) (g37 : Nat → Int32) (g38 : Nat → Int32) (g39 : Nat → Int32) (g40 : Nat → Int32) (H : Heap) (locs : List Loc) (ls : Array Slot), lv_has ls 6 [(5, .int x36), (4, .int x25), (3, .int y21.1), (2, .int (p0_numbers 4)), (0, .ref ad_t), (1, .ref ad_p0)] → va_P G.1 vwCl [(ad_t_candidates, .inl (G.2.1 0, 12, .inl y21.2)), (ad_t, .inr (3, [.ref ad_t_rows, .ref ad_t_columns, .int (g37 2), .int (g37 3), .int (g37 4), .int (g37 5), .ref ad_t_candidates, .ref ad_t_left, .int (g37 8)])), (ad_t_rows, .inl (G.2.1 0, 4, .inl g38)), (ad_t_columns, .inl (G.2.1 0, 2, .inl g39)), (ad_t_left, .inl (G.2.1 0, 12, .inl g40)), (ad_p0, .inr (5, [.ref ad_p0_numbers, .ref ad_p0_badRows, .ref ad_p0_badColumns, .ref ad_p0_badBits, .int (p0I 4)])), (ad_p0_numbers, .inl (G.2.1 0, 9, .inl p0_numbers)), (ad_p0_badRows, .inl (G.2.1 0, 12, .inl p0_badRows)), (ad_p0_badColumns, .inl (G.2.1 0, 12, .inl p0_badColumns))] H → va_D A [(ad_t_candidates, .inl (G.2.1 0, 12, .inl y21.2)), (ad_t, .inr (3, [.ref ad_t_rows, .ref ad_t_columns, .int (g37 2), .int (g37 3), .int (g37 4), .int (g37 5), .ref ad_t_candidates, .ref ad_t_left, .int (g37 8)])), (ad_t_rows, .inl (G.2.1 0, 4, .inl g38)), (ad_t_columns, .inl (G.2.1 0, 2, .inl g39)), (ad_t_left, .inl (G.2.1 0, 12, .inl g40)), (ad_p0, .inr (5, [.ref ad_p0_numbers, .ref ad_p0_badRows, .ref ad_p0_badColumns, .ref ad_p0_badBits, .int (p0I 4)])), (ad_p0_numbers, .inl (G.2.1 0, 9, .inl p0_numbers)), (ad_p0_badRows, .inl (G.2.1 0, 12, .inl p0_badRows)), (ad_p0_badColumns, .inl (G.2.1 0, 12, .inl p0_badColumns))] → va_S A s.heap H locs → fX3_find_l103 (p0_numbers 4) y21.1 x25 y21.2 p0I p0_numbers p0_badRows p0_badColumns n x36 g37 g38 g39 g40 = some y35 → wG p l e 2 51 s m [.ref ad_t, .ref ad_p0] below meth cd H locs (eQ G A (fun r w => r = none ∧ w = [(ad_t, .inr (3, [.ref ad_t_rows, .ref ad_t_columns, .int (o.1 2), .int (o.1 3), .int (o.1 4), .int (o.1 5), .ref ad_t_candidates, .ref ad_t_left, .int (o.1 8)])), (ad_t_rows, .inl (G.2.1 0, 4, .inl o.2.1)), (ad_t_columns, .inl (G.2.1 0, 2, .inl o.2.2.1)), (ad_t_candidates, .inl (G.2.1 0, 12, .inl o.2.2.2.1)), (ad_t_left, .inl (G.2.1 0, 12, .inl o.2.2.2.2)), (ad_p0, .inr (5, [.ref ad_p0_numbers, .ref ad_p0_badRows, .ref ad_p0_badColumns, .ref ad_p0_badBits, .int (p0I 4)])), (ad_p0_numbers, .inl (G.2.1 0, 9, .inl p0_numbers)), (ad_p0_badRows, .inl (G.2.1 0, 12, .inl p0_badRows)), (ad_p0_badColumns, .inl (G.2.1 0, 12, .inl p0_badColumns))])) A (F0 m 103 ls []) := by
              intro n
              induction n with
              | zero =>
                intro x36 g37 g38 g39 g40 H locs ls hl hP hD hS hf
                rw [fX3_find_l103] at hf
                cases hf
              | succ n ih =>
                intro x36 g37 g38 g39 g40 H locs ls hl hP hD hS hf
                rw [fX3_find_l103] at hf
                refine lv_iload hx hb dX3_find_103 (lv_at hl 0 rfl) ?_
                refine lv_iload_n hx hb dX3_find_105 rfl (lv_at hl 2 rfl) ?_
                refine lv_icmp_ge (tgt := 139) hx hb dX3_find_106 (by decide) (fun c41 => ?_) (fun c41 => ?_)
                · have hf := if_t hf c41
                  have hf := Option.some.inj hf
                  subst hf
                  exact Ey35  H locs ls (lv_sub hl [1, 2, 3, 4, 5] rfl) hP hD hS 
                · have hf := if_f hf c41
                  refine lv_iload_n hx hb dX3_find_109 rfl (lv_at hl 3 rfl) ?_
                  refine lv_iconst (v := 1) hx hb dX3_find_110 (by decide) ?_
                  refine lv_icmp_le (tgt := 139) hx hb dX3_find_111 (by decide) (fun c42 => ?_) (fun c42 => ?_)
                  · have hf := if_t hf c42
                    have hf := Option.some.inj hf
                    subst hf
                    exact Ey35  H locs ls (lv_sub hl [1, 2, 3, 4, 5] rfl) hP hD hS 
                  · have hf := if_f hf c42
                    refine lv_aload_n hx hb dX3_find_114 rfl (lv_at hl 4 rfl) ?_
                    refine lv_aload_n hx hb dX3_find_115 rfl (lv_at hl 5 rfl) ?_
                    refine lv_aload_n hx hb dX3_find_116 rfl (lv_at hl 4 rfl) ?_
                    refine va_get (D := G.1) (cl := vwCl) (ci := 3) (v := .ref ad_t_candidates) (C := RX3) (T := TX3) (N := 9) hx hb hts inG3 hown hK hP 1 rfl rfl 6 (Nat.le_of_ble_eq_true rfl) (hts _ q297) (fun _ h9 => h9) rfl dX3_find_117 ?_
                    refine lv_iload hx hb dX3_find_120 (lv_at hl 1 rfl) ?_
                    obtain ⟨h43, hf⟩ := gd_some hf
                    refine va_iald (D := G.1) (cl := vwCl) hx hb hK hP 0 0 rfl rfl (gi_in h43) dX3_find_122 ?_
                    refine lv_aload_n hx hb dX3_find_123 rfl (lv_at hl 4 rfl) ?_
                    refine va_get (D := G.1) (cl := vwCl) (ci := 3) (v := .ref ad_t_candidates) (C := RX3) (T := TX3) (N := 9) hx hb hts inG3 hown hK hP 1 rfl rfl 6 (Nat.le_of_ble_eq_true rfl) (hts _ q297) (fun _ h9 => h9) rfl dX3_find_124 ?_
                    refine lv_iload hx hb dX3_find_127 (lv_at hl 0 rfl) ?_
                    obtain ⟨h44, hf⟩ := gd_some hf
                    refine va_iald (D := G.1) (cl := vwCl) hx hb hK hP 0 0 rfl rfl (gi_in h44) dX3_find_129 ?_
                    obtain ⟨a45, h46, hf⟩ := bn_some hf
                    refine kEV (tX3_offer l G ad_t ad_t_rows ad_t_columns ad_t_candidates ad_t_left ad_p0 ad_p0_numbers ad_p0_badRows ad_p0_badColumns ad_p0_badBits g37 g38 g39 g40 p0I p0_numbers p0_badRows p0_badColumns (y21.2 x25.toNatClampNeg) (y21.2 x36.toNatClampNeg) a45 h46) ⟨hx, hb, hml, hown, hts⟩ q548 q550 q8 q102 q551 okyX3_offer ⟨Nat.le_of_ble_eq_true rfl, Nat.le_of_ble_eq_true rfl⟩ hP hD hG hS hA [1, 2, 3, 4, 5, 6, 7, 8] [0] rfl (wr := [(ad_t_candidates, .inl (G.2.1 0, 12, .inl y21.2))]) rfl (by decide) 1 rfl rfl hl.1 rfl (Nat.le_of_ble_eq_true rfl) dX3_find_130 ⟨Nat.zero_le _, Nat.zero_le _⟩ (fun r w H locs hR hP hD hS => ?_)
                    obtain ⟨rfl, rfl⟩ := hR
                    have hP : va_P G.1 vwCl [(ad_t_candidates, .inl (G.2.1 0, 12, .inl y21.2)), (ad_t, .inr (3, [.ref ad_t_rows, .ref ad_t_columns, .int (a45.1 2), .int (a45.1 3), .int (a45.1 4), .int (a45.1 5), .ref ad_t_candidates, .ref ad_t_left, .int (a45.1 8)])), (ad_t_rows, .inl (G.2.1 0, 4, .inl a45.2.1)), (ad_t_columns, .inl (G.2.1 0, 2, .inl a45.2.2.1)), (ad_t_left, .inl (G.2.1 0, 12, .inl a45.2.2.2)), (ad_p0, .inr (5, [.ref ad_p0_numbers, .ref ad_p0_badRows, .ref ad_p0_badColumns, .ref ad_p0_badBits, .int (p0I 4)])), (ad_p0_numbers, .inl (G.2.1 0, 9, .inl p0_numbers)), (ad_p0_badRows, .inl (G.2.1 0, 12, .inl p0_badRows)), (ad_p0_badColumns, .inl (G.2.1 0, 12, .inl p0_badColumns))] H := hP
                    have hD : va_D A [(ad_t_candidates, .inl (G.2.1 0, 12, .inl y21.2)), (ad_t, .inr (3, [.ref ad_t_rows, .ref ad_t_columns, .int (a45.1 2), .int (a45.1 3), .int (a45.1 4), .int (a45.1 5), .ref ad_t_candidates, .ref ad_t_left, .int (a45.1 8)])), (ad_t_rows, .inl (G.2.1 0, 4, .inl a45.2.1)), (ad_t_columns, .inl (G.2.1 0, 2, .inl a45.2.2.1)), (ad_t_left, .inl (G.2.1 0, 12, .inl a45.2.2.2)), (ad_p0, .inr (5, [.ref ad_p0_numbers, .ref ad_p0_badRows, .ref ad_p0_badColumns, .ref ad_p0_badBits, .int (p0I 4)])), (ad_p0_numbers, .inl (G.2.1 0, 9, .inl p0_numbers)), (ad_p0_badRows, .inl (G.2.1 0, 12, .inl p0_badRows)), (ad_p0_badColumns, .inl (G.2.1 0, 12, .inl p0_badColumns))] := hD
                    refine W.eq (g2 := F0 m 133 ls []) rfl ?_
                    refine lv_iinc (v := (x36 + (1 : Int32))) (lv' := [(5, .int (x36 + (1 : Int32))), (4, .int x25), (3, .int y21.1), (2, .int (p0_numbers 4)), (0, .ref ad_t), (1, .ref ad_p0)]) hx hb dX3_find_133 hl (k := 0) rfl (ii_1 _) (by decide) rfl (fun ls hl => ?_)
                    refine lv_goto (tgt := 103) hx hb dX3_find_136 (by decide) ?_
                    exact ih (x36 + (1 : Int32)) a45.1 a45.2.1 a45.2.2.1 a45.2.2.2 H locs ls (lv_sub hl [0, 1, 2, 3, 4, 5] rfl) hP hD hS hf
            exact Ly35 FU (x25 + (1 : Int32)) a33.1 a33.2.1 a33.2.2.1 a33.2.2.2 H locs ls (lv_sub hl [0, 1, 2, 3, 4, 5] rfl) hP hD hS hLy35
    exact Ly24 FU (0 : Int32) a22.1 a22.2.1 a22.2.2.1 a22.2.2.2 H locs ls (lv_sub hl [0, 1, 2, 3, 4] rfl) hP hD hS hLy24
  have Ly21 : ∀ (n : Nat), ∀ (x47 : Int32) (x48 : Int32) (g49 : Nat → Int32) (H : Heap) (locs : List Loc) (ls : Array Slot), lv_has ls 6 [(4, .int x48), (3, .int x47), (2, .int (p0_numbers 4)), (0, .ref ad_t), (1, .ref ad_p0)] → va_P G.1 vwCl [(ad_t, .inr (3, [.ref ad_t_rows, .ref ad_t_columns, .int (0 : Int32), .int (0 : Int32), .int (0 : Int32), .int (12 : Int32), .ref ad_t_candidates, .ref ad_t_left, .int (tI 8)])), (ad_t_rows, .inl (G.2.1 0, 4, .inl t_rows)), (ad_t_columns, .inl (G.2.1 0, 2, .inl t_columns)), (ad_t_candidates, .inl (G.2.1 0, 12, .inl g49)), (ad_t_left, .inl (G.2.1 0, 12, .inl t_left)), (ad_p0, .inr (5, [.ref ad_p0_numbers, .ref ad_p0_badRows, .ref ad_p0_badColumns, .ref ad_p0_badBits, .int (p0I 4)])), (ad_p0_numbers, .inl (G.2.1 0, 9, .inl p0_numbers)), (ad_p0_badRows, .inl (G.2.1 0, 12, .inl p0_badRows)), (ad_p0_badColumns, .inl (G.2.1 0, 12, .inl p0_badColumns))] H → va_D A [(ad_t, .inr (3, [.ref ad_t_rows, .ref ad_t_columns, .int (0 : Int32), .int (0 : Int32), .int (0 : Int32), .int (12 : Int32), .ref ad_t_candidates, .ref ad_t_left, .int (tI 8)])), (ad_t_rows, .inl (G.2.1 0, 4, .inl t_rows)), (ad_t_columns, .inl (G.2.1 0, 2, .inl t_columns)), (ad_t_candidates, .inl (G.2.1 0, 12, .inl g49)), (ad_t_left, .inl (G.2.1 0, 12, .inl t_left)), (ad_p0, .inr (5, [.ref ad_p0_numbers, .ref ad_p0_badRows, .ref ad_p0_badColumns, .ref ad_p0_badBits, .int (p0I 4)])), (ad_p0_numbers, .inl (G.2.1 0, 9, .inl p0_numbers)), (ad_p0_badRows, .inl (G.2.1 0, 12, .inl p0_badRows)), (ad_p0_badColumns, .inl (G.2.1 0, 12, .inl p0_badColumns))] → va_S A s.heap H locs → fX3_find_l33 p0I p0_badColumns n x47 x48 g49 = some y21 → wG p l e 2 51 s m [.ref ad_t, .ref ad_p0] below meth cd H locs (eQ G A (fun r w => r = none ∧ w = [(ad_t, .inr (3, [.ref ad_t_rows, .ref ad_t_columns, .int (o.1 2), .int (o.1 3), .int (o.1 4), .int (o.1 5), .ref ad_t_candidates, .ref ad_t_left, .int (o.1 8)])), (ad_t_rows, .inl (G.2.1 0, 4, .inl o.2.1)), (ad_t_columns, .inl (G.2.1 0, 2, .inl o.2.2.1)), (ad_t_candidates, .inl (G.2.1 0, 12, .inl o.2.2.2.1)), (ad_t_left, .inl (G.2.1 0, 12, .inl o.2.2.2.2)), (ad_p0, .inr (5, [.ref ad_p0_numbers, .ref ad_p0_badRows, .ref ad_p0_badColumns, .ref ad_p0_badBits, .int (p0I 4)])), (ad_p0_numbers, .inl (G.2.1 0, 9, .inl p0_numbers)), (ad_p0_badRows, .inl (G.2.1 0, 12, .inl p0_badRows)), (ad_p0_badColumns, .inl (G.2.1 0, 12, .inl p0_badColumns))])) A (F0 m 33 ls []) := by
    intro n
    induction n with
    | zero =>
      intro x47 x48 g49 H locs ls hl hP hD hS hf
      rw [fX3_find_l33] at hf
      cases hf
    | succ n ih =>
      intro x47 x48 g49 H locs ls hl hP hD hS hf
      rw [fX3_find_l33] at hf
      refine lv_iload hx hb dX3_find_33 (lv_at hl 0 rfl) ?_
      refine lv_aload_n hx hb dX3_find_35 rfl (lv_at hl 4 rfl) ?_
      refine va_get (D := G.1) (cl := vwCl) (ci := 5) (v := .int (p0I 4)) (C := RX5) (T := TX5) (N := 5) hx hb hts inG5 hown hK hP 5 rfl rfl 4 (Nat.le_of_ble_eq_true rfl) (hts _ q170) (fun _ h9 => h9) rfl dX3_find_36 ?_
      refine lv_icmp_ge (tgt := 64) hx hb dX3_find_39 (by decide) (fun c50 => ?_) (fun c50 => ?_)
      · have hf := if_t hf c50
        have hf := Option.some.inj hf
        subst hf
        exact Ey21  H locs ls (lv_sub hl [1, 2, 3, 4] rfl) hP hD hS 
      · have hf := if_f hf c50
        refine lv_aload_n hx hb dX3_find_42 rfl (lv_at hl 3 rfl) ?_
        refine va_get (D := G.1) (cl := vwCl) (ci := 3) (v := .ref ad_t_candidates) (C := RX3) (T := TX3) (N := 9) hx hb hts inG3 hown hK hP 0 rfl rfl 6 (Nat.le_of_ble_eq_true rfl) (hts _ q297) (fun _ h9 => h9) rfl dX3_find_43 ?_
        refine lv_iload_n hx hb dX3_find_46 rfl (lv_at hl 1 rfl) ?_
        refine lv_aload_n hx hb dX3_find_47 rfl (lv_at hl 4 rfl) ?_
        refine va_get (D := G.1) (cl := vwCl) (ci := 5) (v := .ref ad_p0_badColumns) (C := RX5) (T := TX5) (N := 5) hx hb hts inG5 hown hK hP 5 rfl rfl 2 (Nat.le_of_ble_eq_true rfl) (hts _ q161) (fun _ h9 => h9) rfl dX3_find_48 ?_
        refine lv_iload hx hb dX3_find_51 (lv_at hl 0 rfl) ?_
        obtain ⟨h51, hf⟩ := gd_some hf
        refine va_iald (D := G.1) (cl := vwCl) hx hb hK hP 8 0 rfl rfl (gi_in h51) dX3_find_53 ?_
        obtain ⟨a52, h53, hf⟩ := bn_some hf
        refine kESN (tX10_putRising l G ad_t_candidates g49 x47 (p0_badColumns x48.toNatClampNeg) a52 h53) ⟨hx, hb, hml, hown, hts⟩ n_mn_X3_49 q546 q94 q547 okyX10_putRising ⟨Nat.le_of_ble_eq_true rfl, Nat.le_of_ble_eq_true rfl⟩ hP hD hG hS hA [3] [0, 1, 2, 4, 5, 6, 7, 8] rfl (wr := [(ad_t, .inr (3, [.ref ad_t_rows, .ref ad_t_columns, .int (0 : Int32), .int (0 : Int32), .int (0 : Int32), .int (12 : Int32), .ref ad_t_candidates, .ref ad_t_left, .int (tI 8)])), (ad_t_rows, .inl (G.2.1 0, 4, .inl t_rows)), (ad_t_columns, .inl (G.2.1 0, 2, .inl t_columns)), (ad_t_left, .inl (G.2.1 0, 12, .inl t_left)), (ad_p0, .inr (5, [.ref ad_p0_numbers, .ref ad_p0_badRows, .ref ad_p0_badColumns, .ref ad_p0_badBits, .int (p0I 4)])), (ad_p0_numbers, .inl (G.2.1 0, 9, .inl p0_numbers)), (ad_p0_badRows, .inl (G.2.1 0, 12, .inl p0_badRows)), (ad_p0_badColumns, .inl (G.2.1 0, 12, .inl p0_badColumns))]) rfl (by decide) hl.1 rfl (Nat.le_of_ble_eq_true rfl) dX3_find_54 ⟨Nat.zero_le _, Nat.zero_le _⟩ (fun r w H locs hR hP hD hS => ?_)
        obtain ⟨rfl, rfl⟩ := hR
        have hP : va_P G.1 vwCl [(ad_t, .inr (3, [.ref ad_t_rows, .ref ad_t_columns, .int (0 : Int32), .int (0 : Int32), .int (0 : Int32), .int (12 : Int32), .ref ad_t_candidates, .ref ad_t_left, .int (tI 8)])), (ad_t_rows, .inl (G.2.1 0, 4, .inl t_rows)), (ad_t_columns, .inl (G.2.1 0, 2, .inl t_columns)), (ad_t_left, .inl (G.2.1 0, 12, .inl t_left)), (ad_p0, .inr (5, [.ref ad_p0_numbers, .ref ad_p0_badRows, .ref ad_p0_badColumns, .ref ad_p0_badBits, .int (p0I 4)])), (ad_p0_numbers, .inl (G.2.1 0, 9, .inl p0_numbers)), (ad_p0_badRows, .inl (G.2.1 0, 12, .inl p0_badRows)), (ad_p0_badColumns, .inl (G.2.1 0, 12, .inl p0_badColumns)), (ad_t_candidates, .inl (G.2.1 0, 12, .inl a52.2))] H := hP
        have hD : va_D A [(ad_t, .inr (3, [.ref ad_t_rows, .ref ad_t_columns, .int (0 : Int32), .int (0 : Int32), .int (0 : Int32), .int (12 : Int32), .ref ad_t_candidates, .ref ad_t_left, .int (tI 8)])), (ad_t_rows, .inl (G.2.1 0, 4, .inl t_rows)), (ad_t_columns, .inl (G.2.1 0, 2, .inl t_columns)), (ad_t_left, .inl (G.2.1 0, 12, .inl t_left)), (ad_p0, .inr (5, [.ref ad_p0_numbers, .ref ad_p0_badRows, .ref ad_p0_badColumns, .ref ad_p0_badBits, .int (p0I 4)])), (ad_p0_numbers, .inl (G.2.1 0, 9, .inl p0_numbers)), (ad_p0_badRows, .inl (G.2.1 0, 12, .inl p0_badRows)), (ad_p0_badColumns, .inl (G.2.1 0, 12, .inl p0_badColumns)), (ad_t_candidates, .inl (G.2.1 0, 12, .inl a52.2))] := hD
        refine W.eq (g2 := F0 m 57 ls [.int a52.1]) rfl ?_
        refine lv_istore_n (lv' := [(3, .int a52.1), (4, .int x48), (2, .int (p0_numbers 4)), (0, .ref ad_t), (1, .ref ad_p0)]) hx hb dX3_find_57 rfl hl (by decide) rfl (fun ls hl => ?_)
        refine lv_iinc (v := (x48 + (1 : Int32))) (lv' := [(4, .int (x48 + (1 : Int32))), (3, .int a52.1), (2, .int (p0_numbers 4)), (0, .ref ad_t), (1, .ref ad_p0)]) hx hb dX3_find_58 hl (k := 1) rfl (ii_1 _) (by decide) rfl (fun ls hl => ?_)
        refine lv_goto (tgt := 33) hx hb dX3_find_61 (by decide) ?_
        have hP := hP.sub (ws' := [(ad_t, .inr (3, [.ref ad_t_rows, .ref ad_t_columns, .int (0 : Int32), .int (0 : Int32), .int (0 : Int32), .int (12 : Int32), .ref ad_t_candidates, .ref ad_t_left, .int (tI 8)])), (ad_t_rows, .inl (G.2.1 0, 4, .inl t_rows)), (ad_t_columns, .inl (G.2.1 0, 2, .inl t_columns)), (ad_t_candidates, .inl (G.2.1 0, 12, .inl a52.2)), (ad_t_left, .inl (G.2.1 0, 12, .inl t_left)), (ad_p0, .inr (5, [.ref ad_p0_numbers, .ref ad_p0_badRows, .ref ad_p0_badColumns, .ref ad_p0_badBits, .int (p0I 4)])), (ad_p0_numbers, .inl (G.2.1 0, 9, .inl p0_numbers)), (ad_p0_badRows, .inl (G.2.1 0, 12, .inl p0_badRows)), (ad_p0_badColumns, .inl (G.2.1 0, 12, .inl p0_badColumns))]) [0, 1, 2, 8, 3, 4, 5, 6, 7] rfl
        have hD := hD.sub (ws' := [(ad_t, .inr (3, [.ref ad_t_rows, .ref ad_t_columns, .int (0 : Int32), .int (0 : Int32), .int (0 : Int32), .int (12 : Int32), .ref ad_t_candidates, .ref ad_t_left, .int (tI 8)])), (ad_t_rows, .inl (G.2.1 0, 4, .inl t_rows)), (ad_t_columns, .inl (G.2.1 0, 2, .inl t_columns)), (ad_t_candidates, .inl (G.2.1 0, 12, .inl a52.2)), (ad_t_left, .inl (G.2.1 0, 12, .inl t_left)), (ad_p0, .inr (5, [.ref ad_p0_numbers, .ref ad_p0_badRows, .ref ad_p0_badColumns, .ref ad_p0_badBits, .int (p0I 4)])), (ad_p0_numbers, .inl (G.2.1 0, 9, .inl p0_numbers)), (ad_p0_badRows, .inl (G.2.1 0, 12, .inl p0_badRows)), (ad_p0_badColumns, .inl (G.2.1 0, 12, .inl p0_badColumns))]) [0, 1, 2, 8, 3, 4, 5, 6, 7] (by decide) rfl
        exact ih a52.1 (x48 + (1 : Int32)) a52.2 H locs ls (lv_sub hl [0, 1, 2, 3, 4] rfl) hP hD hS hf
  exact Ly21 FU (0 : Int32) (0 : Int32) t_candidates H locs ls (lv_sub hl [0, 1, 2, 3, 4] rfl) hP hD hS hLy21
