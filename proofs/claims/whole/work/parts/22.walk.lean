def fX11_fault (tI : Nat → Int32) (p0 : Int32) : Int32 :=
  (if p0 = 0 then (tI 4) else (if p0 = (1 : Int32) then (tI 5) else (-1 : Int32)))
set_option maxRecDepth 100000 in
set_option maxHeartbeats 4000000 in
theorem tX11_fault (l : Launch) (G : gG) (ad_t ad_t_all ad_t_tape ad_t_isImage ad_t_size ad_t_givenRow ad_t_givenColumn ad_t_newRow ad_t_view : Nat) (tI : Nat → Int32) (t_value : Int64) (p0 : Int32) (o : Int32) (hf : fX11_fault tI p0 = o) : mP G l yX11_fault cX11_fault 2 (some .int) 0 0 [.ref ad_t, .int p0] [(ad_t, .inr (11, [.ref ad_t_all, .ref ad_t_tape, .ref ad_t_isImage, .int (tI 3), .int (tI 4), .int (tI 5), .int (tI 6), .ref ad_t_size, .ref ad_t_givenRow, .ref ad_t_givenColumn, .ref ad_t_newRow, .int (tI 11), .int (tI 12), .int (tI 13), .int (tI 14), .int (tI 15), .int (tI 16), .int (tI 17), .int (tI 18), .int (tI 19), .ref ad_t_view, .int (tI 21), .int (tI 22), .int (tI 23), .int (tI 24), .int (tI 25), .long t_value, .int (tI 27), .int (tI 28)]))] (some (.int o)) := by
  refine mP_of (by decide) (Nat.le_of_ble_eq_true rfl) ?_
  intro p e s m below meth cd ls hx hb hml hown hts hr hlocks hl hP hG
  have hK := hG.1
  have hown : s.vm.findClass RX11 = some m.cls := hown
  have hl : lv_has ls 2 [(0, .ref ad_t), (1, .int p0)] := hl
  have hS : va_S no s.heap s.heap [] := va_S.rf
  generalize ([] : List Loc) = locs at hS ⊢
  unfold fX11_fault at hf
  show wG p l e 0 0 s m [.ref ad_t, .int p0] below meth cd s.heap locs (pQ (some (.int o))) no (F0 m 0 ls [])
  refine lv_iload_n hx hb dX11_fault_0 rfl (lv_at hl 1 rfl) ?_
  have J4 : wG p l e 0 0 s m [.ref ad_t, .int p0] below meth cd s.heap locs (pQ (some (.int o))) no (F0 m 24 ls [.int (if p0 = 0 then (tI 4) else (if p0 = (1 : Int32) then (tI 5) else (-1 : Int32)))]) := by
    subst hf
    exact pRet hx hb hr hlocks hS dX11_fault_24
  refine lv_if_ne (tgt := 11) hx hb dX11_fault_1 (by decide) (fun c5 => ?_) (fun c5 => ?_)
  · refine lv_iload_n hx hb dX11_fault_11 rfl (lv_at hl 1 rfl) ?_
    refine lv_iconst (v := 1) hx hb dX11_fault_12 (by decide) ?_
    refine lv_icmp_ne (tgt := 23) hx hb dX11_fault_13 (by decide) (fun c6 => ?_) (fun c6 => ?_)
    · refine lv_iconst (v := -1) hx hb dX11_fault_23 (by decide) ?_
      exact (mgF c6 (mgF c5 J4))
    · refine lv_aload_n hx hb dX11_fault_16 rfl (lv_at hl 0 rfl) ?_
      refine va_get (D := G.1) (cl := vwCl) (ci := 11) (v := .int (tI 5)) (C := RX11) (T := TX11) (N := 29) hx hb hts inG11 hown hK hP 0 rfl rfl 5 (Nat.le_of_ble_eq_true rfl) (hts _ q1046) (fun _ h9 => h9) rfl dX11_fault_17 ?_
      refine lv_goto (tgt := 24) hx hb dX11_fault_20 (by decide) ?_
      exact (mgT c6 (mgF c5 J4))
  · refine lv_aload_n hx hb dX11_fault_4 rfl (lv_at hl 0 rfl) ?_
    refine va_get (D := G.1) (cl := vwCl) (ci := 11) (v := .int (tI 4)) (C := RX11) (T := TX11) (N := 29) hx hb hts inG11 hown hK hP 0 rfl rfl 4 (Nat.le_of_ble_eq_true rfl) (hts _ q1045) (fun _ h9 => h9) rfl dX11_fault_5 ?_
    refine lv_goto (tgt := 24) hx hb dX11_fault_8 (by decide) ?_
    exact (mgT c5 J4)

def fX11_byteAt (tI : Nat → Int32) (t_tape : Nat → Int32) (p0 : Int32) : Option (Int32) :=
  (if (tI 22) ≤ p0 then some (-1 : Int32) else gd (gi p0 300) (some (t_tape p0.toNatClampNeg)))
set_option maxRecDepth 100000 in
set_option maxHeartbeats 4000000 in
theorem tX11_byteAt (l : Launch) (G : gG) (ad_t ad_t_all ad_t_tape ad_t_isImage ad_t_size ad_t_givenRow ad_t_givenColumn ad_t_newRow ad_t_view : Nat) (tI : Nat → Int32) (t_value : Int64) (t_tape : Nat → Int32) (p0 : Int32) (o : Int32) (hf : fX11_byteAt tI t_tape p0 = some o) : mP G l yX11_byteAt cX11_byteAt 2 (some .int) 0 0 [.ref ad_t, .int p0] [(ad_t, .inr (11, [.ref ad_t_all, .ref ad_t_tape, .ref ad_t_isImage, .int (tI 3), .int (tI 4), .int (tI 5), .int (tI 6), .ref ad_t_size, .ref ad_t_givenRow, .ref ad_t_givenColumn, .ref ad_t_newRow, .int (tI 11), .int (tI 12), .int (tI 13), .int (tI 14), .int (tI 15), .int (tI 16), .int (tI 17), .int (tI 18), .int (tI 19), .ref ad_t_view, .int (tI 21), .int (tI 22), .int (tI 23), .int (tI 24), .int (tI 25), .long t_value, .int (tI 27), .int (tI 28)])), (ad_t_tape, .inl (G.2.1 0, 300, .inl t_tape))] (some (.int o)) := by
  refine mP_of (by decide) (Nat.le_of_ble_eq_true rfl) ?_
  intro p e s m below meth cd ls hx hb hml hown hts hr hlocks hl hP hG
  have hK := hG.1
  have hown : s.vm.findClass RX11 = some m.cls := hown
  have hl : lv_has ls 2 [(0, .ref ad_t), (1, .int p0)] := hl
  have hS : va_S no s.heap s.heap [] := va_S.rf
  generalize ([] : List Loc) = locs at hS ⊢
  unfold fX11_byteAt at hf
  show wG p l e 0 0 s m [.ref ad_t, .int p0] below meth cd s.heap locs (pQ (some (.int o))) no (F0 m 0 ls [])
  refine lv_iload_n hx hb dX11_byteAt_0 rfl (lv_at hl 1 rfl) ?_
  refine lv_aload_n hx hb dX11_byteAt_1 rfl (lv_at hl 0 rfl) ?_
  refine va_get (D := G.1) (cl := vwCl) (ci := 11) (v := .int (tI 22)) (C := RX11) (T := TX11) (N := 29) hx hb hts inG11 hown hK hP 0 rfl rfl 22 (Nat.le_of_ble_eq_true rfl) (hts _ q1063) (fun _ h9 => h9) rfl dX11_byteAt_2 ?_
  refine lv_icmp_ge (tgt := 17) hx hb dX11_byteAt_5 (by decide) (fun c5 => ?_) (fun c5 => ?_)
  · have hf := if_t hf c5
    refine lv_iconst (v := -1) hx hb dX11_byteAt_17 (by decide) ?_
    have hf := Option.some.inj hf
    subst hf
    exact pRet hx hb hr hlocks hS dX11_byteAt_18
  · have hf := if_f hf c5
    refine lv_aload_n hx hb dX11_byteAt_8 rfl (lv_at hl 0 rfl) ?_
    refine va_get (D := G.1) (cl := vwCl) (ci := 11) (v := .ref ad_t_tape) (C := RX11) (T := TX11) (N := 29) hx hb hts inG11 hown hK hP 0 rfl rfl 1 (Nat.le_of_ble_eq_true rfl) (hts _ q1042) (fun _ h9 => h9) rfl dX11_byteAt_9 ?_
    refine lv_iload_n hx hb dX11_byteAt_12 rfl (lv_at hl 1 rfl) ?_
    obtain ⟨h6, hf⟩ := gd_some hf
    refine va_iald (D := G.1) (cl := vwCl) hx hb hK hP 1 0 rfl rfl (gi_in h6) dX11_byteAt_13 ?_
    refine lv_goto (tgt := 18) hx hb dX11_byteAt_14 (by decide) ?_
    have hf := Option.some.inj hf
    subst hf
    exact pRet hx hb hr hlocks hS dX11_byteAt_18

def fX11_isLetter (p0 : Int32) : Bool :=
  (if p0 < (97 : Int32) then false else (if (122 : Int32) < p0 then false else true))
set_option maxRecDepth 100000 in
set_option maxHeartbeats 4000000 in
theorem tX11_isLetter (l : Launch) (G : gG) (p0 : Int32) (o : Bool) (hf : fX11_isLetter p0 = o) : mP G l yX11_isLetter cX11_isLetter 1 (some .boolean) 0 0 [.int p0] [] (some (.int (bi o))) := by
  refine mP_of (by decide) (Nat.le_of_ble_eq_true rfl) ?_
  intro p e s m below meth cd ls hx hb hml hown hts hr hlocks hl hP hG
  have hK := hG.1
  have hown : s.vm.findClass RX11 = some m.cls := hown
  have hl : lv_has ls 1 [(0, .int p0)] := hl
  have hS : va_S no s.heap s.heap [] := va_S.rf
  generalize ([] : List Loc) = locs at hS ⊢
  unfold fX11_isLetter at hf
  show wG p l e 0 0 s m [.int p0] below meth cd s.heap locs (pQ (some (.int (bi o)))) no (F0 m 0 ls [])
  refine lv_iload_n hx hb dX11_isLetter_0 rfl (lv_at hl 0 rfl) ?_
  refine lv_bipush (v := 97) hx hb dX11_isLetter_1 (by decide) ?_
  refine lv_icmp_lt (tgt := 16) hx hb dX11_isLetter_3 (by decide) (fun c3 => ?_) (fun c3 => ?_)
  · have hf := if_t hf c3
    refine lv_iconst (v := 0) hx hb dX11_isLetter_16 (by decide) ?_
    subst hf
    exact pRetZ (v := false) hx hb hr hlocks hS dX11_isLetter_17
  · have hf := if_f hf c3
    refine lv_iload_n hx hb dX11_isLetter_6 rfl (lv_at hl 0 rfl) ?_
    refine lv_bipush (v := 122) hx hb dX11_isLetter_7 (by decide) ?_
    refine lv_icmp_gt (tgt := 16) hx hb dX11_isLetter_9 (by decide) (fun c4 => ?_) (fun c4 => ?_)
    · have hf := if_t hf c4
      refine lv_iconst (v := 0) hx hb dX11_isLetter_16 (by decide) ?_
      subst hf
      exact pRetZ (v := false) hx hb hr hlocks hS dX11_isLetter_17
    · have hf := if_f hf c4
      refine lv_iconst (v := 1) hx hb dX11_isLetter_12 (by decide) ?_
      refine lv_goto (tgt := 17) hx hb dX11_isLetter_13 (by decide) ?_
      subst hf
      exact pRetZ (v := true) hx hb hr hlocks hS dX11_isLetter_17

def fX11_isDigit (p0 : Int32) : Bool :=
  (if p0 < (48 : Int32) then false else (if (57 : Int32) < p0 then false else true))
set_option maxRecDepth 100000 in
set_option maxHeartbeats 4000000 in
theorem tX11_isDigit (l : Launch) (G : gG) (p0 : Int32) (o : Bool) (hf : fX11_isDigit p0 = o) : mP G l yX11_isDigit cX11_isDigit 1 (some .boolean) 0 0 [.int p0] [] (some (.int (bi o))) := by
  refine mP_of (by decide) (Nat.le_of_ble_eq_true rfl) ?_
  intro p e s m below meth cd ls hx hb hml hown hts hr hlocks hl hP hG
  have hK := hG.1
  have hown : s.vm.findClass RX11 = some m.cls := hown
  have hl : lv_has ls 1 [(0, .int p0)] := hl
  have hS : va_S no s.heap s.heap [] := va_S.rf
  generalize ([] : List Loc) = locs at hS ⊢
  unfold fX11_isDigit at hf
  show wG p l e 0 0 s m [.int p0] below meth cd s.heap locs (pQ (some (.int (bi o)))) no (F0 m 0 ls [])
  refine lv_iload_n hx hb dX11_isDigit_0 rfl (lv_at hl 0 rfl) ?_
  refine lv_bipush (v := 48) hx hb dX11_isDigit_1 (by decide) ?_
  refine lv_icmp_lt (tgt := 16) hx hb dX11_isDigit_3 (by decide) (fun c3 => ?_) (fun c3 => ?_)
  · have hf := if_t hf c3
    refine lv_iconst (v := 0) hx hb dX11_isDigit_16 (by decide) ?_
    subst hf
    exact pRetZ (v := false) hx hb hr hlocks hS dX11_isDigit_17
  · have hf := if_f hf c3
    refine lv_iload_n hx hb dX11_isDigit_6 rfl (lv_at hl 0 rfl) ?_
    refine lv_bipush (v := 57) hx hb dX11_isDigit_7 (by decide) ?_
    refine lv_icmp_gt (tgt := 16) hx hb dX11_isDigit_9 (by decide) (fun c4 => ?_) (fun c4 => ?_)
    · have hf := if_t hf c4
      refine lv_iconst (v := 0) hx hb dX11_isDigit_16 (by decide) ?_
      subst hf
      exact pRetZ (v := false) hx hb hr hlocks hS dX11_isDigit_17
    · have hf := if_f hf c4
      refine lv_iconst (v := 1) hx hb dX11_isDigit_12 (by decide) ?_
      refine lv_goto (tgt := 17) hx hb dX11_isDigit_13 (by decide) ?_
      subst hf
      exact pRetZ (v := true) hx hb hr hlocks hS dX11_isDigit_17

def fX11_takes_l0 (t_tape : Nat → Int32) : Nat → (Nat → Int32) → Option ((Nat → Int32))
  | 0, _ => none
  | n + 1, tI =>
    bn (fX11_byteAt tI t_tape (tI 23)) fun a1 => (if a1 = (32 : Int32) then fX11_takes_l0 t_tape n (upd tI 23 ((tI 23) + (1 : Int32))) else bn (fX11_byteAt tI t_tape (tI 23)) fun a4 => (if a4 = (10 : Int32) then fX11_takes_l0 t_tape n (upd tI 23 ((tI 23) + (1 : Int32))) else some tI))
def fX11_takes_l189 (t_tape : Nat → Int32) : Nat → (Nat → Int32) → (Int64) → Option ((Nat → Int32) × (Int64))
  | 0, _, _ => none
  | n + 1, tI, t_value =>
    bn (fX11_byteAt tI t_tape (tI 23)) fun a15 => (if (bi (fX11_isDigit a15)) = 0 then some (tI, t_value) else (if (6 : Int32) ≤ ((tI 23) - (tI 25)) then fX11_takes_l189 t_tape n (upd tI 23 ((tI 23) + (1 : Int32))) t_value else bn (fX11_byteAt tI t_tape (tI 23)) fun a19 => fX11_takes_l189 t_tape n (upd tI 23 ((tI 23) + (1 : Int32))) ((((10 : Int64) * t_value) + (a19.toInt64)) - (48 : Int64))))
def fX11_takes_l80 (t_tape : Nat → Int32) : Nat → (Nat → Int32) → (Int64) → Option ((Nat → Int32) × (Int64))
  | 0, _, _ => none
  | n + 1, tI, t_value =>
    bn (fX11_byteAt tI t_tape (tI 23)) fun a24 => (if (bi (fX11_isLetter a24)) = 0 then some (tI, t_value) else (if (8 : Int32) ≤ ((tI 23) - (tI 25)) then fX11_takes_l80 t_tape n (upd tI 23 ((tI 23) + (1 : Int32))) t_value else bn (fX11_byteAt tI t_tape (tI 23)) fun a28 => fX11_takes_l80 t_tape n (upd tI 23 ((tI 23) + (1 : Int32))) (((((27 : Int64) * t_value) + (a28.toInt64)) - (97 : Int64)) + (1 : Int64))))
def fX11_takes (tI : Nat → Int32) (t_value : Int64) (t_tape : Nat → Int32) : Option ((Nat → Int32) × (Int64)) :=
  bn (fX11_takes_l0 t_tape FU tI) fun y7 => bn (fX11_byteAt (upd y7 25 (y7 23)) t_tape (y7 23)) fun a8 => (if 0 ≤ a8 then (if (bi (fX11_isLetter a8)) = 0 then (if (bi (fX11_isDigit a8)) = 0 then some ((upd (upd (upd y7 23 ((y7 23) + (1 : Int32))) 24 (if a8 = (59 : Int32) then (3 : Int32) else (4 : Int32))) 25 (y7 23)), (0 : Int64)) else bn (fX11_takes_l189 t_tape FU (upd y7 25 (y7 23)) (0 : Int64)) fun y21 => some ((upd y21.1 24 (if ((y21.1 23) - (y21.1 25)) ≤ (6 : Int32) then (2 : Int32) else (4 : Int32))), y21.2)) else bn (fX11_takes_l80 t_tape FU (upd y7 25 (y7 23)) (0 : Int64)) fun y30 => some ((upd y30.1 24 (if ((y30.1 23) - (y30.1 25)) ≤ (8 : Int32) then (1 : Int32) else (4 : Int32))), y30.2)) else some ((upd (upd y7 24 (0 : Int32)) 25 (y7 23)), (0 : Int64)))
set_option maxRecDepth 100000 in
set_option maxHeartbeats 4000000 in
theorem tX11_takes (l : Launch) (G : gG) (ad_t ad_t_all ad_t_tape ad_t_isImage ad_t_size ad_t_givenRow ad_t_givenColumn ad_t_newRow ad_t_view : Nat) (tI : Nat → Int32) (t_value : Int64) (t_tape : Nat → Int32) (o : (Nat → Int32) × (Int64)) (hf : fX11_takes tI t_value t_tape = some o) : mE G l yX11_takes cX11_takes 2 none 1 21 0 0 [.ref ad_t] [(ad_t, .inr (11, [.ref ad_t_all, .ref ad_t_tape, .ref ad_t_isImage, .int (tI 3), .int (tI 4), .int (tI 5), .int (tI 6), .ref ad_t_size, .ref ad_t_givenRow, .ref ad_t_givenColumn, .ref ad_t_newRow, .int (tI 11), .int (tI 12), .int (tI 13), .int (tI 14), .int (tI 15), .int (tI 16), .int (tI 17), .int (tI 18), .int (tI 19), .ref ad_t_view, .int (tI 21), .int (tI 22), .int (tI 23), .int (tI 24), .int (tI 25), .long t_value, .int (tI 27), .int (tI 28)])), (ad_t_tape, .inl (G.2.1 0, 300, .inl t_tape))] (fun r w => r = none ∧ w = [(ad_t, .inr (11, [.ref ad_t_all, .ref ad_t_tape, .ref ad_t_isImage, .int (o.1 3), .int (o.1 4), .int (o.1 5), .int (o.1 6), .ref ad_t_size, .ref ad_t_givenRow, .ref ad_t_givenColumn, .ref ad_t_newRow, .int (o.1 11), .int (o.1 12), .int (o.1 13), .int (o.1 14), .int (o.1 15), .int (o.1 16), .int (o.1 17), .int (o.1 18), .int (o.1 19), .ref ad_t_view, .int (o.1 21), .int (o.1 22), .int (o.1 23), .int (o.1 24), .int (o.1 25), .long o.2, .int (o.1 27), .int (o.1 28)])), (ad_t_tape, .inl (G.2.1 0, 300, .inl t_tape))]) := by
  refine mE_of (by decide) (Nat.le_of_ble_eq_true rfl) ?_
  intro p e s m below meth cd ls A hx hb hml hown hts hr hlocks hnm hl hA hP hD hS hG
  have hK := hG.1
  have hown : s.vm.findClass RX11 = some m.cls := hown
  have hl : lv_has ls 2 [(0, .ref ad_t)] := hl
  have hS := hS
  unfold fX11_takes at hf
  obtain ⟨H, locs, eH, eL⟩ : ∃ (H : Heap) (locs : List Loc), H = s.heap ∧ locs = [] := ⟨_, _, rfl, rfl⟩
  have hP : va_P G.1 vwCl [(ad_t, .inr (11, [.ref ad_t_all, .ref ad_t_tape, .ref ad_t_isImage, .int (tI 3), .int (tI 4), .int (tI 5), .int (tI 6), .ref ad_t_size, .ref ad_t_givenRow, .ref ad_t_givenColumn, .ref ad_t_newRow, .int (tI 11), .int (tI 12), .int (tI 13), .int (tI 14), .int (tI 15), .int (tI 16), .int (tI 17), .int (tI 18), .int (tI 19), .ref ad_t_view, .int (tI 21), .int (tI 22), .int (tI 23), .int (tI 24), .int (tI 25), .long t_value, .int (tI 27), .int (tI 28)])), (ad_t_tape, .inl (G.2.1 0, 300, .inl t_tape))] H := eH ▸ hP
  have hS : va_S A s.heap H locs := by rw [eH, eL]; exact hS
  suffices hgo : wG p l e 1 21 s m [.ref ad_t] below meth cd H locs (eQ G A (fun r w => r = none ∧ w = [(ad_t, .inr (11, [.ref ad_t_all, .ref ad_t_tape, .ref ad_t_isImage, .int (o.1 3), .int (o.1 4), .int (o.1 5), .int (o.1 6), .ref ad_t_size, .ref ad_t_givenRow, .ref ad_t_givenColumn, .ref ad_t_newRow, .int (o.1 11), .int (o.1 12), .int (o.1 13), .int (o.1 14), .int (o.1 15), .int (o.1 16), .int (o.1 17), .int (o.1 18), .int (o.1 19), .ref ad_t_view, .int (o.1 21), .int (o.1 22), .int (o.1 23), .int (o.1 24), .int (o.1 25), .long o.2, .int (o.1 27), .int (o.1 28)])), (ad_t_tape, .inl (G.2.1 0, 300, .inl t_tape))])) A (F0 m 0 ls []) by rw [eH, eL] at hgo; exact hgo
  clear eH eL
  obtain ⟨y33, hLy33, hky33⟩ := bn_some hf
  have Ey33 : ∀  (H : Heap) (locs : List Loc) (ls : Array Slot), lv_has ls 2 [(0, .ref ad_t)] → va_P G.1 vwCl [(ad_t, .inr (11, [.ref ad_t_all, .ref ad_t_tape, .ref ad_t_isImage, .int (y33 3), .int (y33 4), .int (y33 5), .int (y33 6), .ref ad_t_size, .ref ad_t_givenRow, .ref ad_t_givenColumn, .ref ad_t_newRow, .int (y33 11), .int (y33 12), .int (y33 13), .int (y33 14), .int (y33 15), .int (y33 16), .int (y33 17), .int (y33 18), .int (y33 19), .ref ad_t_view, .int (y33 21), .int (y33 22), .int (y33 23), .int (y33 24), .int (y33 25), .long t_value, .int (y33 27), .int (y33 28)])), (ad_t_tape, .inl (G.2.1 0, 300, .inl t_tape))] H → va_D A [(ad_t, .inr (11, [.ref ad_t_all, .ref ad_t_tape, .ref ad_t_isImage, .int (y33 3), .int (y33 4), .int (y33 5), .int (y33 6), .ref ad_t_size, .ref ad_t_givenRow, .ref ad_t_givenColumn, .ref ad_t_newRow, .int (y33 11), .int (y33 12), .int (y33 13), .int (y33 14), .int (y33 15), .int (y33 16), .int (y33 17), .int (y33 18), .int (y33 19), .ref ad_t_view, .int (y33 21), .int (y33 22), .int (y33 23), .int (y33 24), .int (y33 25), .long t_value, .int (y33 27), .int (y33 28)])), (ad_t_tape, .inl (G.2.1 0, 300, .inl t_tape))] → va_S A s.heap H locs → wG p l e 1 21 s m [.ref ad_t] below meth cd H locs (eQ G A (fun r w => r = none ∧ w = [(ad_t, .inr (11, [.ref ad_t_all, .ref ad_t_tape, .ref ad_t_isImage, .int (o.1 3), .int (o.1 4), .int (o.1 5), .int (o.1 6), .ref ad_t_size, .ref ad_t_givenRow, .ref ad_t_givenColumn, .ref ad_t_newRow, .int (o.1 11), .int (o.1 12), .int (o.1 13), .int (o.1 14), .int (o.1 15), .int (o.1 16), .int (o.1 17), .int (o.1 18), .int (o.1 19), .ref ad_t_view, .int (o.1 21), .int (o.1 22), .int (o.1 23), .int (o.1 24), .int (o.1 25), .long o.2, .int (o.1 27), .int (o.1 28)])), (ad_t_tape, .inl (G.2.1 0, 300, .inl t_tape))])) A (F0 m 39 ls []) := by
    intro  H locs ls hl hP hD hS
    have hf := hky33
    refine lv_aload_n hx hb dX11_takes_39 rfl (lv_at hl 0 rfl) ?_
    refine lv_aload_n hx hb dX11_takes_40 rfl (lv_at hl 0 rfl) ?_
    refine va_get (D := G.1) (cl := vwCl) (ci := 11) (v := .int (y33 23)) (C := RX11) (T := TX11) (N := 29) hx hb hts inG11 hown hK hP 0 rfl rfl 23 (Nat.le_of_ble_eq_true rfl) (hts _ q1064) (fun _ h9 => h9) rfl dX11_takes_41 ?_
    refine va_put (D := G.1) (cl := vwCl) (ci := 11) (v := .int (y33 23)) (ty := .int) (C := RX11) (T := TX11) (N := 29) hx hb hts inG11 tyX11 tyX11_ok nmX11 hown hK hP hD hS 0 rfl rfl 25 (Nat.le_of_ble_eq_true rfl) (hts _ q1066) (fun _ h9 => h9) rfl (tyX11_ok 25 (Nat.le_of_ble_eq_true rfl)) rfl rfl (Nat.le_of_ble_eq_true rfl) dX11_takes_44 (fun H locs hP hD hS => ?_)
    have hP : va_P G.1 vwCl [(ad_t, .inr (11, [.ref ad_t_all, .ref ad_t_tape, .ref ad_t_isImage, .int (y33 3), .int (y33 4), .int (y33 5), .int (y33 6), .ref ad_t_size, .ref ad_t_givenRow, .ref ad_t_givenColumn, .ref ad_t_newRow, .int (y33 11), .int (y33 12), .int (y33 13), .int (y33 14), .int (y33 15), .int (y33 16), .int (y33 17), .int (y33 18), .int (y33 19), .ref ad_t_view, .int (y33 21), .int (y33 22), .int (y33 23), .int (y33 24), .int (y33 23), .long t_value, .int (y33 27), .int (y33 28)])), (ad_t_tape, .inl (G.2.1 0, 300, .inl t_tape))] H := hP
    have hD : va_D A [(ad_t, .inr (11, [.ref ad_t_all, .ref ad_t_tape, .ref ad_t_isImage, .int (y33 3), .int (y33 4), .int (y33 5), .int (y33 6), .ref ad_t_size, .ref ad_t_givenRow, .ref ad_t_givenColumn, .ref ad_t_newRow, .int (y33 11), .int (y33 12), .int (y33 13), .int (y33 14), .int (y33 15), .int (y33 16), .int (y33 17), .int (y33 18), .int (y33 19), .ref ad_t_view, .int (y33 21), .int (y33 22), .int (y33 23), .int (y33 24), .int (y33 23), .long t_value, .int (y33 27), .int (y33 28)])), (ad_t_tape, .inl (G.2.1 0, 300, .inl t_tape))] := hD
    refine lv_aload_n hx hb dX11_takes_47 rfl (lv_at hl 0 rfl) ?_
    refine lv_aload_n hx hb dX11_takes_48 rfl (lv_at hl 0 rfl) ?_
    refine va_get (D := G.1) (cl := vwCl) (ci := 11) (v := .int (y33 23)) (C := RX11) (T := TX11) (N := 29) hx hb hts inG11 hown hK hP 0 rfl rfl 23 (Nat.le_of_ble_eq_true rfl) (hts _ q1064) (fun _ h9 => h9) rfl dX11_takes_49 ?_
    obtain ⟨a34, h35, hf⟩ := bn_some hf
    refine kPV (tX11_byteAt l G ad_t ad_t_all ad_t_tape ad_t_isImage ad_t_size ad_t_givenRow ad_t_givenColumn ad_t_newRow ad_t_view (upd y33 25 (y33 23)) t_value t_tape (y33 23) a34 h35) ⟨hx, hb, hml, hown, hts⟩ q1443 q1445 q84 q108 q1446 okyX11_byteAt ⟨Nat.le_of_ble_eq_true rfl, Nat.le_of_ble_eq_true rfl⟩ hP hG hS [0, 1] rfl 0 rfl rfl hl.1 rfl (Nat.le_of_ble_eq_true rfl) dX11_takes_52 ⟨Nat.zero_le _, Nat.zero_le _⟩ (fun locs hS => ?_)
    refine W.eq (g2 := F0 m 55 ls [.int a34]) rfl ?_
    refine lv_istore_n (lv' := [(1, .int a34), (0, .ref ad_t)]) hx hb dX11_takes_55 rfl hl (by decide) rfl (fun ls hl => ?_)
    refine lv_aload_n hx hb dX11_takes_56 rfl (lv_at hl 1 rfl) ?_
    refine lv_lconst (v := 0) hx hb dX11_takes_57 (by decide) ?_
    refine va_put (D := G.1) (cl := vwCl) (ci := 11) (v := .long (0 : Int64)) (ty := .long) (C := RX11) (T := TX11) (N := 29) hx hb hts inG11 tyX11 tyX11_ok nmX11 hown hK hP hD hS 0 rfl rfl 26 (Nat.le_of_ble_eq_true rfl) (hts _ q1067) (fun _ h9 => h9) rfl (tyX11_ok 26 (Nat.le_of_ble_eq_true rfl)) rfl rfl (Nat.le_of_ble_eq_true rfl) dX11_takes_58 (fun H locs hP hD hS => ?_)
    have hP : va_P G.1 vwCl [(ad_t, .inr (11, [.ref ad_t_all, .ref ad_t_tape, .ref ad_t_isImage, .int (y33 3), .int (y33 4), .int (y33 5), .int (y33 6), .ref ad_t_size, .ref ad_t_givenRow, .ref ad_t_givenColumn, .ref ad_t_newRow, .int (y33 11), .int (y33 12), .int (y33 13), .int (y33 14), .int (y33 15), .int (y33 16), .int (y33 17), .int (y33 18), .int (y33 19), .ref ad_t_view, .int (y33 21), .int (y33 22), .int (y33 23), .int (y33 24), .int (y33 23), .long (0 : Int64), .int (y33 27), .int (y33 28)])), (ad_t_tape, .inl (G.2.1 0, 300, .inl t_tape))] H := hP
    have hD : va_D A [(ad_t, .inr (11, [.ref ad_t_all, .ref ad_t_tape, .ref ad_t_isImage, .int (y33 3), .int (y33 4), .int (y33 5), .int (y33 6), .ref ad_t_size, .ref ad_t_givenRow, .ref ad_t_givenColumn, .ref ad_t_newRow, .int (y33 11), .int (y33 12), .int (y33 13), .int (y33 14), .int (y33 15), .int (y33 16), .int (y33 17), .int (y33 18), .int (y33 19), .ref ad_t_view, .int (y33 21), .int (y33 22), .int (y33 23), .int (y33 24), .int (y33 23), .long (0 : Int64), .int (y33 27), .int (y33 28)])), (ad_t_tape, .inl (G.2.1 0, 300, .inl t_tape))] := hD
    refine lv_iload_n hx hb dX11_takes_61 rfl (lv_at hl 0 rfl) ?_
    refine lv_if_ge (tgt := 73) hx hb dX11_takes_62 (by decide) (fun c36 => ?_) (fun c36 => ?_)
    · have hf := if_t hf c36
      refine lv_iload_n hx hb dX11_takes_73 rfl (lv_at hl 0 rfl) ?_
      refine kPS (tX11_isLetter l G a34 _ rfl) ⟨hx, hb, hml, hown, hts⟩ q1447 q1448 q108 q1449 okyX11_isLetter ⟨Nat.le_of_ble_eq_true rfl, Nat.le_of_ble_eq_true rfl⟩ hP hG hS [] rfl hl.1 rfl (Nat.le_of_ble_eq_true rfl) dX11_takes_74 ⟨Nat.zero_le _, Nat.zero_le _⟩ (fun locs hS => ?_)
      refine W.eq (g2 := F0 m 77 ls [.int (bi (fX11_isLetter a34))]) rfl ?_
      refine lv_if_eq (tgt := 182) hx hb dX11_takes_77 (by decide) (fun c37 => ?_) (fun c37 => ?_)
      · have hf := if_t hf c37
        refine lv_iload_n hx hb dX11_takes_182 rfl (lv_at hl 0 rfl) ?_
        refine kPS (tX11_isDigit l G a34 _ rfl) ⟨hx, hb, hml, hown, hts⟩ q1451 q1452 q108 q1453 okyX11_isDigit ⟨Nat.le_of_ble_eq_true rfl, Nat.le_of_ble_eq_true rfl⟩ hP hG hS [] rfl hl.1 rfl (Nat.le_of_ble_eq_true rfl) dX11_takes_183 ⟨Nat.zero_le _, Nat.zero_le _⟩ (fun locs hS => ?_)
        refine W.eq (g2 := F0 m 186 ls [.int (bi (fX11_isDigit a34))]) rfl ?_
        refine lv_if_eq (tgt := 289) hx hb dX11_takes_186 (by decide) (fun c38 => ?_) (fun c38 => ?_)
        · have hf := if_t hf c38
          refine lv_aload_n hx hb dX11_takes_289 rfl (lv_at hl 1 rfl) ?_
          refine lv_dup hx hb dX11_takes_290 rfl ?_
          refine va_get (D := G.1) (cl := vwCl) (ci := 11) (v := .int (y33 23)) (C := RX11) (T := TX11) (N := 29) hx hb hts inG11 hown hK hP 0 rfl rfl 23 (Nat.le_of_ble_eq_true rfl) (hts _ q1064) (fun _ h9 => h9) rfl dX11_takes_291 ?_
          refine lv_iconst (v := 1) hx hb dX11_takes_294 (by decide) ?_
          refine lv_iadd hx hb dX11_takes_295 ?_
          refine va_put (D := G.1) (cl := vwCl) (ci := 11) (v := .int ((y33 23) + (1 : Int32))) (ty := .int) (C := RX11) (T := TX11) (N := 29) hx hb hts inG11 tyX11 tyX11_ok nmX11 hown hK hP hD hS 0 rfl rfl 23 (Nat.le_of_ble_eq_true rfl) (hts _ q1064) (fun _ h9 => h9) rfl (tyX11_ok 23 (Nat.le_of_ble_eq_true rfl)) rfl rfl (Nat.le_of_ble_eq_true rfl) dX11_takes_296 (fun H locs hP hD hS => ?_)
          have hP : va_P G.1 vwCl [(ad_t, .inr (11, [.ref ad_t_all, .ref ad_t_tape, .ref ad_t_isImage, .int (y33 3), .int (y33 4), .int (y33 5), .int (y33 6), .ref ad_t_size, .ref ad_t_givenRow, .ref ad_t_givenColumn, .ref ad_t_newRow, .int (y33 11), .int (y33 12), .int (y33 13), .int (y33 14), .int (y33 15), .int (y33 16), .int (y33 17), .int (y33 18), .int (y33 19), .ref ad_t_view, .int (y33 21), .int (y33 22), .int ((y33 23) + (1 : Int32)), .int (y33 24), .int (y33 23), .long (0 : Int64), .int (y33 27), .int (y33 28)])), (ad_t_tape, .inl (G.2.1 0, 300, .inl t_tape))] H := hP
          have hD : va_D A [(ad_t, .inr (11, [.ref ad_t_all, .ref ad_t_tape, .ref ad_t_isImage, .int (y33 3), .int (y33 4), .int (y33 5), .int (y33 6), .ref ad_t_size, .ref ad_t_givenRow, .ref ad_t_givenColumn, .ref ad_t_newRow, .int (y33 11), .int (y33 12), .int (y33 13), .int (y33 14), .int (y33 15), .int (y33 16), .int (y33 17), .int (y33 18), .int (y33 19), .ref ad_t_view, .int (y33 21), .int (y33 22), .int ((y33 23) + (1 : Int32)), .int (y33 24), .int (y33 23), .long (0 : Int64), .int (y33 27), .int (y33 28)])), (ad_t_tape, .inl (G.2.1 0, 300, .inl t_tape))] := hD
          refine lv_aload_n hx hb dX11_takes_299 rfl (lv_at hl 1 rfl) ?_
          refine lv_iload_n hx hb dX11_takes_300 rfl (lv_at hl 0 rfl) ?_
          refine lv_bipush (v := 59) hx hb dX11_takes_301 (by decide) ?_
          have J39 : wG p l e 1 21 s m [.ref ad_t] below meth cd H locs (eQ G A (fun r w => r = none ∧ w = [(ad_t, .inr (11, [.ref ad_t_all, .ref ad_t_tape, .ref ad_t_isImage, .int (o.1 3), .int (o.1 4), .int (o.1 5), .int (o.1 6), .ref ad_t_size, .ref ad_t_givenRow, .ref ad_t_givenColumn, .ref ad_t_newRow, .int (o.1 11), .int (o.1 12), .int (o.1 13), .int (o.1 14), .int (o.1 15), .int (o.1 16), .int (o.1 17), .int (o.1 18), .int (o.1 19), .ref ad_t_view, .int (o.1 21), .int (o.1 22), .int (o.1 23), .int (o.1 24), .int (o.1 25), .long o.2, .int (o.1 27), .int (o.1 28)])), (ad_t_tape, .inl (G.2.1 0, 300, .inl t_tape))])) A (F0 m 311 ls [.int (if a34 = (59 : Int32) then (3 : Int32) else (4 : Int32)), .ref ad_t]) := by
            refine va_put (D := G.1) (cl := vwCl) (ci := 11) (v := .int (if a34 = (59 : Int32) then (3 : Int32) else (4 : Int32))) (ty := .int) (C := RX11) (T := TX11) (N := 29) hx hb hts inG11 tyX11 tyX11_ok nmX11 hown hK hP hD hS 0 rfl rfl 24 (Nat.le_of_ble_eq_true rfl) (hts _ q1065) (fun _ h9 => h9) rfl (tyX11_ok 24 (Nat.le_of_ble_eq_true rfl)) rfl rfl (Nat.le_of_ble_eq_true rfl) dX11_takes_311 (fun H locs hP hD hS => ?_)
            have hP : va_P G.1 vwCl [(ad_t, .inr (11, [.ref ad_t_all, .ref ad_t_tape, .ref ad_t_isImage, .int (y33 3), .int (y33 4), .int (y33 5), .int (y33 6), .ref ad_t_size, .ref ad_t_givenRow, .ref ad_t_givenColumn, .ref ad_t_newRow, .int (y33 11), .int (y33 12), .int (y33 13), .int (y33 14), .int (y33 15), .int (y33 16), .int (y33 17), .int (y33 18), .int (y33 19), .ref ad_t_view, .int (y33 21), .int (y33 22), .int ((y33 23) + (1 : Int32)), .int (if a34 = (59 : Int32) then (3 : Int32) else (4 : Int32)), .int (y33 23), .long (0 : Int64), .int (y33 27), .int (y33 28)])), (ad_t_tape, .inl (G.2.1 0, 300, .inl t_tape))] H := hP
            have hD : va_D A [(ad_t, .inr (11, [.ref ad_t_all, .ref ad_t_tape, .ref ad_t_isImage, .int (y33 3), .int (y33 4), .int (y33 5), .int (y33 6), .ref ad_t_size, .ref ad_t_givenRow, .ref ad_t_givenColumn, .ref ad_t_newRow, .int (y33 11), .int (y33 12), .int (y33 13), .int (y33 14), .int (y33 15), .int (y33 16), .int (y33 17), .int (y33 18), .int (y33 19), .ref ad_t_view, .int (y33 21), .int (y33 22), .int ((y33 23) + (1 : Int32)), .int (if a34 = (59 : Int32) then (3 : Int32) else (4 : Int32)), .int (y33 23), .long (0 : Int64), .int (y33 27), .int (y33 28)])), (ad_t_tape, .inl (G.2.1 0, 300, .inl t_tape))] := hD
            have hf := Option.some.inj hf
            subst hf
            exact eRetV hx hb hr hlocks hP hD hS ⟨rfl, rfl⟩ dX11_takes_314
          refine lv_icmp_ne (tgt := 310) hx hb dX11_takes_303 (by decide) (fun c40 => ?_) (fun c40 => ?_)
          · refine lv_iconst (v := 4) hx hb dX11_takes_310 (by decide) ?_
            exact (mgF c40 J39)
          · refine lv_iconst (v := 3) hx hb dX11_takes_306 (by decide) ?_
            refine lv_goto (tgt := 311) hx hb dX11_takes_307 (by decide) ?_
            exact (mgT c40 J39)
        · have hf := if_f hf c38
          obtain ⟨y41, hLy41, hky41⟩ := bn_some hf
          have Ey41 : ∀  (H : Heap) (locs : List Loc) (ls : Array Slot), lv_has ls 2 [(0, .ref ad_t)] → va_P G.1 vwCl [(ad_t, .inr (11, [.ref ad_t_all, .ref ad_t_tape, .ref ad_t_isImage, .int (y41.1 3), .int (y41.1 4), .int (y41.1 5), .int (y41.1 6), .ref ad_t_size, .ref ad_t_givenRow, .ref ad_t_givenColumn, .ref ad_t_newRow, .int (y41.1 11), .int (y41.1 12), .int (y41.1 13), .int (y41.1 14), .int (y41.1 15), .int (y41.1 16), .int (y41.1 17), .int (y41.1 18), .int (y41.1 19), .ref ad_t_view, .int (y41.1 21), .int (y41.1 22), .int (y41.1 23), .int (y41.1 24), .int (y41.1 25), .long y41.2, .int (y41.1 27), .int (y41.1 28)])), (ad_t_tape, .inl (G.2.1 0, 300, .inl t_tape))] H → va_D A [(ad_t, .inr (11, [.ref ad_t_all, .ref ad_t_tape, .ref ad_t_isImage, .int (y41.1 3), .int (y41.1 4), .int (y41.1 5), .int (y41.1 6), .ref ad_t_size, .ref ad_t_givenRow, .ref ad_t_givenColumn, .ref ad_t_newRow, .int (y41.1 11), .int (y41.1 12), .int (y41.1 13), .int (y41.1 14), .int (y41.1 15), .int (y41.1 16), .int (y41.1 17), .int (y41.1 18), .int (y41.1 19), .ref ad_t_view, .int (y41.1 21), .int (y41.1 22), .int (y41.1 23), .int (y41.1 24), .int (y41.1 25), .long y41.2, .int (y41.1 27), .int (y41.1 28)])), (ad_t_tape, .inl (G.2.1 0, 300, .inl t_tape))] → va_S A s.heap H locs → wG p l e 1 21 s m [.ref ad_t] below meth cd H locs (eQ G A (fun r w => r = none ∧ w = [(ad_t, .inr (11, [.ref ad_t_all, .ref ad_t_tape, .ref ad_t_isImage, .int (o.1 3), .int (o.1 4), .int (o.1 5), .int (o.1 6), .ref ad_t_size, .ref ad_t_givenRow, .ref ad_t_givenColumn, .ref ad_t_newRow, .int (o.1 11), .int (o.1 12), .int (o.1 13), .int (o.1 14), .int (o.1 15), .int (o.1 16), .int (o.1 17), .int (o.1 18), .int (o.1 19), .ref ad_t_view, .int (o.1 21), .int (o.1 22), .int (o.1 23), .int (o.1 24), .int (o.1 25), .long o.2, .int (o.1 27), .int (o.1 28)])), (ad_t_tape, .inl (G.2.1 0, 300, .inl t_tape))])) A (F0 m 263 ls []) := by
            intro  H locs ls hl hP hD hS
            have hf := hky41
            refine lv_aload_n hx hb dX11_takes_263 rfl (lv_at hl 0 rfl) ?_
            refine lv_aload_n hx hb dX11_takes_264 rfl (lv_at hl 0 rfl) ?_
            refine va_get (D := G.1) (cl := vwCl) (ci := 11) (v := .int (y41.1 23)) (C := RX11) (T := TX11) (N := 29) hx hb hts inG11 hown hK hP 0 rfl rfl 23 (Nat.le_of_ble_eq_true rfl) (hts _ q1064) (fun _ h9 => h9) rfl dX11_takes_265 ?_
            refine lv_aload_n hx hb dX11_takes_268 rfl (lv_at hl 0 rfl) ?_
            refine va_get (D := G.1) (cl := vwCl) (ci := 11) (v := .int (y41.1 25)) (C := RX11) (T := TX11) (N := 29) hx hb hts inG11 hown hK hP 0 rfl rfl 25 (Nat.le_of_ble_eq_true rfl) (hts _ q1066) (fun _ h9 => h9) rfl dX11_takes_269 ?_
            refine lv_isub hx hb dX11_takes_272 ?_
            refine lv_bipush (v := 6) hx hb dX11_takes_273 (by decide) ?_
            have J42 : wG p l e 1 21 s m [.ref ad_t] below meth cd H locs (eQ G A (fun r w => r = none ∧ w = [(ad_t, .inr (11, [.ref ad_t_all, .ref ad_t_tape, .ref ad_t_isImage, .int (o.1 3), .int (o.1 4), .int (o.1 5), .int (o.1 6), .ref ad_t_size, .ref ad_t_givenRow, .ref ad_t_givenColumn, .ref ad_t_newRow, .int (o.1 11), .int (o.1 12), .int (o.1 13), .int (o.1 14), .int (o.1 15), .int (o.1 16), .int (o.1 17), .int (o.1 18), .int (o.1 19), .ref ad_t_view, .int (o.1 21), .int (o.1 22), .int (o.1 23), .int (o.1 24), .int (o.1 25), .long o.2, .int (o.1 27), .int (o.1 28)])), (ad_t_tape, .inl (G.2.1 0, 300, .inl t_tape))])) A (F0 m 283 ls [.int (if ((y41.1 23) - (y41.1 25)) ≤ (6 : Int32) then (2 : Int32) else (4 : Int32)), .ref ad_t]) := by
              refine va_put (D := G.1) (cl := vwCl) (ci := 11) (v := .int (if ((y41.1 23) - (y41.1 25)) ≤ (6 : Int32) then (2 : Int32) else (4 : Int32))) (ty := .int) (C := RX11) (T := TX11) (N := 29) hx hb hts inG11 tyX11 tyX11_ok nmX11 hown hK hP hD hS 0 rfl rfl 24 (Nat.le_of_ble_eq_true rfl) (hts _ q1065) (fun _ h9 => h9) rfl (tyX11_ok 24 (Nat.le_of_ble_eq_true rfl)) rfl rfl (Nat.le_of_ble_eq_true rfl) dX11_takes_283 (fun H locs hP hD hS => ?_)
              have hP : va_P G.1 vwCl [(ad_t, .inr (11, [.ref ad_t_all, .ref ad_t_tape, .ref ad_t_isImage, .int (y41.1 3), .int (y41.1 4), .int (y41.1 5), .int (y41.1 6), .ref ad_t_size, .ref ad_t_givenRow, .ref ad_t_givenColumn, .ref ad_t_newRow, .int (y41.1 11), .int (y41.1 12), .int (y41.1 13), .int (y41.1 14), .int (y41.1 15), .int (y41.1 16), .int (y41.1 17), .int (y41.1 18), .int (y41.1 19), .ref ad_t_view, .int (y41.1 21), .int (y41.1 22), .int (y41.1 23), .int (if ((y41.1 23) - (y41.1 25)) ≤ (6 : Int32) then (2 : Int32) else (4 : Int32)), .int (y41.1 25), .long y41.2, .int (y41.1 27), .int (y41.1 28)])), (ad_t_tape, .inl (G.2.1 0, 300, .inl t_tape))] H := hP
              have hD : va_D A [(ad_t, .inr (11, [.ref ad_t_all, .ref ad_t_tape, .ref ad_t_isImage, .int (y41.1 3), .int (y41.1 4), .int (y41.1 5), .int (y41.1 6), .ref ad_t_size, .ref ad_t_givenRow, .ref ad_t_givenColumn, .ref ad_t_newRow, .int (y41.1 11), .int (y41.1 12), .int (y41.1 13), .int (y41.1 14), .int (y41.1 15), .int (y41.1 16), .int (y41.1 17), .int (y41.1 18), .int (y41.1 19), .ref ad_t_view, .int (y41.1 21), .int (y41.1 22), .int (y41.1 23), .int (if ((y41.1 23) - (y41.1 25)) ≤ (6 : Int32) then (2 : Int32) else (4 : Int32)), .int (y41.1 25), .long y41.2, .int (y41.1 27), .int (y41.1 28)])), (ad_t_tape, .inl (G.2.1 0, 300, .inl t_tape))] := hD
              refine lv_goto (tgt := 314) hx hb dX11_takes_286 (by decide) ?_
              have hf := Option.some.inj hf
              subst hf
              exact eRetV hx hb hr hlocks hP hD hS ⟨rfl, rfl⟩ dX11_takes_314
            refine lv_icmp_le (tgt := 282) hx hb dX11_takes_275 (by decide) (fun c43 => ?_) (fun c43 => ?_)
            · refine lv_iconst (v := 2) hx hb dX11_takes_282 (by decide) ?_
              exact (mgT c43 J42)
            · refine lv_iconst (v := 4) hx hb dX11_takes_278 (by decide) ?_
              refine lv_goto (tgt := 283) hx hb dX11_takes_279 (by decide) ?_
              exact (mgF c43 J42)
          have Ly41 : ∀ (n : Nat), ∀ (g44 : Nat → Int32) (g45 : Int64) (H : Heap) (locs : List Loc) (ls : Array Slot), lv_has ls 2 [(0, .ref ad_t)] → va_P G.1 vwCl [(ad_t, .inr (11, [.ref ad_t_all, .ref ad_t_tape, .ref ad_t_isImage, .int (g44 3), .int (g44 4), .int (g44 5), .int (g44 6), .ref ad_t_size, .ref ad_t_givenRow, .ref ad_t_givenColumn, .ref ad_t_newRow, .int (g44 11), .int (g44 12), .int (g44 13), .int (g44 14), .int (g44 15), .int (g44 16), .int (g44 17), .int (g44 18), .int (g44 19), .ref ad_t_view, .int (g44 21), .int (g44 22), .int (g44 23), .int (g44 24), .int (g44 25), .long g45, .int (g44 27), .int (g44 28)])), (ad_t_tape, .inl (G.2.1 0, 300, .inl t_tape))] H → va_D A [(ad_t, .inr (11, [.ref ad_t_all, .ref ad_t_tape, .ref ad_t_isImage, .int (g44 3), .int (g44 4), .int (g44 5), .int (g44 6), .ref ad_t_size, .ref ad_t_givenRow, .ref ad_t_givenColumn, .ref ad_t_newRow, .int (g44 11), .int (g44 12), .int (g44 13), .int (g44 14), .int (g44 15), .int (g44 16), .int (g44 17), .int (g44 18), .int (g44 19), .ref ad_t_view, .int (g44 21), .int (g44 22), .int (g44 23), .int (g44 24), .int (g44 25), .long g45, .int (g44 27), .int (g44 28)])), (ad_t_tape, .inl (G.2.1 0, 300, .inl t_tape))] → va_S A s.heap H locs → fX11_takes_l189 t_tape n g44 g45 = some y41 → wG p l e 1 21 s m [.ref ad_t] below meth cd H locs (eQ G A (fun r w => r = none ∧ w = [(ad_t, .inr (11, [.ref ad_t_all, .ref ad_t_tape, .ref ad_t_isImage, .int (o.1 3), .int (o.1 4), .int (o.1 5), .int (o.1 6), .ref ad_t_size, .ref ad_t_givenRow, .ref ad_t_givenColumn, .ref ad_t_newRow, .int (o.1 11), .int (o.1 12), .int (o.1 13), .int (o.1 14), .int (o.1 15), .int (o.1 16), .int (o.1 17), .int (o.1 18), .int (o.1 19), .ref ad_t_view, .int (o.1 21), .int (o.1 22), .int (o.1 23), .int (o.1 24), .int (o.1 25), .long o.2, .int (o.1 27), .int (o.1 28)])), (ad_t_tape, .inl (G.2.1 0, 300, .inl t_tape))])) A (F0 m 189 ls []) := by
            intro n
            induction n with
            | zero =>
              intro g44 g45 H locs ls hl hP hD hS hf
              rw [fX11_takes_l189] at hf
              cases hf
            | succ n ih =>
              intro g44 g45 H locs ls hl hP hD hS hf
              rw [fX11_takes_l189] at hf
              refine lv_aload_n hx hb dX11_takes_189 rfl (lv_at hl 0 rfl) ?_
              refine lv_aload_n hx hb dX11_takes_190 rfl (lv_at hl 0 rfl) ?_
              refine va_get (D := G.1) (cl := vwCl) (ci := 11) (v := .int (g44 23)) (C := RX11) (T := TX11) (N := 29) hx hb hts inG11 hown hK hP 0 rfl rfl 23 (Nat.le_of_ble_eq_true rfl) (hts _ q1064) (fun _ h9 => h9) rfl dX11_takes_191 ?_
              obtain ⟨a46, h47, hf⟩ := bn_some hf
              refine kPV (tX11_byteAt l G ad_t ad_t_all ad_t_tape ad_t_isImage ad_t_size ad_t_givenRow ad_t_givenColumn ad_t_newRow ad_t_view g44 g45 t_tape (g44 23) a46 h47) ⟨hx, hb, hml, hown, hts⟩ q1443 q1445 q84 q108 q1446 okyX11_byteAt ⟨Nat.le_of_ble_eq_true rfl, Nat.le_of_ble_eq_true rfl⟩ hP hG hS [0, 1] rfl 0 rfl rfl hl.1 rfl (Nat.le_of_ble_eq_true rfl) dX11_takes_194 ⟨Nat.zero_le _, Nat.zero_le _⟩ (fun locs hS => ?_)
              refine W.eq (g2 := F0 m 197 ls [.int a46]) rfl ?_
              refine kPS (tX11_isDigit l G a46 _ rfl) ⟨hx, hb, hml, hown, hts⟩ q1451 q1452 q108 q1453 okyX11_isDigit ⟨Nat.le_of_ble_eq_true rfl, Nat.le_of_ble_eq_true rfl⟩ hP hG hS [] rfl hl.1 rfl (Nat.le_of_ble_eq_true rfl) dX11_takes_197 ⟨Nat.zero_le _, Nat.zero_le _⟩ (fun locs hS => ?_)
              refine W.eq (g2 := F0 m 200 ls [.int (bi (fX11_isDigit a46))]) rfl ?_
              refine lv_if_eq (tgt := 263) hx hb dX11_takes_200 (by decide) (fun c48 => ?_) (fun c48 => ?_)
              · have hf := if_t hf c48
                have hf := Option.some.inj hf
                subst hf
                exact Ey41  H locs ls (lv_sub hl [0] rfl) hP hD hS 
              · have hf := if_f hf c48
                refine lv_aload_n hx hb dX11_takes_203 rfl (lv_at hl 0 rfl) ?_
                refine lv_aload_n hx hb dX11_takes_204 rfl (lv_at hl 0 rfl) ?_
                refine va_get (D := G.1) (cl := vwCl) (ci := 11) (v := .int (g44 23)) (C := RX11) (T := TX11) (N := 29) hx hb hts inG11 hown hK hP 0 rfl rfl 23 (Nat.le_of_ble_eq_true rfl) (hts _ q1064) (fun _ h9 => h9) rfl dX11_takes_205 ?_
                refine lv_aload_n hx hb dX11_takes_208 rfl (lv_at hl 0 rfl) ?_
                refine va_get (D := G.1) (cl := vwCl) (ci := 11) (v := .int (g44 25)) (C := RX11) (T := TX11) (N := 29) hx hb hts inG11 hown hK hP 0 rfl rfl 25 (Nat.le_of_ble_eq_true rfl) (hts _ q1066) (fun _ h9 => h9) rfl dX11_takes_209 ?_
                refine lv_isub hx hb dX11_takes_212 ?_
                refine lv_bipush (v := 6) hx hb dX11_takes_213 (by decide) ?_
                refine lv_icmp_ge (tgt := 243) hx hb dX11_takes_215 (by decide) (fun c49 => ?_) (fun c49 => ?_)
                · have hf := if_t hf c49
                  refine lv_aload_n hx hb dX11_takes_243 rfl (lv_at hl 0 rfl) ?_
                  refine va_get (D := G.1) (cl := vwCl) (ci := 11) (v := .long g45) (C := RX11) (T := TX11) (N := 29) hx hb hts inG11 hown hK hP 0 rfl rfl 26 (Nat.le_of_ble_eq_true rfl) (hts _ q1067) (fun _ h9 => h9) rfl dX11_takes_244 ?_
                  refine va_put (D := G.1) (cl := vwCl) (ci := 11) (v := .long g45) (ty := .long) (C := RX11) (T := TX11) (N := 29) hx hb hts inG11 tyX11 tyX11_ok nmX11 hown hK hP hD hS 0 rfl rfl 26 (Nat.le_of_ble_eq_true rfl) (hts _ q1067) (fun _ h9 => h9) rfl (tyX11_ok 26 (Nat.le_of_ble_eq_true rfl)) rfl rfl (Nat.le_of_ble_eq_true rfl) dX11_takes_247 (fun H locs hP hD hS => ?_)
                  have hP : va_P G.1 vwCl [(ad_t, .inr (11, [.ref ad_t_all, .ref ad_t_tape, .ref ad_t_isImage, .int (g44 3), .int (g44 4), .int (g44 5), .int (g44 6), .ref ad_t_size, .ref ad_t_givenRow, .ref ad_t_givenColumn, .ref ad_t_newRow, .int (g44 11), .int (g44 12), .int (g44 13), .int (g44 14), .int (g44 15), .int (g44 16), .int (g44 17), .int (g44 18), .int (g44 19), .ref ad_t_view, .int (g44 21), .int (g44 22), .int (g44 23), .int (g44 24), .int (g44 25), .long g45, .int (g44 27), .int (g44 28)])), (ad_t_tape, .inl (G.2.1 0, 300, .inl t_tape))] H := hP
                  have hD : va_D A [(ad_t, .inr (11, [.ref ad_t_all, .ref ad_t_tape, .ref ad_t_isImage, .int (g44 3), .int (g44 4), .int (g44 5), .int (g44 6), .ref ad_t_size, .ref ad_t_givenRow, .ref ad_t_givenColumn, .ref ad_t_newRow, .int (g44 11), .int (g44 12), .int (g44 13), .int (g44 14), .int (g44 15), .int (g44 16), .int (g44 17), .int (g44 18), .int (g44 19), .ref ad_t_view, .int (g44 21), .int (g44 22), .int (g44 23), .int (g44 24), .int (g44 25), .long g45, .int (g44 27), .int (g44 28)])), (ad_t_tape, .inl (G.2.1 0, 300, .inl t_tape))] := hD
                  refine lv_aload_n hx hb dX11_takes_250 rfl (lv_at hl 0 rfl) ?_
                  refine lv_dup hx hb dX11_takes_251 rfl ?_
                  refine va_get (D := G.1) (cl := vwCl) (ci := 11) (v := .int (g44 23)) (C := RX11) (T := TX11) (N := 29) hx hb hts inG11 hown hK hP 0 rfl rfl 23 (Nat.le_of_ble_eq_true rfl) (hts _ q1064) (fun _ h9 => h9) rfl dX11_takes_252 ?_
                  refine lv_iconst (v := 1) hx hb dX11_takes_255 (by decide) ?_
                  refine lv_iadd hx hb dX11_takes_256 ?_
                  refine va_put (D := G.1) (cl := vwCl) (ci := 11) (v := .int ((g44 23) + (1 : Int32))) (ty := .int) (C := RX11) (T := TX11) (N := 29) hx hb hts inG11 tyX11 tyX11_ok nmX11 hown hK hP hD hS 0 rfl rfl 23 (Nat.le_of_ble_eq_true rfl) (hts _ q1064) (fun _ h9 => h9) rfl (tyX11_ok 23 (Nat.le_of_ble_eq_true rfl)) rfl rfl (Nat.le_of_ble_eq_true rfl) dX11_takes_257 (fun H locs hP hD hS => ?_)
                  have hP : va_P G.1 vwCl [(ad_t, .inr (11, [.ref ad_t_all, .ref ad_t_tape, .ref ad_t_isImage, .int (g44 3), .int (g44 4), .int (g44 5), .int (g44 6), .ref ad_t_size, .ref ad_t_givenRow, .ref ad_t_givenColumn, .ref ad_t_newRow, .int (g44 11), .int (g44 12), .int (g44 13), .int (g44 14), .int (g44 15), .int (g44 16), .int (g44 17), .int (g44 18), .int (g44 19), .ref ad_t_view, .int (g44 21), .int (g44 22), .int ((g44 23) + (1 : Int32)), .int (g44 24), .int (g44 25), .long g45, .int (g44 27), .int (g44 28)])), (ad_t_tape, .inl (G.2.1 0, 300, .inl t_tape))] H := hP
                  have hD : va_D A [(ad_t, .inr (11, [.ref ad_t_all, .ref ad_t_tape, .ref ad_t_isImage, .int (g44 3), .int (g44 4), .int (g44 5), .int (g44 6), .ref ad_t_size, .ref ad_t_givenRow, .ref ad_t_givenColumn, .ref ad_t_newRow, .int (g44 11), .int (g44 12), .int (g44 13), .int (g44 14), .int (g44 15), .int (g44 16), .int (g44 17), .int (g44 18), .int (g44 19), .ref ad_t_view, .int (g44 21), .int (g44 22), .int ((g44 23) + (1 : Int32)), .int (g44 24), .int (g44 25), .long g45, .int (g44 27), .int (g44 28)])), (ad_t_tape, .inl (G.2.1 0, 300, .inl t_tape))] := hD
                  refine lv_goto (tgt := 189) hx hb dX11_takes_260 (by decide) ?_
                  exact ih (upd g44 23 ((g44 23) + (1 : Int32))) g45 H locs ls (lv_sub hl [0] rfl) hP hD hS hf
                · have hf := if_f hf c49
                  refine lv_ldc2 (v := (10 : Int64)) hx hb hown (hts _ q1454) dX11_takes_218 ?_
                  refine lv_aload_n hx hb dX11_takes_221 rfl (lv_at hl 0 rfl) ?_
                  refine va_get (D := G.1) (cl := vwCl) (ci := 11) (v := .long g45) (C := RX11) (T := TX11) (N := 29) hx hb hts inG11 hown hK hP 0 rfl rfl 26 (Nat.le_of_ble_eq_true rfl) (hts _ q1067) (fun _ h9 => h9) rfl dX11_takes_222 ?_
                  refine lv_lmul hx hb dX11_takes_225 ?_
                  refine lv_aload_n hx hb dX11_takes_226 rfl (lv_at hl 0 rfl) ?_
                  refine lv_aload_n hx hb dX11_takes_227 rfl (lv_at hl 0 rfl) ?_
                  refine va_get (D := G.1) (cl := vwCl) (ci := 11) (v := .int (g44 23)) (C := RX11) (T := TX11) (N := 29) hx hb hts inG11 hown hK hP 0 rfl rfl 23 (Nat.le_of_ble_eq_true rfl) (hts _ q1064) (fun _ h9 => h9) rfl dX11_takes_228 ?_
                  obtain ⟨a50, h51, hf⟩ := bn_some hf
                  refine kPV (tX11_byteAt l G ad_t ad_t_all ad_t_tape ad_t_isImage ad_t_size ad_t_givenRow ad_t_givenColumn ad_t_newRow ad_t_view g44 g45 t_tape (g44 23) a50 h51) ⟨hx, hb, hml, hown, hts⟩ q1443 q1445 q84 q108 q1446 okyX11_byteAt ⟨Nat.le_of_ble_eq_true rfl, Nat.le_of_ble_eq_true rfl⟩ hP hG hS [0, 1] rfl 0 rfl rfl hl.1 rfl (Nat.le_of_ble_eq_true rfl) dX11_takes_231 ⟨Nat.zero_le _, Nat.zero_le _⟩ (fun locs hS => ?_)
                  refine W.eq (g2 := F0 m 234 ls [.int a50, .long ((10 : Int64) * g45), .ref ad_t]) rfl ?_
                  refine lv_i2l (v := (a50.toInt64)) hx hb dX11_takes_234 rfl ?_
                  refine lv_ladd hx hb dX11_takes_235 ?_
                  refine lv_ldc2 (v := (48 : Int64)) hx hb hown (hts _ q1455) dX11_takes_236 ?_
                  refine lv_lsub hx hb dX11_takes_239 ?_
                  refine lv_goto (tgt := 247) hx hb dX11_takes_240 (by decide) ?_
                  refine va_put (D := G.1) (cl := vwCl) (ci := 11) (v := .long ((((10 : Int64) * g45) + (a50.toInt64)) - (48 : Int64))) (ty := .long) (C := RX11) (T := TX11) (N := 29) hx hb hts inG11 tyX11 tyX11_ok nmX11 hown hK hP hD hS 0 rfl rfl 26 (Nat.le_of_ble_eq_true rfl) (hts _ q1067) (fun _ h9 => h9) rfl (tyX11_ok 26 (Nat.le_of_ble_eq_true rfl)) rfl rfl (Nat.le_of_ble_eq_true rfl) dX11_takes_247 (fun H locs hP hD hS => ?_)
                  have hP : va_P G.1 vwCl [(ad_t, .inr (11, [.ref ad_t_all, .ref ad_t_tape, .ref ad_t_isImage, .int (g44 3), .int (g44 4), .int (g44 5), .int (g44 6), .ref ad_t_size, .ref ad_t_givenRow, .ref ad_t_givenColumn, .ref ad_t_newRow, .int (g44 11), .int (g44 12), .int (g44 13), .int (g44 14), .int (g44 15), .int (g44 16), .int (g44 17), .int (g44 18), .int (g44 19), .ref ad_t_view, .int (g44 21), .int (g44 22), .int (g44 23), .int (g44 24), .int (g44 25), .long ((((10 : Int64) * g45) + (a50.toInt64)) - (48 : Int64)), .int (g44 27), .int (g44 28)])), (ad_t_tape, .inl (G.2.1 0, 300, .inl t_tape))] H := hP
                  have hD : va_D A [(ad_t, .inr (11, [.ref ad_t_all, .ref ad_t_tape, .ref ad_t_isImage, .int (g44 3), .int (g44 4), .int (g44 5), .int (g44 6), .ref ad_t_size, .ref ad_t_givenRow, .ref ad_t_givenColumn, .ref ad_t_newRow, .int (g44 11), .int (g44 12), .int (g44 13), .int (g44 14), .int (g44 15), .int (g44 16), .int (g44 17), .int (g44 18), .int (g44 19), .ref ad_t_view, .int (g44 21), .int (g44 22), .int (g44 23), .int (g44 24), .int (g44 25), .long ((((10 : Int64) * g45) + (a50.toInt64)) - (48 : Int64)), .int (g44 27), .int (g44 28)])), (ad_t_tape, .inl (G.2.1 0, 300, .inl t_tape))] := hD
                  refine lv_aload_n hx hb dX11_takes_250 rfl (lv_at hl 0 rfl) ?_
                  refine lv_dup hx hb dX11_takes_251 rfl ?_
                  refine va_get (D := G.1) (cl := vwCl) (ci := 11) (v := .int (g44 23)) (C := RX11) (T := TX11) (N := 29) hx hb hts inG11 hown hK hP 0 rfl rfl 23 (Nat.le_of_ble_eq_true rfl) (hts _ q1064) (fun _ h9 => h9) rfl dX11_takes_252 ?_
                  refine lv_iconst (v := 1) hx hb dX11_takes_255 (by decide) ?_
                  refine lv_iadd hx hb dX11_takes_256 ?_
                  refine va_put (D := G.1) (cl := vwCl) (ci := 11) (v := .int ((g44 23) + (1 : Int32))) (ty := .int) (C := RX11) (T := TX11) (N := 29) hx hb hts inG11 tyX11 tyX11_ok nmX11 hown hK hP hD hS 0 rfl rfl 23 (Nat.le_of_ble_eq_true rfl) (hts _ q1064) (fun _ h9 => h9) rfl (tyX11_ok 23 (Nat.le_of_ble_eq_true rfl)) rfl rfl (Nat.le_of_ble_eq_true rfl) dX11_takes_257 (fun H locs hP hD hS => ?_)
                  have hP : va_P G.1 vwCl [(ad_t, .inr (11, [.ref ad_t_all, .ref ad_t_tape, .ref ad_t_isImage, .int (g44 3), .int (g44 4), .int (g44 5), .int (g44 6), .ref ad_t_size, .ref ad_t_givenRow, .ref ad_t_givenColumn, .ref ad_t_newRow, .int (g44 11), .int (g44 12), .int (g44 13), .int (g44 14), .int (g44 15), .int (g44 16), .int (g44 17), .int (g44 18), .int (g44 19), .ref ad_t_view, .int (g44 21), .int (g44 22), .int ((g44 23) + (1 : Int32)), .int (g44 24), .int (g44 25), .long ((((10 : Int64) * g45) + (a50.toInt64)) - (48 : Int64)), .int (g44 27), .int (g44 28)])), (ad_t_tape, .inl (G.2.1 0, 300, .inl t_tape))] H := hP
                  have hD : va_D A [(ad_t, .inr (11, [.ref ad_t_all, .ref ad_t_tape, .ref ad_t_isImage, .int (g44 3), .int (g44 4), .int (g44 5), .int (g44 6), .ref ad_t_size, .ref ad_t_givenRow, .ref ad_t_givenColumn, .ref ad_t_newRow, .int (g44 11), .int (g44 12), .int (g44 13), .int (g44 14), .int (g44 15), .int (g44 16), .int (g44 17), .int (g44 18), .int (g44 19), .ref ad_t_view, .int (g44 21), .int (g44 22), .int ((g44 23) + (1 : Int32)), .int (g44 24), .int (g44 25), .long ((((10 : Int64) * g45) + (a50.toInt64)) - (48 : Int64)), .int (g44 27), .int (g44 28)])), (ad_t_tape, .inl (G.2.1 0, 300, .inl t_tape))] := hD
                  refine lv_goto (tgt := 189) hx hb dX11_takes_260 (by decide) ?_
                  exact ih (upd g44 23 ((g44 23) + (1 : Int32))) ((((10 : Int64) * g45) + (a50.toInt64)) - (48 : Int64)) H locs ls (lv_sub hl [0] rfl) hP hD hS hf
          exact Ly41 FU (upd y33 25 (y33 23)) (0 : Int64) H locs ls (lv_sub hl [1] rfl) hP hD hS hLy41
      · have hf := if_f hf c37
        obtain ⟨y52, hLy52, hky52⟩ := bn_some hf
        have Ey52 : ∀  (H : Heap) (locs : List Loc) (ls : Array Slot), lv_has ls 2 [(0, .ref ad_t)] → va_P G.1 vwCl [(ad_t, .inr (11, [.ref ad_t_all, .ref ad_t_tape, .ref ad_t_isImage, .int (y52.1 3), .int (y52.1 4), .int (y52.1 5), .int (y52.1 6), .ref ad_t_size, .ref ad_t_givenRow, .ref ad_t_givenColumn, .ref ad_t_newRow, .int (y52.1 11), .int (y52.1 12), .int (y52.1 13), .int (y52.1 14), .int (y52.1 15), .int (y52.1 16), .int (y52.1 17), .int (y52.1 18), .int (y52.1 19), .ref ad_t_view, .int (y52.1 21), .int (y52.1 22), .int (y52.1 23), .int (y52.1 24), .int (y52.1 25), .long y52.2, .int (y52.1 27), .int (y52.1 28)])), (ad_t_tape, .inl (G.2.1 0, 300, .inl t_tape))] H → va_D A [(ad_t, .inr (11, [.ref ad_t_all, .ref ad_t_tape, .ref ad_t_isImage, .int (y52.1 3), .int (y52.1 4), .int (y52.1 5), .int (y52.1 6), .ref ad_t_size, .ref ad_t_givenRow, .ref ad_t_givenColumn, .ref ad_t_newRow, .int (y52.1 11), .int (y52.1 12), .int (y52.1 13), .int (y52.1 14), .int (y52.1 15), .int (y52.1 16), .int (y52.1 17), .int (y52.1 18), .int (y52.1 19), .ref ad_t_view, .int (y52.1 21), .int (y52.1 22), .int (y52.1 23), .int (y52.1 24), .int (y52.1 25), .long y52.2, .int (y52.1 27), .int (y52.1 28)])), (ad_t_tape, .inl (G.2.1 0, 300, .inl t_tape))] → va_S A s.heap H locs → wG p l e 1 21 s m [.ref ad_t] below meth cd H locs (eQ G A (fun r w => r = none ∧ w = [(ad_t, .inr (11, [.ref ad_t_all, .ref ad_t_tape, .ref ad_t_isImage, .int (o.1 3), .int (o.1 4), .int (o.1 5), .int (o.1 6), .ref ad_t_size, .ref ad_t_givenRow, .ref ad_t_givenColumn, .ref ad_t_newRow, .int (o.1 11), .int (o.1 12), .int (o.1 13), .int (o.1 14), .int (o.1 15), .int (o.1 16), .int (o.1 17), .int (o.1 18), .int (o.1 19), .ref ad_t_view, .int (o.1 21), .int (o.1 22), .int (o.1 23), .int (o.1 24), .int (o.1 25), .long o.2, .int (o.1 27), .int (o.1 28)])), (ad_t_tape, .inl (G.2.1 0, 300, .inl t_tape))])) A (F0 m 156 ls []) := by
          intro  H locs ls hl hP hD hS
          have hf := hky52
          refine lv_aload_n hx hb dX11_takes_156 rfl (lv_at hl 0 rfl) ?_
          refine lv_aload_n hx hb dX11_takes_157 rfl (lv_at hl 0 rfl) ?_
          refine va_get (D := G.1) (cl := vwCl) (ci := 11) (v := .int (y52.1 23)) (C := RX11) (T := TX11) (N := 29) hx hb hts inG11 hown hK hP 0 rfl rfl 23 (Nat.le_of_ble_eq_true rfl) (hts _ q1064) (fun _ h9 => h9) rfl dX11_takes_158 ?_
          refine lv_aload_n hx hb dX11_takes_161 rfl (lv_at hl 0 rfl) ?_
          refine va_get (D := G.1) (cl := vwCl) (ci := 11) (v := .int (y52.1 25)) (C := RX11) (T := TX11) (N := 29) hx hb hts inG11 hown hK hP 0 rfl rfl 25 (Nat.le_of_ble_eq_true rfl) (hts _ q1066) (fun _ h9 => h9) rfl dX11_takes_162 ?_
          refine lv_isub hx hb dX11_takes_165 ?_
          refine lv_bipush (v := 8) hx hb dX11_takes_166 (by decide) ?_
          have J53 : wG p l e 1 21 s m [.ref ad_t] below meth cd H locs (eQ G A (fun r w => r = none ∧ w = [(ad_t, .inr (11, [.ref ad_t_all, .ref ad_t_tape, .ref ad_t_isImage, .int (o.1 3), .int (o.1 4), .int (o.1 5), .int (o.1 6), .ref ad_t_size, .ref ad_t_givenRow, .ref ad_t_givenColumn, .ref ad_t_newRow, .int (o.1 11), .int (o.1 12), .int (o.1 13), .int (o.1 14), .int (o.1 15), .int (o.1 16), .int (o.1 17), .int (o.1 18), .int (o.1 19), .ref ad_t_view, .int (o.1 21), .int (o.1 22), .int (o.1 23), .int (o.1 24), .int (o.1 25), .long o.2, .int (o.1 27), .int (o.1 28)])), (ad_t_tape, .inl (G.2.1 0, 300, .inl t_tape))])) A (F0 m 176 ls [.int (if ((y52.1 23) - (y52.1 25)) ≤ (8 : Int32) then (1 : Int32) else (4 : Int32)), .ref ad_t]) := by
            refine va_put (D := G.1) (cl := vwCl) (ci := 11) (v := .int (if ((y52.1 23) - (y52.1 25)) ≤ (8 : Int32) then (1 : Int32) else (4 : Int32))) (ty := .int) (C := RX11) (T := TX11) (N := 29) hx hb hts inG11 tyX11 tyX11_ok nmX11 hown hK hP hD hS 0 rfl rfl 24 (Nat.le_of_ble_eq_true rfl) (hts _ q1065) (fun _ h9 => h9) rfl (tyX11_ok 24 (Nat.le_of_ble_eq_true rfl)) rfl rfl (Nat.le_of_ble_eq_true rfl) dX11_takes_176 (fun H locs hP hD hS => ?_)
            have hP : va_P G.1 vwCl [(ad_t, .inr (11, [.ref ad_t_all, .ref ad_t_tape, .ref ad_t_isImage, .int (y52.1 3), .int (y52.1 4), .int (y52.1 5), .int (y52.1 6), .ref ad_t_size, .ref ad_t_givenRow, .ref ad_t_givenColumn, .ref ad_t_newRow, .int (y52.1 11), .int (y52.1 12), .int (y52.1 13), .int (y52.1 14), .int (y52.1 15), .int (y52.1 16), .int (y52.1 17), .int (y52.1 18), .int (y52.1 19), .ref ad_t_view, .int (y52.1 21), .int (y52.1 22), .int (y52.1 23), .int (if ((y52.1 23) - (y52.1 25)) ≤ (8 : Int32) then (1 : Int32) else (4 : Int32)), .int (y52.1 25), .long y52.2, .int (y52.1 27), .int (y52.1 28)])), (ad_t_tape, .inl (G.2.1 0, 300, .inl t_tape))] H := hP
            have hD : va_D A [(ad_t, .inr (11, [.ref ad_t_all, .ref ad_t_tape, .ref ad_t_isImage, .int (y52.1 3), .int (y52.1 4), .int (y52.1 5), .int (y52.1 6), .ref ad_t_size, .ref ad_t_givenRow, .ref ad_t_givenColumn, .ref ad_t_newRow, .int (y52.1 11), .int (y52.1 12), .int (y52.1 13), .int (y52.1 14), .int (y52.1 15), .int (y52.1 16), .int (y52.1 17), .int (y52.1 18), .int (y52.1 19), .ref ad_t_view, .int (y52.1 21), .int (y52.1 22), .int (y52.1 23), .int (if ((y52.1 23) - (y52.1 25)) ≤ (8 : Int32) then (1 : Int32) else (4 : Int32)), .int (y52.1 25), .long y52.2, .int (y52.1 27), .int (y52.1 28)])), (ad_t_tape, .inl (G.2.1 0, 300, .inl t_tape))] := hD
            refine lv_goto (tgt := 314) hx hb dX11_takes_179 (by decide) ?_
            have hf := Option.some.inj hf
            subst hf
            exact eRetV hx hb hr hlocks hP hD hS ⟨rfl, rfl⟩ dX11_takes_314
          refine lv_icmp_le (tgt := 175) hx hb dX11_takes_168 (by decide) (fun c54 => ?_) (fun c54 => ?_)
          · refine lv_iconst (v := 1) hx hb dX11_takes_175 (by decide) ?_
            exact (mgT c54 J53)
          · refine lv_iconst (v := 4) hx hb dX11_takes_171 (by decide) ?_
            refine lv_goto (tgt := 176) hx hb dX11_takes_172 (by decide) ?_
            exact (mgF c54 J53)
        have Ly52 : ∀ (n : Nat), ∀ (g55 : Nat → Int32) (g56 : Int64) (H : Heap) (locs : List Loc) (ls : Array Slot), lv_has ls 2 [(0, .ref ad_t)] → va_P G.1 vwCl [(ad_t, .inr (11, [.ref ad_t_all, .ref ad_t_tape, .ref ad_t_isImage, .int (g55 3), .int (g55 4), .int (g55 5), .int (g55 6), .ref ad_t_size, .ref ad_t_givenRow, .ref ad_t_givenColumn, .ref ad_t_newRow, .int (g55 11), .int (g55 12), .int (g55 13), .int (g55 14), .int (g55 15), .int (g55 16), .int (g55 17), .int (g55 18), .int (g55 19), .ref ad_t_view, .int (g55 21), .int (g55 22), .int (g55 23), .int (g55 24), .int (g55 25), .long g56, .int (g55 27), .int (g55 28)])), (ad_t_tape, .inl (G.2.1 0, 300, .inl t_tape))] H → va_D A [(ad_t, .inr (11, [.ref ad_t_all, .ref ad_t_tape, .ref ad_t_isImage, .int (g55 3), .int (g55 4), .int (g55 5), .int (g55 6), .ref ad_t_size, .ref ad_t_givenRow, .ref ad_t_givenColumn, .ref ad_t_newRow, .int (g55 11), .int (g55 12), .int (g55 13), .int (g55 14), .int (g55 15), .int (g55 16), .int (g55 17), .int (g55 18), .int (g55 19), .ref ad_t_view, .int (g55 21), .int (g55 22), .int (g55 23), .int (g55 24), .int (g55 25), .long g56, .int (g55 27), .int (g55 28)])), (ad_t_tape, .inl (G.2.1 0, 300, .inl t_tape))] → va_S A s.heap H locs → fX11_takes_l80 t_tape n g55 g56 = some y52 → wG p l e 1 21 s m [.ref ad_t] below meth cd H locs (eQ G A (fun r w => r = none ∧ w = [(ad_t, .inr (11, [.ref ad_t_all, .ref ad_t_tape, .ref ad_t_isImage, .int (o.1 3), .int (o.1 4), .int (o.1 5), .int (o.1 6), .ref ad_t_size, .ref ad_t_givenRow, .ref ad_t_givenColumn, .ref ad_t_newRow, .int (o.1 11), .int (o.1 12), .int (o.1 13), .int (o.1 14), .int (o.1 15), .int (o.1 16), .int (o.1 17), .int (o.1 18), .int (o.1 19), .ref ad_t_view, .int (o.1 21), .int (o.1 22), .int (o.1 23), .int (o.1 24), .int (o.1 25), .long o.2, .int (o.1 27), .int (o.1 28)])), (ad_t_tape, .inl (G.2.1 0, 300, .inl t_tape))])) A (F0 m 80 ls []) := by
          intro n
          induction n with
          | zero =>
            intro g55 g56 H locs ls hl hP hD hS hf
            rw [fX11_takes_l80] at hf
            cases hf
          | succ n ih =>
            intro g55 g56 H locs ls hl hP hD hS hf
            rw [fX11_takes_l80] at hf
            refine lv_aload_n hx hb dX11_takes_80 rfl (lv_at hl 0 rfl) ?_
            refine lv_aload_n hx hb dX11_takes_81 rfl (lv_at hl 0 rfl) ?_
            refine va_get (D := G.1) (cl := vwCl) (ci := 11) (v := .int (g55 23)) (C := RX11) (T := TX11) (N := 29) hx hb hts inG11 hown hK hP 0 rfl rfl 23 (Nat.le_of_ble_eq_true rfl) (hts _ q1064) (fun _ h9 => h9) rfl dX11_takes_82 ?_
            obtain ⟨a57, h58, hf⟩ := bn_some hf
            refine kPV (tX11_byteAt l G ad_t ad_t_all ad_t_tape ad_t_isImage ad_t_size ad_t_givenRow ad_t_givenColumn ad_t_newRow ad_t_view g55 g56 t_tape (g55 23) a57 h58) ⟨hx, hb, hml, hown, hts⟩ q1443 q1445 q84 q108 q1446 okyX11_byteAt ⟨Nat.le_of_ble_eq_true rfl, Nat.le_of_ble_eq_true rfl⟩ hP hG hS [0, 1] rfl 0 rfl rfl hl.1 rfl (Nat.le_of_ble_eq_true rfl) dX11_takes_85 ⟨Nat.zero_le _, Nat.zero_le _⟩ (fun locs hS => ?_)
            refine W.eq (g2 := F0 m 88 ls [.int a57]) rfl ?_
            refine kPS (tX11_isLetter l G a57 _ rfl) ⟨hx, hb, hml, hown, hts⟩ q1447 q1448 q108 q1449 okyX11_isLetter ⟨Nat.le_of_ble_eq_true rfl, Nat.le_of_ble_eq_true rfl⟩ hP hG hS [] rfl hl.1 rfl (Nat.le_of_ble_eq_true rfl) dX11_takes_88 ⟨Nat.zero_le _, Nat.zero_le _⟩ (fun locs hS => ?_)
            refine W.eq (g2 := F0 m 91 ls [.int (bi (fX11_isLetter a57))]) rfl ?_
            refine lv_if_eq (tgt := 156) hx hb dX11_takes_91 (by decide) (fun c59 => ?_) (fun c59 => ?_)
            · have hf := if_t hf c59
              have hf := Option.some.inj hf
              subst hf
              exact Ey52  H locs ls (lv_sub hl [0] rfl) hP hD hS 
            · have hf := if_f hf c59
              refine lv_aload_n hx hb dX11_takes_94 rfl (lv_at hl 0 rfl) ?_
              refine lv_aload_n hx hb dX11_takes_95 rfl (lv_at hl 0 rfl) ?_
              refine va_get (D := G.1) (cl := vwCl) (ci := 11) (v := .int (g55 23)) (C := RX11) (T := TX11) (N := 29) hx hb hts inG11 hown hK hP 0 rfl rfl 23 (Nat.le_of_ble_eq_true rfl) (hts _ q1064) (fun _ h9 => h9) rfl dX11_takes_96 ?_
              refine lv_aload_n hx hb dX11_takes_99 rfl (lv_at hl 0 rfl) ?_
              refine va_get (D := G.1) (cl := vwCl) (ci := 11) (v := .int (g55 25)) (C := RX11) (T := TX11) (N := 29) hx hb hts inG11 hown hK hP 0 rfl rfl 25 (Nat.le_of_ble_eq_true rfl) (hts _ q1066) (fun _ h9 => h9) rfl dX11_takes_100 ?_
              refine lv_isub hx hb dX11_takes_103 ?_
              refine lv_bipush (v := 8) hx hb dX11_takes_104 (by decide) ?_
              refine lv_icmp_ge (tgt := 136) hx hb dX11_takes_106 (by decide) (fun c60 => ?_) (fun c60 => ?_)
              · have hf := if_t hf c60
                refine lv_aload_n hx hb dX11_takes_136 rfl (lv_at hl 0 rfl) ?_
                refine va_get (D := G.1) (cl := vwCl) (ci := 11) (v := .long g56) (C := RX11) (T := TX11) (N := 29) hx hb hts inG11 hown hK hP 0 rfl rfl 26 (Nat.le_of_ble_eq_true rfl) (hts _ q1067) (fun _ h9 => h9) rfl dX11_takes_137 ?_
                refine va_put (D := G.1) (cl := vwCl) (ci := 11) (v := .long g56) (ty := .long) (C := RX11) (T := TX11) (N := 29) hx hb hts inG11 tyX11 tyX11_ok nmX11 hown hK hP hD hS 0 rfl rfl 26 (Nat.le_of_ble_eq_true rfl) (hts _ q1067) (fun _ h9 => h9) rfl (tyX11_ok 26 (Nat.le_of_ble_eq_true rfl)) rfl rfl (Nat.le_of_ble_eq_true rfl) dX11_takes_140 (fun H locs hP hD hS => ?_)
                have hP : va_P G.1 vwCl [(ad_t, .inr (11, [.ref ad_t_all, .ref ad_t_tape, .ref ad_t_isImage, .int (g55 3), .int (g55 4), .int (g55 5), .int (g55 6), .ref ad_t_size, .ref ad_t_givenRow, .ref ad_t_givenColumn, .ref ad_t_newRow, .int (g55 11), .int (g55 12), .int (g55 13), .int (g55 14), .int (g55 15), .int (g55 16), .int (g55 17), .int (g55 18), .int (g55 19), .ref ad_t_view, .int (g55 21), .int (g55 22), .int (g55 23), .int (g55 24), .int (g55 25), .long g56, .int (g55 27), .int (g55 28)])), (ad_t_tape, .inl (G.2.1 0, 300, .inl t_tape))] H := hP
                have hD : va_D A [(ad_t, .inr (11, [.ref ad_t_all, .ref ad_t_tape, .ref ad_t_isImage, .int (g55 3), .int (g55 4), .int (g55 5), .int (g55 6), .ref ad_t_size, .ref ad_t_givenRow, .ref ad_t_givenColumn, .ref ad_t_newRow, .int (g55 11), .int (g55 12), .int (g55 13), .int (g55 14), .int (g55 15), .int (g55 16), .int (g55 17), .int (g55 18), .int (g55 19), .ref ad_t_view, .int (g55 21), .int (g55 22), .int (g55 23), .int (g55 24), .int (g55 25), .long g56, .int (g55 27), .int (g55 28)])), (ad_t_tape, .inl (G.2.1 0, 300, .inl t_tape))] := hD
                refine lv_aload_n hx hb dX11_takes_143 rfl (lv_at hl 0 rfl) ?_
                refine lv_dup hx hb dX11_takes_144 rfl ?_
                refine va_get (D := G.1) (cl := vwCl) (ci := 11) (v := .int (g55 23)) (C := RX11) (T := TX11) (N := 29) hx hb hts inG11 hown hK hP 0 rfl rfl 23 (Nat.le_of_ble_eq_true rfl) (hts _ q1064) (fun _ h9 => h9) rfl dX11_takes_145 ?_
                refine lv_iconst (v := 1) hx hb dX11_takes_148 (by decide) ?_
                refine lv_iadd hx hb dX11_takes_149 ?_
                refine va_put (D := G.1) (cl := vwCl) (ci := 11) (v := .int ((g55 23) + (1 : Int32))) (ty := .int) (C := RX11) (T := TX11) (N := 29) hx hb hts inG11 tyX11 tyX11_ok nmX11 hown hK hP hD hS 0 rfl rfl 23 (Nat.le_of_ble_eq_true rfl) (hts _ q1064) (fun _ h9 => h9) rfl (tyX11_ok 23 (Nat.le_of_ble_eq_true rfl)) rfl rfl (Nat.le_of_ble_eq_true rfl) dX11_takes_150 (fun H locs hP hD hS => ?_)
                have hP : va_P G.1 vwCl [(ad_t, .inr (11, [.ref ad_t_all, .ref ad_t_tape, .ref ad_t_isImage, .int (g55 3), .int (g55 4), .int (g55 5), .int (g55 6), .ref ad_t_size, .ref ad_t_givenRow, .ref ad_t_givenColumn, .ref ad_t_newRow, .int (g55 11), .int (g55 12), .int (g55 13), .int (g55 14), .int (g55 15), .int (g55 16), .int (g55 17), .int (g55 18), .int (g55 19), .ref ad_t_view, .int (g55 21), .int (g55 22), .int ((g55 23) + (1 : Int32)), .int (g55 24), .int (g55 25), .long g56, .int (g55 27), .int (g55 28)])), (ad_t_tape, .inl (G.2.1 0, 300, .inl t_tape))] H := hP
                have hD : va_D A [(ad_t, .inr (11, [.ref ad_t_all, .ref ad_t_tape, .ref ad_t_isImage, .int (g55 3), .int (g55 4), .int (g55 5), .int (g55 6), .ref ad_t_size, .ref ad_t_givenRow, .ref ad_t_givenColumn, .ref ad_t_newRow, .int (g55 11), .int (g55 12), .int (g55 13), .int (g55 14), .int (g55 15), .int (g55 16), .int (g55 17), .int (g55 18), .int (g55 19), .ref ad_t_view, .int (g55 21), .int (g55 22), .int ((g55 23) + (1 : Int32)), .int (g55 24), .int (g55 25), .long g56, .int (g55 27), .int (g55 28)])), (ad_t_tape, .inl (G.2.1 0, 300, .inl t_tape))] := hD
                refine lv_goto (tgt := 80) hx hb dX11_takes_153 (by decide) ?_
                exact ih (upd g55 23 ((g55 23) + (1 : Int32))) g56 H locs ls (lv_sub hl [0] rfl) hP hD hS hf
              · have hf := if_f hf c60
                refine lv_ldc2 (v := (27 : Int64)) hx hb hown (hts _ q1396) dX11_takes_109 ?_
                refine lv_aload_n hx hb dX11_takes_112 rfl (lv_at hl 0 rfl) ?_
                refine va_get (D := G.1) (cl := vwCl) (ci := 11) (v := .long g56) (C := RX11) (T := TX11) (N := 29) hx hb hts inG11 hown hK hP 0 rfl rfl 26 (Nat.le_of_ble_eq_true rfl) (hts _ q1067) (fun _ h9 => h9) rfl dX11_takes_113 ?_
                refine lv_lmul hx hb dX11_takes_116 ?_
                refine lv_aload_n hx hb dX11_takes_117 rfl (lv_at hl 0 rfl) ?_
                refine lv_aload_n hx hb dX11_takes_118 rfl (lv_at hl 0 rfl) ?_
                refine va_get (D := G.1) (cl := vwCl) (ci := 11) (v := .int (g55 23)) (C := RX11) (T := TX11) (N := 29) hx hb hts inG11 hown hK hP 0 rfl rfl 23 (Nat.le_of_ble_eq_true rfl) (hts _ q1064) (fun _ h9 => h9) rfl dX11_takes_119 ?_
                obtain ⟨a61, h62, hf⟩ := bn_some hf
                refine kPV (tX11_byteAt l G ad_t ad_t_all ad_t_tape ad_t_isImage ad_t_size ad_t_givenRow ad_t_givenColumn ad_t_newRow ad_t_view g55 g56 t_tape (g55 23) a61 h62) ⟨hx, hb, hml, hown, hts⟩ q1443 q1445 q84 q108 q1446 okyX11_byteAt ⟨Nat.le_of_ble_eq_true rfl, Nat.le_of_ble_eq_true rfl⟩ hP hG hS [0, 1] rfl 0 rfl rfl hl.1 rfl (Nat.le_of_ble_eq_true rfl) dX11_takes_122 ⟨Nat.zero_le _, Nat.zero_le _⟩ (fun locs hS => ?_)
                refine W.eq (g2 := F0 m 125 ls [.int a61, .long ((27 : Int64) * g56), .ref ad_t]) rfl ?_
                refine lv_i2l (v := (a61.toInt64)) hx hb dX11_takes_125 rfl ?_
                refine lv_ladd hx hb dX11_takes_126 ?_
                refine lv_ldc2 (v := (97 : Int64)) hx hb hown (hts _ q1450) dX11_takes_127 ?_
                refine lv_lsub hx hb dX11_takes_130 ?_
                refine lv_lconst (v := 1) hx hb dX11_takes_131 (by decide) ?_
                refine lv_ladd hx hb dX11_takes_132 ?_
                refine lv_goto (tgt := 140) hx hb dX11_takes_133 (by decide) ?_
                refine va_put (D := G.1) (cl := vwCl) (ci := 11) (v := .long (((((27 : Int64) * g56) + (a61.toInt64)) - (97 : Int64)) + (1 : Int64))) (ty := .long) (C := RX11) (T := TX11) (N := 29) hx hb hts inG11 tyX11 tyX11_ok nmX11 hown hK hP hD hS 0 rfl rfl 26 (Nat.le_of_ble_eq_true rfl) (hts _ q1067) (fun _ h9 => h9) rfl (tyX11_ok 26 (Nat.le_of_ble_eq_true rfl)) rfl rfl (Nat.le_of_ble_eq_true rfl) dX11_takes_140 (fun H locs hP hD hS => ?_)
                have hP : va_P G.1 vwCl [(ad_t, .inr (11, [.ref ad_t_all, .ref ad_t_tape, .ref ad_t_isImage, .int (g55 3), .int (g55 4), .int (g55 5), .int (g55 6), .ref ad_t_size, .ref ad_t_givenRow, .ref ad_t_givenColumn, .ref ad_t_newRow, .int (g55 11), .int (g55 12), .int (g55 13), .int (g55 14), .int (g55 15), .int (g55 16), .int (g55 17), .int (g55 18), .int (g55 19), .ref ad_t_view, .int (g55 21), .int (g55 22), .int (g55 23), .int (g55 24), .int (g55 25), .long (((((27 : Int64) * g56) + (a61.toInt64)) - (97 : Int64)) + (1 : Int64)), .int (g55 27), .int (g55 28)])), (ad_t_tape, .inl (G.2.1 0, 300, .inl t_tape))] H := hP
                have hD : va_D A [(ad_t, .inr (11, [.ref ad_t_all, .ref ad_t_tape, .ref ad_t_isImage, .int (g55 3), .int (g55 4), .int (g55 5), .int (g55 6), .ref ad_t_size, .ref ad_t_givenRow, .ref ad_t_givenColumn, .ref ad_t_newRow, .int (g55 11), .int (g55 12), .int (g55 13), .int (g55 14), .int (g55 15), .int (g55 16), .int (g55 17), .int (g55 18), .int (g55 19), .ref ad_t_view, .int (g55 21), .int (g55 22), .int (g55 23), .int (g55 24), .int (g55 25), .long (((((27 : Int64) * g56) + (a61.toInt64)) - (97 : Int64)) + (1 : Int64)), .int (g55 27), .int (g55 28)])), (ad_t_tape, .inl (G.2.1 0, 300, .inl t_tape))] := hD
                refine lv_aload_n hx hb dX11_takes_143 rfl (lv_at hl 0 rfl) ?_
                refine lv_dup hx hb dX11_takes_144 rfl ?_
                refine va_get (D := G.1) (cl := vwCl) (ci := 11) (v := .int (g55 23)) (C := RX11) (T := TX11) (N := 29) hx hb hts inG11 hown hK hP 0 rfl rfl 23 (Nat.le_of_ble_eq_true rfl) (hts _ q1064) (fun _ h9 => h9) rfl dX11_takes_145 ?_
                refine lv_iconst (v := 1) hx hb dX11_takes_148 (by decide) ?_
                refine lv_iadd hx hb dX11_takes_149 ?_
                refine va_put (D := G.1) (cl := vwCl) (ci := 11) (v := .int ((g55 23) + (1 : Int32))) (ty := .int) (C := RX11) (T := TX11) (N := 29) hx hb hts inG11 tyX11 tyX11_ok nmX11 hown hK hP hD hS 0 rfl rfl 23 (Nat.le_of_ble_eq_true rfl) (hts _ q1064) (fun _ h9 => h9) rfl (tyX11_ok 23 (Nat.le_of_ble_eq_true rfl)) rfl rfl (Nat.le_of_ble_eq_true rfl) dX11_takes_150 (fun H locs hP hD hS => ?_)
                have hP : va_P G.1 vwCl [(ad_t, .inr (11, [.ref ad_t_all, .ref ad_t_tape, .ref ad_t_isImage, .int (g55 3), .int (g55 4), .int (g55 5), .int (g55 6), .ref ad_t_size, .ref ad_t_givenRow, .ref ad_t_givenColumn, .ref ad_t_newRow, .int (g55 11), .int (g55 12), .int (g55 13), .int (g55 14), .int (g55 15), .int (g55 16), .int (g55 17), .int (g55 18), .int (g55 19), .ref ad_t_view, .int (g55 21), .int (g55 22), .int ((g55 23) + (1 : Int32)), .int (g55 24), .int (g55 25), .long (((((27 : Int64) * g56) + (a61.toInt64)) - (97 : Int64)) + (1 : Int64)), .int (g55 27), .int (g55 28)])), (ad_t_tape, .inl (G.2.1 0, 300, .inl t_tape))] H := hP
                have hD : va_D A [(ad_t, .inr (11, [.ref ad_t_all, .ref ad_t_tape, .ref ad_t_isImage, .int (g55 3), .int (g55 4), .int (g55 5), .int (g55 6), .ref ad_t_size, .ref ad_t_givenRow, .ref ad_t_givenColumn, .ref ad_t_newRow, .int (g55 11), .int (g55 12), .int (g55 13), .int (g55 14), .int (g55 15), .int (g55 16), .int (g55 17), .int (g55 18), .int (g55 19), .ref ad_t_view, .int (g55 21), .int (g55 22), .int ((g55 23) + (1 : Int32)), .int (g55 24), .int (g55 25), .long (((((27 : Int64) * g56) + (a61.toInt64)) - (97 : Int64)) + (1 : Int64)), .int (g55 27), .int (g55 28)])), (ad_t_tape, .inl (G.2.1 0, 300, .inl t_tape))] := hD
                refine lv_goto (tgt := 80) hx hb dX11_takes_153 (by decide) ?_
                exact ih (upd g55 23 ((g55 23) + (1 : Int32))) (((((27 : Int64) * g56) + (a61.toInt64)) - (97 : Int64)) + (1 : Int64)) H locs ls (lv_sub hl [0] rfl) hP hD hS hf
        exact Ly52 FU (upd y33 25 (y33 23)) (0 : Int64) H locs ls (lv_sub hl [1] rfl) hP hD hS hLy52
    · have hf := if_f hf c36
      refine lv_aload_n hx hb dX11_takes_65 rfl (lv_at hl 1 rfl) ?_
      refine lv_iconst (v := 0) hx hb dX11_takes_66 (by decide) ?_
      refine va_put (D := G.1) (cl := vwCl) (ci := 11) (v := .int (0 : Int32)) (ty := .int) (C := RX11) (T := TX11) (N := 29) hx hb hts inG11 tyX11 tyX11_ok nmX11 hown hK hP hD hS 0 rfl rfl 24 (Nat.le_of_ble_eq_true rfl) (hts _ q1065) (fun _ h9 => h9) rfl (tyX11_ok 24 (Nat.le_of_ble_eq_true rfl)) rfl rfl (Nat.le_of_ble_eq_true rfl) dX11_takes_67 (fun H locs hP hD hS => ?_)
      have hP : va_P G.1 vwCl [(ad_t, .inr (11, [.ref ad_t_all, .ref ad_t_tape, .ref ad_t_isImage, .int (y33 3), .int (y33 4), .int (y33 5), .int (y33 6), .ref ad_t_size, .ref ad_t_givenRow, .ref ad_t_givenColumn, .ref ad_t_newRow, .int (y33 11), .int (y33 12), .int (y33 13), .int (y33 14), .int (y33 15), .int (y33 16), .int (y33 17), .int (y33 18), .int (y33 19), .ref ad_t_view, .int (y33 21), .int (y33 22), .int (y33 23), .int (0 : Int32), .int (y33 23), .long (0 : Int64), .int (y33 27), .int (y33 28)])), (ad_t_tape, .inl (G.2.1 0, 300, .inl t_tape))] H := hP
      have hD : va_D A [(ad_t, .inr (11, [.ref ad_t_all, .ref ad_t_tape, .ref ad_t_isImage, .int (y33 3), .int (y33 4), .int (y33 5), .int (y33 6), .ref ad_t_size, .ref ad_t_givenRow, .ref ad_t_givenColumn, .ref ad_t_newRow, .int (y33 11), .int (y33 12), .int (y33 13), .int (y33 14), .int (y33 15), .int (y33 16), .int (y33 17), .int (y33 18), .int (y33 19), .ref ad_t_view, .int (y33 21), .int (y33 22), .int (y33 23), .int (0 : Int32), .int (y33 23), .long (0 : Int64), .int (y33 27), .int (y33 28)])), (ad_t_tape, .inl (G.2.1 0, 300, .inl t_tape))] := hD
      refine lv_goto (tgt := 314) hx hb dX11_takes_70 (by decide) ?_
      have hf := Option.some.inj hf
      subst hf
      exact eRetV hx hb hr hlocks hP hD hS ⟨rfl, rfl⟩ dX11_takes_314
  have Ly33 : ∀ (n : Nat), ∀ (g63 : Nat → Int32) (H : Heap) (locs : List Loc) (ls : Array Slot), lv_has ls 2 [(0, .ref ad_t)] → va_P G.1 vwCl [(ad_t, .inr (11, [.ref ad_t_all, .ref ad_t_tape, .ref ad_t_isImage, .int (g63 3), .int (g63 4), .int (g63 5), .int (g63 6), .ref ad_t_size, .ref ad_t_givenRow, .ref ad_t_givenColumn, .ref ad_t_newRow, .int (g63 11), .int (g63 12), .int (g63 13), .int (g63 14), .int (g63 15), .int (g63 16), .int (g63 17), .int (g63 18), .int (g63 19), .ref ad_t_view, .int (g63 21), .int (g63 22), .int (g63 23), .int (g63 24), .int (g63 25), .long t_value, .int (g63 27), .int (g63 28)])), (ad_t_tape, .inl (G.2.1 0, 300, .inl t_tape))] H → va_D A [(ad_t, .inr (11, [.ref ad_t_all, .ref ad_t_tape, .ref ad_t_isImage, .int (g63 3), .int (g63 4), .int (g63 5), .int (g63 6), .ref ad_t_size, .ref ad_t_givenRow, .ref ad_t_givenColumn, .ref ad_t_newRow, .int (g63 11), .int (g63 12), .int (g63 13), .int (g63 14), .int (g63 15), .int (g63 16), .int (g63 17), .int (g63 18), .int (g63 19), .ref ad_t_view, .int (g63 21), .int (g63 22), .int (g63 23), .int (g63 24), .int (g63 25), .long t_value, .int (g63 27), .int (g63 28)])), (ad_t_tape, .inl (G.2.1 0, 300, .inl t_tape))] → va_S A s.heap H locs → fX11_takes_l0 t_tape n g63 = some y33 → wG p l e 1 21 s m [.ref ad_t] below meth cd H locs (eQ G A (fun r w => r = none ∧ w = [(ad_t, .inr (11, [.ref ad_t_all, .ref ad_t_tape, .ref ad_t_isImage, .int (o.1 3), .int (o.1 4), .int (o.1 5), .int (o.1 6), .ref ad_t_size, .ref ad_t_givenRow, .ref ad_t_givenColumn, .ref ad_t_newRow, .int (o.1 11), .int (o.1 12), .int (o.1 13), .int (o.1 14), .int (o.1 15), .int (o.1 16), .int (o.1 17), .int (o.1 18), .int (o.1 19), .ref ad_t_view, .int (o.1 21), .int (o.1 22), .int (o.1 23), .int (o.1 24), .int (o.1 25), .long o.2, .int (o.1 27), .int (o.1 28)])), (ad_t_tape, .inl (G.2.1 0, 300, .inl t_tape))])) A (F0 m 0 ls []) := by
    intro n
    induction n with
    | zero =>
      intro g63 H locs ls hl hP hD hS hf
      rw [fX11_takes_l0] at hf
      cases hf
    | succ n ih =>
      intro g63 H locs ls hl hP hD hS hf
      rw [fX11_takes_l0] at hf
      refine lv_aload_n hx hb dX11_takes_0 rfl (lv_at hl 0 rfl) ?_
      refine lv_aload_n hx hb dX11_takes_1 rfl (lv_at hl 0 rfl) ?_
      refine va_get (D := G.1) (cl := vwCl) (ci := 11) (v := .int (g63 23)) (C := RX11) (T := TX11) (N := 29) hx hb hts inG11 hown hK hP 0 rfl rfl 23 (Nat.le_of_ble_eq_true rfl) (hts _ q1064) (fun _ h9 => h9) rfl dX11_takes_2 ?_
      obtain ⟨a64, h65, hf⟩ := bn_some hf
      refine kPV (tX11_byteAt l G ad_t ad_t_all ad_t_tape ad_t_isImage ad_t_size ad_t_givenRow ad_t_givenColumn ad_t_newRow ad_t_view g63 t_value t_tape (g63 23) a64 h65) ⟨hx, hb, hml, hown, hts⟩ q1443 q1445 q84 q108 q1446 okyX11_byteAt ⟨Nat.le_of_ble_eq_true rfl, Nat.le_of_ble_eq_true rfl⟩ hP hG hS [0, 1] rfl 0 rfl rfl hl.1 rfl (Nat.le_of_ble_eq_true rfl) dX11_takes_5 ⟨Nat.zero_le _, Nat.zero_le _⟩ (fun locs hS => ?_)
      refine W.eq (g2 := F0 m 8 ls [.int a64]) rfl ?_
      refine lv_bipush (v := 32) hx hb dX11_takes_8 (by decide) ?_
      refine lv_icmp_eq (tgt := 26) hx hb dX11_takes_10 (by decide) (fun c66 => ?_) (fun c66 => ?_)
      · have hf := if_t hf c66
        refine lv_aload_n hx hb dX11_takes_26 rfl (lv_at hl 0 rfl) ?_
        refine lv_dup hx hb dX11_takes_27 rfl ?_
        refine va_get (D := G.1) (cl := vwCl) (ci := 11) (v := .int (g63 23)) (C := RX11) (T := TX11) (N := 29) hx hb hts inG11 hown hK hP 0 rfl rfl 23 (Nat.le_of_ble_eq_true rfl) (hts _ q1064) (fun _ h9 => h9) rfl dX11_takes_28 ?_
        refine lv_iconst (v := 1) hx hb dX11_takes_31 (by decide) ?_
        refine lv_iadd hx hb dX11_takes_32 ?_
        refine va_put (D := G.1) (cl := vwCl) (ci := 11) (v := .int ((g63 23) + (1 : Int32))) (ty := .int) (C := RX11) (T := TX11) (N := 29) hx hb hts inG11 tyX11 tyX11_ok nmX11 hown hK hP hD hS 0 rfl rfl 23 (Nat.le_of_ble_eq_true rfl) (hts _ q1064) (fun _ h9 => h9) rfl (tyX11_ok 23 (Nat.le_of_ble_eq_true rfl)) rfl rfl (Nat.le_of_ble_eq_true rfl) dX11_takes_33 (fun H locs hP hD hS => ?_)
        have hP : va_P G.1 vwCl [(ad_t, .inr (11, [.ref ad_t_all, .ref ad_t_tape, .ref ad_t_isImage, .int (g63 3), .int (g63 4), .int (g63 5), .int (g63 6), .ref ad_t_size, .ref ad_t_givenRow, .ref ad_t_givenColumn, .ref ad_t_newRow, .int (g63 11), .int (g63 12), .int (g63 13), .int (g63 14), .int (g63 15), .int (g63 16), .int (g63 17), .int (g63 18), .int (g63 19), .ref ad_t_view, .int (g63 21), .int (g63 22), .int ((g63 23) + (1 : Int32)), .int (g63 24), .int (g63 25), .long t_value, .int (g63 27), .int (g63 28)])), (ad_t_tape, .inl (G.2.1 0, 300, .inl t_tape))] H := hP
        have hD : va_D A [(ad_t, .inr (11, [.ref ad_t_all, .ref ad_t_tape, .ref ad_t_isImage, .int (g63 3), .int (g63 4), .int (g63 5), .int (g63 6), .ref ad_t_size, .ref ad_t_givenRow, .ref ad_t_givenColumn, .ref ad_t_newRow, .int (g63 11), .int (g63 12), .int (g63 13), .int (g63 14), .int (g63 15), .int (g63 16), .int (g63 17), .int (g63 18), .int (g63 19), .ref ad_t_view, .int (g63 21), .int (g63 22), .int ((g63 23) + (1 : Int32)), .int (g63 24), .int (g63 25), .long t_value, .int (g63 27), .int (g63 28)])), (ad_t_tape, .inl (G.2.1 0, 300, .inl t_tape))] := hD
        refine lv_goto (tgt := 0) hx hb dX11_takes_36 (by decide) ?_
        exact ih (upd g63 23 ((g63 23) + (1 : Int32))) H locs ls (lv_sub hl [0] rfl) hP hD hS hf
      · have hf := if_f hf c66
        refine lv_aload_n hx hb dX11_takes_13 rfl (lv_at hl 0 rfl) ?_
        refine lv_aload_n hx hb dX11_takes_14 rfl (lv_at hl 0 rfl) ?_
        refine va_get (D := G.1) (cl := vwCl) (ci := 11) (v := .int (g63 23)) (C := RX11) (T := TX11) (N := 29) hx hb hts inG11 hown hK hP 0 rfl rfl 23 (Nat.le_of_ble_eq_true rfl) (hts _ q1064) (fun _ h9 => h9) rfl dX11_takes_15 ?_
        obtain ⟨a67, h68, hf⟩ := bn_some hf
        refine kPV (tX11_byteAt l G ad_t ad_t_all ad_t_tape ad_t_isImage ad_t_size ad_t_givenRow ad_t_givenColumn ad_t_newRow ad_t_view g63 t_value t_tape (g63 23) a67 h68) ⟨hx, hb, hml, hown, hts⟩ q1443 q1445 q84 q108 q1446 okyX11_byteAt ⟨Nat.le_of_ble_eq_true rfl, Nat.le_of_ble_eq_true rfl⟩ hP hG hS [0, 1] rfl 0 rfl rfl hl.1 rfl (Nat.le_of_ble_eq_true rfl) dX11_takes_18 ⟨Nat.zero_le _, Nat.zero_le _⟩ (fun locs hS => ?_)
        refine W.eq (g2 := F0 m 21 ls [.int a67]) rfl ?_
        refine lv_bipush (v := 10) hx hb dX11_takes_21 (by decide) ?_
        refine lv_icmp_ne (tgt := 39) hx hb dX11_takes_23 (by decide) (fun c69 => ?_) (fun c69 => ?_)
        · have hf := if_f hf c69
          have hf := Option.some.inj hf
          subst hf
          exact Ey33  H locs ls (lv_sub hl [0] rfl) hP hD hS 
        · have hf := if_t hf c69
          refine lv_aload_n hx hb dX11_takes_26 rfl (lv_at hl 0 rfl) ?_
          refine lv_dup hx hb dX11_takes_27 rfl ?_
          refine va_get (D := G.1) (cl := vwCl) (ci := 11) (v := .int (g63 23)) (C := RX11) (T := TX11) (N := 29) hx hb hts inG11 hown hK hP 0 rfl rfl 23 (Nat.le_of_ble_eq_true rfl) (hts _ q1064) (fun _ h9 => h9) rfl dX11_takes_28 ?_
          refine lv_iconst (v := 1) hx hb dX11_takes_31 (by decide) ?_
          refine lv_iadd hx hb dX11_takes_32 ?_
          refine va_put (D := G.1) (cl := vwCl) (ci := 11) (v := .int ((g63 23) + (1 : Int32))) (ty := .int) (C := RX11) (T := TX11) (N := 29) hx hb hts inG11 tyX11 tyX11_ok nmX11 hown hK hP hD hS 0 rfl rfl 23 (Nat.le_of_ble_eq_true rfl) (hts _ q1064) (fun _ h9 => h9) rfl (tyX11_ok 23 (Nat.le_of_ble_eq_true rfl)) rfl rfl (Nat.le_of_ble_eq_true rfl) dX11_takes_33 (fun H locs hP hD hS => ?_)
          have hP : va_P G.1 vwCl [(ad_t, .inr (11, [.ref ad_t_all, .ref ad_t_tape, .ref ad_t_isImage, .int (g63 3), .int (g63 4), .int (g63 5), .int (g63 6), .ref ad_t_size, .ref ad_t_givenRow, .ref ad_t_givenColumn, .ref ad_t_newRow, .int (g63 11), .int (g63 12), .int (g63 13), .int (g63 14), .int (g63 15), .int (g63 16), .int (g63 17), .int (g63 18), .int (g63 19), .ref ad_t_view, .int (g63 21), .int (g63 22), .int ((g63 23) + (1 : Int32)), .int (g63 24), .int (g63 25), .long t_value, .int (g63 27), .int (g63 28)])), (ad_t_tape, .inl (G.2.1 0, 300, .inl t_tape))] H := hP
          have hD : va_D A [(ad_t, .inr (11, [.ref ad_t_all, .ref ad_t_tape, .ref ad_t_isImage, .int (g63 3), .int (g63 4), .int (g63 5), .int (g63 6), .ref ad_t_size, .ref ad_t_givenRow, .ref ad_t_givenColumn, .ref ad_t_newRow, .int (g63 11), .int (g63 12), .int (g63 13), .int (g63 14), .int (g63 15), .int (g63 16), .int (g63 17), .int (g63 18), .int (g63 19), .ref ad_t_view, .int (g63 21), .int (g63 22), .int ((g63 23) + (1 : Int32)), .int (g63 24), .int (g63 25), .long t_value, .int (g63 27), .int (g63 28)])), (ad_t_tape, .inl (G.2.1 0, 300, .inl t_tape))] := hD
          refine lv_goto (tgt := 0) hx hb dX11_takes_36 (by decide) ?_
          exact ih (upd g63 23 ((g63 23) + (1 : Int32))) H locs ls (lv_sub hl [0] rfl) hP hD hS hf
  exact Ly33 FU tI H locs ls (lv_sub hl [0] rfl) hP hD hS hLy33
