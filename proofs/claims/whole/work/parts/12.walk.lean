def fX11_copies_l3 (x1 : Int32) (x2 : Int32) (x3 : Int32) : Nat → Int32 → (Nat → Int32) → Option ((Nat → Int32))
  | 0, _, _ => none
  | n + 1, x4, t_all =>
    (if x3 ≤ x4 then some t_all else gd (gi (x1 + x4) 43047) (gd (gi (x2 + x4) 43047) (fX11_copies_l3 x1 x2 x3 n (x4 + (1 : Int32)) (upd t_all (x2 + x4).toNatClampNeg (t_all (x1 + x4).toNatClampNeg)))))
def fX11_copies (t_all : Nat → Int32) (p0 : Int32) (p1 : Int32) (p2 : Int32) : Option ((Nat → Int32)) :=
  bn (fX11_copies_l3 p0 p1 p2 FU (0 : Int32) t_all) fun y4 => some y4
set_option maxRecDepth 100000 in
set_option maxHeartbeats 4000000 in
theorem tX11_copies (l : Launch) (G : gG) (ad_t ad_t_all ad_t_tape ad_t_isImage ad_t_size ad_t_givenRow ad_t_givenColumn ad_t_newRow ad_t_view : Nat) (tI : Nat → Int32) (t_value : Int64) (t_all : Nat → Int32) (p0 : Int32) (p1 : Int32) (p2 : Int32) (o : (Nat → Int32)) (hf : fX11_copies t_all p0 p1 p2 = some o) : mE G l yX11_copies cX11_copies 5 none 0 0 0 0 [.ref ad_t, .int p0, .int p1, .int p2] [(ad_t, .inr (11, [.ref ad_t_all, .ref ad_t_tape, .ref ad_t_isImage, .int (tI 3), .int (tI 4), .int (tI 5), .int (tI 6), .ref ad_t_size, .ref ad_t_givenRow, .ref ad_t_givenColumn, .ref ad_t_newRow, .int (tI 11), .int (tI 12), .int (tI 13), .int (tI 14), .int (tI 15), .int (tI 16), .int (tI 17), .int (tI 18), .int (tI 19), .ref ad_t_view, .int (tI 21), .int (tI 22), .int (tI 23), .int (tI 24), .int (tI 25), .long t_value, .int (tI 27), .int (tI 28)])), (ad_t_all, .inl (G.2.1 0, 43047, .inl t_all))] (fun r w => r = none ∧ w = [(ad_t, .inr (11, [.ref ad_t_all, .ref ad_t_tape, .ref ad_t_isImage, .int (tI 3), .int (tI 4), .int (tI 5), .int (tI 6), .ref ad_t_size, .ref ad_t_givenRow, .ref ad_t_givenColumn, .ref ad_t_newRow, .int (tI 11), .int (tI 12), .int (tI 13), .int (tI 14), .int (tI 15), .int (tI 16), .int (tI 17), .int (tI 18), .int (tI 19), .ref ad_t_view, .int (tI 21), .int (tI 22), .int (tI 23), .int (tI 24), .int (tI 25), .long t_value, .int (tI 27), .int (tI 28)])), (ad_t_all, .inl (G.2.1 0, 43047, .inl o))]) := by
  refine mE_of (by decide) (Nat.le_of_ble_eq_true rfl) ?_
  intro p e s m below meth cd ls A hx hb hml hown hts hr hlocks hnm hl hA hP hD hS hG
  have hK := hG.1
  have hown : s.vm.findClass RX11 = some m.cls := hown
  have hl : lv_has ls 5 [(0, .ref ad_t), (1, .int p0), (2, .int p1), (3, .int p2)] := hl
  have hS := hS
  unfold fX11_copies at hf
  obtain ⟨H, locs, eH, eL⟩ : ∃ (H : Heap) (locs : List Loc), H = s.heap ∧ locs = [] := ⟨_, _, rfl, rfl⟩
  have hP : va_P G.1 vwCl [(ad_t, .inr (11, [.ref ad_t_all, .ref ad_t_tape, .ref ad_t_isImage, .int (tI 3), .int (tI 4), .int (tI 5), .int (tI 6), .ref ad_t_size, .ref ad_t_givenRow, .ref ad_t_givenColumn, .ref ad_t_newRow, .int (tI 11), .int (tI 12), .int (tI 13), .int (tI 14), .int (tI 15), .int (tI 16), .int (tI 17), .int (tI 18), .int (tI 19), .ref ad_t_view, .int (tI 21), .int (tI 22), .int (tI 23), .int (tI 24), .int (tI 25), .long t_value, .int (tI 27), .int (tI 28)])), (ad_t_all, .inl (G.2.1 0, 43047, .inl t_all))] H := eH ▸ hP
  have hS : va_S A s.heap H locs := by rw [eH, eL]; exact hS
  suffices hgo : wG p l e 0 0 s m [.ref ad_t, .int p0, .int p1, .int p2] below meth cd H locs (eQ G A (fun r w => r = none ∧ w = [(ad_t, .inr (11, [.ref ad_t_all, .ref ad_t_tape, .ref ad_t_isImage, .int (tI 3), .int (tI 4), .int (tI 5), .int (tI 6), .ref ad_t_size, .ref ad_t_givenRow, .ref ad_t_givenColumn, .ref ad_t_newRow, .int (tI 11), .int (tI 12), .int (tI 13), .int (tI 14), .int (tI 15), .int (tI 16), .int (tI 17), .int (tI 18), .int (tI 19), .ref ad_t_view, .int (tI 21), .int (tI 22), .int (tI 23), .int (tI 24), .int (tI 25), .long t_value, .int (tI 27), .int (tI 28)])), (ad_t_all, .inl (G.2.1 0, 43047, .inl o))])) A (F0 m 0 ls []) by rw [eH, eL] at hgo; exact hgo
  clear eH eL
  refine lv_iconst (v := 0) hx hb dX11_copies_0 (by decide) ?_
  refine lv_istore (lv' := [(4, .int (0 : Int32)), (0, .ref ad_t), (1, .int p0), (2, .int p1), (3, .int p2)]) hx hb dX11_copies_1 hl (by decide) rfl (fun ls hl => ?_)
  obtain ⟨y5, hLy5, hky5⟩ := bn_some hf
  have Ey5 : ∀  (H : Heap) (locs : List Loc) (ls : Array Slot), lv_has ls 5 [] → va_P G.1 vwCl [(ad_t, .inr (11, [.ref ad_t_all, .ref ad_t_tape, .ref ad_t_isImage, .int (tI 3), .int (tI 4), .int (tI 5), .int (tI 6), .ref ad_t_size, .ref ad_t_givenRow, .ref ad_t_givenColumn, .ref ad_t_newRow, .int (tI 11), .int (tI 12), .int (tI 13), .int (tI 14), .int (tI 15), .int (tI 16), .int (tI 17), .int (tI 18), .int (tI 19), .ref ad_t_view, .int (tI 21), .int (tI 22), .int (tI 23), .int (tI 24), .int (tI 25), .long t_value, .int (tI 27), .int (tI 28)])), (ad_t_all, .inl (G.2.1 0, 43047, .inl y5))] H → va_D A [(ad_t, .inr (11, [.ref ad_t_all, .ref ad_t_tape, .ref ad_t_isImage, .int (tI 3), .int (tI 4), .int (tI 5), .int (tI 6), .ref ad_t_size, .ref ad_t_givenRow, .ref ad_t_givenColumn, .ref ad_t_newRow, .int (tI 11), .int (tI 12), .int (tI 13), .int (tI 14), .int (tI 15), .int (tI 16), .int (tI 17), .int (tI 18), .int (tI 19), .ref ad_t_view, .int (tI 21), .int (tI 22), .int (tI 23), .int (tI 24), .int (tI 25), .long t_value, .int (tI 27), .int (tI 28)])), (ad_t_all, .inl (G.2.1 0, 43047, .inl y5))] → va_S A s.heap H locs → wG p l e 0 0 s m [.ref ad_t, .int p0, .int p1, .int p2] below meth cd H locs (eQ G A (fun r w => r = none ∧ w = [(ad_t, .inr (11, [.ref ad_t_all, .ref ad_t_tape, .ref ad_t_isImage, .int (tI 3), .int (tI 4), .int (tI 5), .int (tI 6), .ref ad_t_size, .ref ad_t_givenRow, .ref ad_t_givenColumn, .ref ad_t_newRow, .int (tI 11), .int (tI 12), .int (tI 13), .int (tI 14), .int (tI 15), .int (tI 16), .int (tI 17), .int (tI 18), .int (tI 19), .ref ad_t_view, .int (tI 21), .int (tI 22), .int (tI 23), .int (tI 24), .int (tI 25), .long t_value, .int (tI 27), .int (tI 28)])), (ad_t_all, .inl (G.2.1 0, 43047, .inl o))])) A (F0 m 33 ls []) := by
    intro  H locs ls hl hP hD hS
    have hf := hky5
    have hf := Option.some.inj hf
    subst hf
    exact eRetV hx hb hr hlocks hP hD hS ⟨rfl, rfl⟩ dX11_copies_33
  have Ly5 : ∀ (n : Nat), ∀ (x6 : Int32) (g7 : Nat → Int32) (H : Heap) (locs : List Loc) (ls : Array Slot), lv_has ls 5 [(4, .int x6), (0, .ref ad_t), (1, .int p0), (2, .int p1), (3, .int p2)] → va_P G.1 vwCl [(ad_t, .inr (11, [.ref ad_t_all, .ref ad_t_tape, .ref ad_t_isImage, .int (tI 3), .int (tI 4), .int (tI 5), .int (tI 6), .ref ad_t_size, .ref ad_t_givenRow, .ref ad_t_givenColumn, .ref ad_t_newRow, .int (tI 11), .int (tI 12), .int (tI 13), .int (tI 14), .int (tI 15), .int (tI 16), .int (tI 17), .int (tI 18), .int (tI 19), .ref ad_t_view, .int (tI 21), .int (tI 22), .int (tI 23), .int (tI 24), .int (tI 25), .long t_value, .int (tI 27), .int (tI 28)])), (ad_t_all, .inl (G.2.1 0, 43047, .inl g7))] H → va_D A [(ad_t, .inr (11, [.ref ad_t_all, .ref ad_t_tape, .ref ad_t_isImage, .int (tI 3), .int (tI 4), .int (tI 5), .int (tI 6), .ref ad_t_size, .ref ad_t_givenRow, .ref ad_t_givenColumn, .ref ad_t_newRow, .int (tI 11), .int (tI 12), .int (tI 13), .int (tI 14), .int (tI 15), .int (tI 16), .int (tI 17), .int (tI 18), .int (tI 19), .ref ad_t_view, .int (tI 21), .int (tI 22), .int (tI 23), .int (tI 24), .int (tI 25), .long t_value, .int (tI 27), .int (tI 28)])), (ad_t_all, .inl (G.2.1 0, 43047, .inl g7))] → va_S A s.heap H locs → fX11_copies_l3 p0 p1 p2 n x6 g7 = some y5 → wG p l e 0 0 s m [.ref ad_t, .int p0, .int p1, .int p2] below meth cd H locs (eQ G A (fun r w => r = none ∧ w = [(ad_t, .inr (11, [.ref ad_t_all, .ref ad_t_tape, .ref ad_t_isImage, .int (tI 3), .int (tI 4), .int (tI 5), .int (tI 6), .ref ad_t_size, .ref ad_t_givenRow, .ref ad_t_givenColumn, .ref ad_t_newRow, .int (tI 11), .int (tI 12), .int (tI 13), .int (tI 14), .int (tI 15), .int (tI 16), .int (tI 17), .int (tI 18), .int (tI 19), .ref ad_t_view, .int (tI 21), .int (tI 22), .int (tI 23), .int (tI 24), .int (tI 25), .long t_value, .int (tI 27), .int (tI 28)])), (ad_t_all, .inl (G.2.1 0, 43047, .inl o))])) A (F0 m 3 ls []) := by
    intro n
    induction n with
    | zero =>
      intro x6 g7 H locs ls hl hP hD hS hf
      rw [fX11_copies_l3] at hf
      cases hf
    | succ n ih =>
      intro x6 g7 H locs ls hl hP hD hS hf
      rw [fX11_copies_l3] at hf
      refine lv_iload hx hb dX11_copies_3 (lv_at hl 0 rfl) ?_
      refine lv_iload_n hx hb dX11_copies_5 rfl (lv_at hl 4 rfl) ?_
      refine lv_icmp_ge (tgt := 33) hx hb dX11_copies_6 (by decide) (fun c8 => ?_) (fun c8 => ?_)
      · have hf := if_t hf c8
        have hf := Option.some.inj hf
        subst hf
        exact Ey5  H locs ls (lv_sub hl [] rfl) hP hD hS 
      · have hf := if_f hf c8
        refine lv_aload_n hx hb dX11_copies_9 rfl (lv_at hl 1 rfl) ?_
        refine va_get (D := G.1) (cl := vwCl) (ci := 11) (v := .ref ad_t_all) (C := RX11) (T := TX11) (N := 29) hx hb hts inG11 hown hK hP 0 rfl rfl 0 (Nat.le_of_ble_eq_true rfl) (hts _ q1041) (fun _ h9 => h9) rfl dX11_copies_10 ?_
        refine lv_iload_n hx hb dX11_copies_13 rfl (lv_at hl 3 rfl) ?_
        refine lv_iload hx hb dX11_copies_14 (lv_at hl 0 rfl) ?_
        refine lv_iadd hx hb dX11_copies_16 ?_
        refine lv_aload_n hx hb dX11_copies_17 rfl (lv_at hl 1 rfl) ?_
        refine va_get (D := G.1) (cl := vwCl) (ci := 11) (v := .ref ad_t_all) (C := RX11) (T := TX11) (N := 29) hx hb hts inG11 hown hK hP 0 rfl rfl 0 (Nat.le_of_ble_eq_true rfl) (hts _ q1041) (fun _ h9 => h9) rfl dX11_copies_18 ?_
        refine lv_iload_n hx hb dX11_copies_21 rfl (lv_at hl 2 rfl) ?_
        refine lv_iload hx hb dX11_copies_22 (lv_at hl 0 rfl) ?_
        refine lv_iadd hx hb dX11_copies_24 ?_
        obtain ⟨h9, hf⟩ := gd_some hf
        refine va_iald (D := G.1) (cl := vwCl) hx hb hK hP 1 0 rfl rfl (gi_in h9) dX11_copies_25 ?_
        obtain ⟨h10, hf⟩ := gd_some hf
        refine va_iast (D := G.1) (cl := vwCl) hx hb hK hP hD hS 1 0 rfl rfl (gi_in h10) dX11_copies_26 (fun H locs hP hD hS => ?_)
        have hP : va_P G.1 vwCl [(ad_t, .inr (11, [.ref ad_t_all, .ref ad_t_tape, .ref ad_t_isImage, .int (tI 3), .int (tI 4), .int (tI 5), .int (tI 6), .ref ad_t_size, .ref ad_t_givenRow, .ref ad_t_givenColumn, .ref ad_t_newRow, .int (tI 11), .int (tI 12), .int (tI 13), .int (tI 14), .int (tI 15), .int (tI 16), .int (tI 17), .int (tI 18), .int (tI 19), .ref ad_t_view, .int (tI 21), .int (tI 22), .int (tI 23), .int (tI 24), .int (tI 25), .long t_value, .int (tI 27), .int (tI 28)])), (ad_t_all, .inl (G.2.1 0, 43047, .inl (upd g7 (p1 + x6).toNatClampNeg (g7 (p0 + x6).toNatClampNeg))))] H := hP
        have hD : va_D A [(ad_t, .inr (11, [.ref ad_t_all, .ref ad_t_tape, .ref ad_t_isImage, .int (tI 3), .int (tI 4), .int (tI 5), .int (tI 6), .ref ad_t_size, .ref ad_t_givenRow, .ref ad_t_givenColumn, .ref ad_t_newRow, .int (tI 11), .int (tI 12), .int (tI 13), .int (tI 14), .int (tI 15), .int (tI 16), .int (tI 17), .int (tI 18), .int (tI 19), .ref ad_t_view, .int (tI 21), .int (tI 22), .int (tI 23), .int (tI 24), .int (tI 25), .long t_value, .int (tI 27), .int (tI 28)])), (ad_t_all, .inl (G.2.1 0, 43047, .inl (upd g7 (p1 + x6).toNatClampNeg (g7 (p0 + x6).toNatClampNeg))))] := hD
        refine lv_iinc (v := (x6 + (1 : Int32))) (lv' := [(4, .int (x6 + (1 : Int32))), (0, .ref ad_t), (1, .int p0), (2, .int p1), (3, .int p2)]) hx hb dX11_copies_27 hl (k := 0) rfl (ii_1 _) (by decide) rfl (fun ls hl => ?_)
        refine lv_goto (tgt := 3) hx hb dX11_copies_30 (by decide) ?_
        exact ih (x6 + (1 : Int32)) (upd g7 (p1 + x6).toNatClampNeg (g7 (p0 + x6).toNatClampNeg)) H locs ls (lv_sub hl [0, 1, 2, 3, 4] rfl) hP hD hS hf
  exact Ly5 FU (0 : Int32) t_all H locs ls (lv_sub hl [0, 1, 2, 3, 4] rfl) hP hD hS hLy5

def fX11_up (p0 : Int32) (p1 : Int32) : Option (Int32) :=
  gd (nz p1) (some (((p0 + p1) - (1 : Int32)) / p1))
set_option maxRecDepth 100000 in
set_option maxHeartbeats 4000000 in
theorem tX11_up (l : Launch) (G : gG) (p0 : Int32) (p1 : Int32) (o : Int32) (hf : fX11_up p0 p1 = some o) : mP G l yX11_up cX11_up 2 (some .int) 0 0 [.int p0, .int p1] [] (some (.int o)) := by
  refine mP_of (by decide) (Nat.le_of_ble_eq_true rfl) ?_
  intro p e s m below meth cd ls hx hb hml hown hts hr hlocks hl hP hG
  have hK := hG.1
  have hown : s.vm.findClass RX11 = some m.cls := hown
  have hl : lv_has ls 2 [(0, .int p0), (1, .int p1)] := hl
  have hS : va_S no s.heap s.heap [] := va_S.rf
  generalize ([] : List Loc) = locs at hS ⊢
  unfold fX11_up at hf
  show wG p l e 0 0 s m [.int p0, .int p1] below meth cd s.heap locs (pQ (some (.int o))) no (F0 m 0 ls [])
  refine lv_iload_n hx hb dX11_up_0 rfl (lv_at hl 0 rfl) ?_
  refine lv_iload_n hx hb dX11_up_1 rfl (lv_at hl 1 rfl) ?_
  refine lv_iadd hx hb dX11_up_2 ?_
  refine lv_iconst (v := 1) hx hb dX11_up_3 (by decide) ?_
  refine lv_isub hx hb dX11_up_4 ?_
  refine lv_iload_n hx hb dX11_up_5 rfl (lv_at hl 1 rfl) ?_
  obtain ⟨h3, hf⟩ := gd_some hf
  refine lv_idiv hx hb dX11_up_6 (nz_ne h3) ?_
  have hf := Option.some.inj hf
  subst hf
  exact pRet hx hb hr hlocks hS dX11_up_7

def fX11_isMux (p0 : Int32) : Bool :=
  (if p0 = (1 : Int32) then true else (if p0 = (2 : Int32) then true else (if p0 = (4 : Int32) then true else (if p0 = (8 : Int32) then true else false))))
set_option maxRecDepth 100000 in
set_option maxHeartbeats 4000000 in
theorem tX11_isMux (l : Launch) (G : gG) (p0 : Int32) (o : Bool) (hf : fX11_isMux p0 = o) : mP G l yX11_isMux cX11_isMux 1 (some .boolean) 0 0 [.int p0] [] (some (.int (bi o))) := by
  refine mP_of (by decide) (Nat.le_of_ble_eq_true rfl) ?_
  intro p e s m below meth cd ls hx hb hml hown hts hr hlocks hl hP hG
  have hK := hG.1
  have hown : s.vm.findClass RX11 = some m.cls := hown
  have hl : lv_has ls 1 [(0, .int p0)] := hl
  have hS : va_S no s.heap s.heap [] := va_S.rf
  generalize ([] : List Loc) = locs at hS ⊢
  unfold fX11_isMux at hf
  show wG p l e 0 0 s m [.int p0] below meth cd s.heap locs (pQ (some (.int (bi o)))) no (F0 m 0 ls [])
  refine lv_iload_n hx hb dX11_isMux_0 rfl (lv_at hl 0 rfl) ?_
  refine lv_iconst (v := 1) hx hb dX11_isMux_1 (by decide) ?_
  refine lv_icmp_eq (tgt := 21) hx hb dX11_isMux_2 (by decide) (fun c5 => ?_) (fun c5 => ?_)
  · have hf := if_t hf c5
    refine lv_iconst (v := 1) hx hb dX11_isMux_21 (by decide) ?_
    refine lv_goto (tgt := 26) hx hb dX11_isMux_22 (by decide) ?_
    subst hf
    exact pRetZ (v := true) hx hb hr hlocks hS dX11_isMux_26
  · have hf := if_f hf c5
    refine lv_iload_n hx hb dX11_isMux_5 rfl (lv_at hl 0 rfl) ?_
    refine lv_iconst (v := 2) hx hb dX11_isMux_6 (by decide) ?_
    refine lv_icmp_eq (tgt := 21) hx hb dX11_isMux_7 (by decide) (fun c6 => ?_) (fun c6 => ?_)
    · have hf := if_t hf c6
      refine lv_iconst (v := 1) hx hb dX11_isMux_21 (by decide) ?_
      refine lv_goto (tgt := 26) hx hb dX11_isMux_22 (by decide) ?_
      subst hf
      exact pRetZ (v := true) hx hb hr hlocks hS dX11_isMux_26
    · have hf := if_f hf c6
      refine lv_iload_n hx hb dX11_isMux_10 rfl (lv_at hl 0 rfl) ?_
      refine lv_iconst (v := 4) hx hb dX11_isMux_11 (by decide) ?_
      refine lv_icmp_eq (tgt := 21) hx hb dX11_isMux_12 (by decide) (fun c7 => ?_) (fun c7 => ?_)
      · have hf := if_t hf c7
        refine lv_iconst (v := 1) hx hb dX11_isMux_21 (by decide) ?_
        refine lv_goto (tgt := 26) hx hb dX11_isMux_22 (by decide) ?_
        subst hf
        exact pRetZ (v := true) hx hb hr hlocks hS dX11_isMux_26
      · have hf := if_f hf c7
        refine lv_iload_n hx hb dX11_isMux_15 rfl (lv_at hl 0 rfl) ?_
        refine lv_bipush (v := 8) hx hb dX11_isMux_16 (by decide) ?_
        refine lv_icmp_ne (tgt := 25) hx hb dX11_isMux_18 (by decide) (fun c8 => ?_) (fun c8 => ?_)
        · have hf := if_f hf c8
          refine lv_iconst (v := 0) hx hb dX11_isMux_25 (by decide) ?_
          subst hf
          exact pRetZ (v := false) hx hb hr hlocks hS dX11_isMux_26
        · have hf := if_t hf c8
          refine lv_iconst (v := 1) hx hb dX11_isMux_21 (by decide) ?_
          refine lv_goto (tgt := 26) hx hb dX11_isMux_22 (by decide) ?_
          subst hf
          exact pRetZ (v := true) hx hb hr hlocks hS dX11_isMux_26

def fX11_log_l2 (x0 : Int32) : Nat → Int32 → Option (Int32)
  | 0, _ => none
  | n + 1, x1 =>
    (if (x0 >>> ((x1 + (1 : Int32)) &&& 31)) ≤ 0 then some x1 else fX11_log_l2 x0 n (x1 + (1 : Int32)))
def fX11_log (p0 : Int32) : Option (Int32) :=
  bn (fX11_log_l2 p0 FU (0 : Int32)) fun y2 => some y2
set_option maxRecDepth 100000 in
set_option maxHeartbeats 4000000 in
theorem tX11_log (l : Launch) (G : gG) (p0 : Int32) (o : Int32) (hf : fX11_log p0 = some o) : mP G l yX11_log cX11_log 2 (some .int) 0 0 [.int p0] [] (some (.int o)) := by
  refine mP_of (by decide) (Nat.le_of_ble_eq_true rfl) ?_
  intro p e s m below meth cd ls hx hb hml hown hts hr hlocks hl hP hG
  have hK := hG.1
  have hown : s.vm.findClass RX11 = some m.cls := hown
  have hl : lv_has ls 2 [(0, .int p0)] := hl
  have hS : va_S no s.heap s.heap [] := va_S.rf
  generalize ([] : List Loc) = locs at hS ⊢
  unfold fX11_log at hf
  show wG p l e 0 0 s m [.int p0] below meth cd s.heap locs (pQ (some (.int o))) no (F0 m 0 ls [])
  refine lv_iconst (v := 0) hx hb dX11_log_0 (by decide) ?_
  refine lv_istore_n (lv' := [(1, .int (0 : Int32)), (0, .int p0)]) hx hb dX11_log_1 rfl hl (by decide) rfl (fun ls hl => ?_)
  obtain ⟨y3, hLy3, hky3⟩ := bn_some hf
  have Ey3 : ∀  (locs : List Loc) (ls : Array Slot), lv_has ls 2 [(1, .int y3)] → va_S no s.heap s.heap locs → wG p l e 0 0 s m [.int p0] below meth cd s.heap locs (pQ (some (.int o))) no (F0 m 16 ls []) := by
    intro  locs ls hl hS
    have hf := hky3
    refine lv_iload_n hx hb dX11_log_16 rfl (lv_at hl 0 rfl) ?_
    have hf := Option.some.inj hf
    subst hf
    exact pRet hx hb hr hlocks hS dX11_log_17
  have Ly3 : ∀ (n : Nat), ∀ (x4 : Int32) (locs : List Loc) (ls : Array Slot), lv_has ls 2 [(1, .int x4), (0, .int p0)] → va_S no s.heap s.heap locs → fX11_log_l2 p0 n x4 = some y3 → wG p l e 0 0 s m [.int p0] below meth cd s.heap locs (pQ (some (.int o))) no (F0 m 2 ls []) := by
    intro n
    induction n with
    | zero =>
      intro x4 locs ls hl hS hf
      rw [fX11_log_l2] at hf
      cases hf
    | succ n ih =>
      intro x4 locs ls hl hS hf
      rw [fX11_log_l2] at hf
      refine lv_iload_n hx hb dX11_log_2 rfl (lv_at hl 1 rfl) ?_
      refine lv_iload_n hx hb dX11_log_3 rfl (lv_at hl 0 rfl) ?_
      refine lv_iconst (v := 1) hx hb dX11_log_4 (by decide) ?_
      refine lv_iadd hx hb dX11_log_5 ?_
      refine lv_ishr hx hb dX11_log_6 ?_
      refine lv_if_le (tgt := 16) hx hb dX11_log_7 (by decide) (fun c5 => ?_) (fun c5 => ?_)
      · have hf := if_t hf c5
        have hf := Option.some.inj hf
        subst hf
        exact Ey3  locs ls (lv_sub hl [0] rfl) hS 
      · have hf := if_f hf c5
        refine lv_iinc (v := (x4 + (1 : Int32))) (lv' := [(1, .int (x4 + (1 : Int32))), (0, .int p0)]) hx hb dX11_log_10 hl (k := 0) rfl (ii_1 _) (by decide) rfl (fun ls hl => ?_)
        refine lv_goto (tgt := 2) hx hb dX11_log_13 (by decide) ?_
        exact ih (x4 + (1 : Int32)) locs ls (lv_sub hl [0, 1] rfl) hS hf
  exact Ly3 FU (0 : Int32) locs ls (lv_sub hl [0, 1] rfl) hS hLy3

def fX11_rows (t_all : Nat → Int32) (p0 : Int32) (p1 : Int32) : Option (Int32) :=
  gd (gi (p0 + (0 : Int32)) 43047) (gd (nz p1) (some ((t_all (p0 + (0 : Int32)).toNatClampNeg) / p1)))
set_option maxRecDepth 100000 in
set_option maxHeartbeats 4000000 in
theorem tX11_rows (l : Launch) (G : gG) (ad_t ad_t_all ad_t_tape ad_t_isImage ad_t_size ad_t_givenRow ad_t_givenColumn ad_t_newRow ad_t_view : Nat) (tI : Nat → Int32) (t_value : Int64) (t_all : Nat → Int32) (p0 : Int32) (p1 : Int32) (o : Int32) (hf : fX11_rows t_all p0 p1 = some o) : mP G l yX11_rows cX11_rows 3 (some .int) 0 0 [.ref ad_t, .int p0, .int p1] [(ad_t, .inr (11, [.ref ad_t_all, .ref ad_t_tape, .ref ad_t_isImage, .int (tI 3), .int (tI 4), .int (tI 5), .int (tI 6), .ref ad_t_size, .ref ad_t_givenRow, .ref ad_t_givenColumn, .ref ad_t_newRow, .int (tI 11), .int (tI 12), .int (tI 13), .int (tI 14), .int (tI 15), .int (tI 16), .int (tI 17), .int (tI 18), .int (tI 19), .ref ad_t_view, .int (tI 21), .int (tI 22), .int (tI 23), .int (tI 24), .int (tI 25), .long t_value, .int (tI 27), .int (tI 28)])), (ad_t_all, .inl (G.2.1 0, 43047, .inl t_all))] (some (.int o)) := by
  refine mP_of (by decide) (Nat.le_of_ble_eq_true rfl) ?_
  intro p e s m below meth cd ls hx hb hml hown hts hr hlocks hl hP hG
  have hK := hG.1
  have hown : s.vm.findClass RX11 = some m.cls := hown
  have hl : lv_has ls 3 [(0, .ref ad_t), (1, .int p0), (2, .int p1)] := hl
  have hS : va_S no s.heap s.heap [] := va_S.rf
  generalize ([] : List Loc) = locs at hS ⊢
  unfold fX11_rows at hf
  show wG p l e 0 0 s m [.ref ad_t, .int p0, .int p1] below meth cd s.heap locs (pQ (some (.int o))) no (F0 m 0 ls [])
  refine lv_aload_n hx hb dX11_rows_0 rfl (lv_at hl 0 rfl) ?_
  refine va_get (D := G.1) (cl := vwCl) (ci := 11) (v := .ref ad_t_all) (C := RX11) (T := TX11) (N := 29) hx hb hts inG11 hown hK hP 0 rfl rfl 0 (Nat.le_of_ble_eq_true rfl) (hts _ q1041) (fun _ h9 => h9) rfl dX11_rows_1 ?_
  refine lv_iload_n hx hb dX11_rows_4 rfl (lv_at hl 1 rfl) ?_
  refine lv_iconst (v := 0) hx hb dX11_rows_5 (by decide) ?_
  refine lv_iadd hx hb dX11_rows_6 ?_
  obtain ⟨h5, hf⟩ := gd_some hf
  refine va_iald (D := G.1) (cl := vwCl) hx hb hK hP 1 0 rfl rfl (gi_in h5) dX11_rows_7 ?_
  refine lv_iload_n hx hb dX11_rows_8 rfl (lv_at hl 2 rfl) ?_
  obtain ⟨h6, hf⟩ := gd_some hf
  refine lv_idiv hx hb dX11_rows_9 (nz_ne h6) ?_
  have hf := Option.some.inj hf
  subst hf
  exact pRet hx hb hr hlocks hS dX11_rows_10

def fX11_isPossible (t_all : Nat → Int32) (p0 : Int32) (p1 : Int32) : Option (Bool) :=
  (if (bi (fX11_isMux p1)) = 0 then some false else bn (fX11_rows t_all p0 p1) fun a2 => (if (bi (fX11_isIn a2 (8 : Int32) (512 : Int32))) = 0 then some false else some true))
set_option maxRecDepth 100000 in
set_option maxHeartbeats 4000000 in
theorem tX11_isPossible (l : Launch) (G : gG) (ad_t ad_t_all ad_t_tape ad_t_isImage ad_t_size ad_t_givenRow ad_t_givenColumn ad_t_newRow ad_t_view : Nat) (tI : Nat → Int32) (t_value : Int64) (t_all : Nat → Int32) (p0 : Int32) (p1 : Int32) (o : Bool) (hf : fX11_isPossible t_all p0 p1 = some o) : mP G l yX11_isPossible cX11_isPossible 3 (some .boolean) 1 22 [.ref ad_t, .int p0, .int p1] [(ad_t, .inr (11, [.ref ad_t_all, .ref ad_t_tape, .ref ad_t_isImage, .int (tI 3), .int (tI 4), .int (tI 5), .int (tI 6), .ref ad_t_size, .ref ad_t_givenRow, .ref ad_t_givenColumn, .ref ad_t_newRow, .int (tI 11), .int (tI 12), .int (tI 13), .int (tI 14), .int (tI 15), .int (tI 16), .int (tI 17), .int (tI 18), .int (tI 19), .ref ad_t_view, .int (tI 21), .int (tI 22), .int (tI 23), .int (tI 24), .int (tI 25), .long t_value, .int (tI 27), .int (tI 28)])), (ad_t_all, .inl (G.2.1 0, 43047, .inl t_all))] (some (.int (bi o))) := by
  refine mP_of (by decide) (Nat.le_of_ble_eq_true rfl) ?_
  intro p e s m below meth cd ls hx hb hml hown hts hr hlocks hl hP hG
  have hK := hG.1
  have hown : s.vm.findClass RX11 = some m.cls := hown
  have hl : lv_has ls 3 [(0, .ref ad_t), (1, .int p0), (2, .int p1)] := hl
  have hS : va_S no s.heap s.heap [] := va_S.rf
  generalize ([] : List Loc) = locs at hS ⊢
  unfold fX11_isPossible at hf
  show wG p l e 1 22 s m [.ref ad_t, .int p0, .int p1] below meth cd s.heap locs (pQ (some (.int (bi o)))) no (F0 m 0 ls [])
  refine lv_iload_n hx hb dX11_isPossible_0 rfl (lv_at hl 2 rfl) ?_
  refine kPS (tX11_isMux l G p1 _ rfl) ⟨hx, hb, hml, hown, hts⟩ q1140 q1141 q108 q1142 okyX11_isMux ⟨Nat.le_of_ble_eq_true rfl, Nat.le_of_ble_eq_true rfl⟩ hP hG hS [] rfl hl.1 rfl (Nat.le_of_ble_eq_true rfl) dX11_isPossible_1 ⟨Nat.zero_le _, Nat.zero_le _⟩ (fun locs hS => ?_)
  refine W.eq (g2 := F0 m 4 ls [.int (bi (fX11_isMux p1))]) rfl ?_
  refine lv_if_eq (tgt := 28) hx hb dX11_isPossible_4 (by decide) (fun c5 => ?_) (fun c5 => ?_)
  · have hf := if_t hf c5
    refine lv_iconst (v := 0) hx hb dX11_isPossible_28 (by decide) ?_
    have hf := Option.some.inj hf
    subst hf
    exact pRetZ (v := false) hx hb hr hlocks hS dX11_isPossible_29
  · have hf := if_f hf c5
    refine lv_aload_n hx hb dX11_isPossible_7 rfl (lv_at hl 0 rfl) ?_
    refine lv_iload_n hx hb dX11_isPossible_8 rfl (lv_at hl 1 rfl) ?_
    refine lv_iload_n hx hb dX11_isPossible_9 rfl (lv_at hl 2 rfl) ?_
    obtain ⟨a6, h7, hf⟩ := bn_some hf
    refine kPV (tX11_rows l G ad_t ad_t_all ad_t_tape ad_t_isImage ad_t_size ad_t_givenRow ad_t_givenColumn ad_t_newRow ad_t_view tI t_value t_all p0 p1 a6 h7) ⟨hx, hb, hml, hown, hts⟩ q1159 q1161 q43 q108 q1162 okyX11_rows ⟨Nat.le_of_ble_eq_true rfl, Nat.le_of_ble_eq_true rfl⟩ hP hG hS [0, 1] rfl 0 rfl rfl hl.1 rfl (Nat.le_of_ble_eq_true rfl) dX11_isPossible_10 ⟨Nat.zero_le _, Nat.zero_le _⟩ (fun locs hS => ?_)
    refine W.eq (g2 := F0 m 13 ls [.int a6]) rfl ?_
    refine lv_bipush (v := 8) hx hb dX11_isPossible_13 (by decide) ?_
    refine lv_sipush (v := 512) hx hb dX11_isPossible_15 (by decide) ?_
    refine kPS (tX11_isIn l G a6 (8 : Int32) (512 : Int32) _ rfl) ⟨hx, hb, hml, hown, hts⟩ q1137 q1138 q108 q1139 okyX11_isIn ⟨Nat.le_of_ble_eq_true rfl, Nat.le_of_ble_eq_true rfl⟩ hP hG hS [] rfl hl.1 rfl (Nat.le_of_ble_eq_true rfl) dX11_isPossible_18 ⟨Nat.zero_le _, Nat.zero_le _⟩ (fun locs hS => ?_)
    refine W.eq (g2 := F0 m 21 ls [.int (bi (fX11_isIn a6 (8 : Int32) (512 : Int32)))]) rfl ?_
    refine lv_if_eq (tgt := 28) hx hb dX11_isPossible_21 (by decide) (fun c8 => ?_) (fun c8 => ?_)
    · have hf := if_t hf c8
      refine lv_iconst (v := 0) hx hb dX11_isPossible_28 (by decide) ?_
      have hf := Option.some.inj hf
      subst hf
      exact pRetZ (v := false) hx hb hr hlocks hS dX11_isPossible_29
    · have hf := if_f hf c8
      refine lv_iconst (v := 1) hx hb dX11_isPossible_24 (by decide) ?_
      refine lv_goto (tgt := 29) hx hb dX11_isPossible_25 (by decide) ?_
      have hf := Option.some.inj hf
      subst hf
      exact pRetZ (v := true) hx hb hr hlocks hS dX11_isPossible_29

def fX11_columns (t_all : Nat → Int32) (p0 : Int32) (p1 : Int32) : Option (Int32) :=
  gd (gi (p0 + (1 : Int32)) 43047) (some ((t_all (p0 + (1 : Int32)).toNatClampNeg) * p1))
set_option maxRecDepth 100000 in
set_option maxHeartbeats 4000000 in
theorem tX11_columns (l : Launch) (G : gG) (ad_t ad_t_all ad_t_tape ad_t_isImage ad_t_size ad_t_givenRow ad_t_givenColumn ad_t_newRow ad_t_view : Nat) (tI : Nat → Int32) (t_value : Int64) (t_all : Nat → Int32) (p0 : Int32) (p1 : Int32) (o : Int32) (hf : fX11_columns t_all p0 p1 = some o) : mP G l yX11_columns cX11_columns 3 (some .int) 0 0 [.ref ad_t, .int p0, .int p1] [(ad_t, .inr (11, [.ref ad_t_all, .ref ad_t_tape, .ref ad_t_isImage, .int (tI 3), .int (tI 4), .int (tI 5), .int (tI 6), .ref ad_t_size, .ref ad_t_givenRow, .ref ad_t_givenColumn, .ref ad_t_newRow, .int (tI 11), .int (tI 12), .int (tI 13), .int (tI 14), .int (tI 15), .int (tI 16), .int (tI 17), .int (tI 18), .int (tI 19), .ref ad_t_view, .int (tI 21), .int (tI 22), .int (tI 23), .int (tI 24), .int (tI 25), .long t_value, .int (tI 27), .int (tI 28)])), (ad_t_all, .inl (G.2.1 0, 43047, .inl t_all))] (some (.int o)) := by
  refine mP_of (by decide) (Nat.le_of_ble_eq_true rfl) ?_
  intro p e s m below meth cd ls hx hb hml hown hts hr hlocks hl hP hG
  have hK := hG.1
  have hown : s.vm.findClass RX11 = some m.cls := hown
  have hl : lv_has ls 3 [(0, .ref ad_t), (1, .int p0), (2, .int p1)] := hl
  have hS : va_S no s.heap s.heap [] := va_S.rf
  generalize ([] : List Loc) = locs at hS ⊢
  unfold fX11_columns at hf
  show wG p l e 0 0 s m [.ref ad_t, .int p0, .int p1] below meth cd s.heap locs (pQ (some (.int o))) no (F0 m 0 ls [])
  refine lv_aload_n hx hb dX11_columns_0 rfl (lv_at hl 0 rfl) ?_
  refine va_get (D := G.1) (cl := vwCl) (ci := 11) (v := .ref ad_t_all) (C := RX11) (T := TX11) (N := 29) hx hb hts inG11 hown hK hP 0 rfl rfl 0 (Nat.le_of_ble_eq_true rfl) (hts _ q1041) (fun _ h9 => h9) rfl dX11_columns_1 ?_
  refine lv_iload_n hx hb dX11_columns_4 rfl (lv_at hl 1 rfl) ?_
  refine lv_iconst (v := 1) hx hb dX11_columns_5 (by decide) ?_
  refine lv_iadd hx hb dX11_columns_6 ?_
  obtain ⟨h3, hf⟩ := gd_some hf
  refine va_iald (D := G.1) (cl := vwCl) hx hb hK hP 1 0 rfl rfl (gi_in h3) dX11_columns_7 ?_
  refine lv_iload_n hx hb dX11_columns_8 rfl (lv_at hl 2 rfl) ?_
  refine lv_imul hx hb dX11_columns_9 ?_
  have hf := Option.some.inj hf
  subst hf
  exact pRet hx hb hr hlocks hS dX11_columns_10

def fX11_allRows (t_all : Nat → Int32) (p0 : Int32) (p1 : Int32) : Option (Int32) :=
  bn (fX11_rows t_all p0 p1) fun a1 => gd (gi (p0 + (3 : Int32)) 43047) (some ((a1 + (t_all (p0 + (3 : Int32)).toNatClampNeg)) + (1 : Int32)))
set_option maxRecDepth 100000 in
set_option maxHeartbeats 4000000 in
theorem tX11_allRows (l : Launch) (G : gG) (ad_t ad_t_all ad_t_tape ad_t_isImage ad_t_size ad_t_givenRow ad_t_givenColumn ad_t_newRow ad_t_view : Nat) (tI : Nat → Int32) (t_value : Int64) (t_all : Nat → Int32) (p0 : Int32) (p1 : Int32) (o : Int32) (hf : fX11_allRows t_all p0 p1 = some o) : mP G l yX11_allRows cX11_allRows 3 (some .int) 1 22 [.ref ad_t, .int p0, .int p1] [(ad_t, .inr (11, [.ref ad_t_all, .ref ad_t_tape, .ref ad_t_isImage, .int (tI 3), .int (tI 4), .int (tI 5), .int (tI 6), .ref ad_t_size, .ref ad_t_givenRow, .ref ad_t_givenColumn, .ref ad_t_newRow, .int (tI 11), .int (tI 12), .int (tI 13), .int (tI 14), .int (tI 15), .int (tI 16), .int (tI 17), .int (tI 18), .int (tI 19), .ref ad_t_view, .int (tI 21), .int (tI 22), .int (tI 23), .int (tI 24), .int (tI 25), .long t_value, .int (tI 27), .int (tI 28)])), (ad_t_all, .inl (G.2.1 0, 43047, .inl t_all))] (some (.int o)) := by
  refine mP_of (by decide) (Nat.le_of_ble_eq_true rfl) ?_
  intro p e s m below meth cd ls hx hb hml hown hts hr hlocks hl hP hG
  have hK := hG.1
  have hown : s.vm.findClass RX11 = some m.cls := hown
  have hl : lv_has ls 3 [(0, .ref ad_t), (1, .int p0), (2, .int p1)] := hl
  have hS : va_S no s.heap s.heap [] := va_S.rf
  generalize ([] : List Loc) = locs at hS ⊢
  unfold fX11_allRows at hf
  show wG p l e 1 22 s m [.ref ad_t, .int p0, .int p1] below meth cd s.heap locs (pQ (some (.int o))) no (F0 m 0 ls [])
  refine lv_aload_n hx hb dX11_allRows_0 rfl (lv_at hl 0 rfl) ?_
  refine lv_iload_n hx hb dX11_allRows_1 rfl (lv_at hl 1 rfl) ?_
  refine lv_iload_n hx hb dX11_allRows_2 rfl (lv_at hl 2 rfl) ?_
  obtain ⟨a4, h5, hf⟩ := bn_some hf
  refine kPV (tX11_rows l G ad_t ad_t_all ad_t_tape ad_t_isImage ad_t_size ad_t_givenRow ad_t_givenColumn ad_t_newRow ad_t_view tI t_value t_all p0 p1 a4 h5) ⟨hx, hb, hml, hown, hts⟩ q1159 q1161 q43 q108 q1162 okyX11_rows ⟨Nat.le_of_ble_eq_true rfl, Nat.le_of_ble_eq_true rfl⟩ hP hG hS [0, 1] rfl 0 rfl rfl hl.1 rfl (Nat.le_of_ble_eq_true rfl) dX11_allRows_3 ⟨Nat.zero_le _, Nat.zero_le _⟩ (fun locs hS => ?_)
  refine W.eq (g2 := F0 m 6 ls [.int a4]) rfl ?_
  refine lv_aload_n hx hb dX11_allRows_6 rfl (lv_at hl 0 rfl) ?_
  refine va_get (D := G.1) (cl := vwCl) (ci := 11) (v := .ref ad_t_all) (C := RX11) (T := TX11) (N := 29) hx hb hts inG11 hown hK hP 0 rfl rfl 0 (Nat.le_of_ble_eq_true rfl) (hts _ q1041) (fun _ h9 => h9) rfl dX11_allRows_7 ?_
  refine lv_iload_n hx hb dX11_allRows_10 rfl (lv_at hl 1 rfl) ?_
  refine lv_iconst (v := 3) hx hb dX11_allRows_11 (by decide) ?_
  refine lv_iadd hx hb dX11_allRows_12 ?_
  obtain ⟨h6, hf⟩ := gd_some hf
  refine va_iald (D := G.1) (cl := vwCl) hx hb hK hP 1 0 rfl rfl (gi_in h6) dX11_allRows_13 ?_
  refine lv_iadd hx hb dX11_allRows_14 ?_
  refine lv_iconst (v := 1) hx hb dX11_allRows_15 (by decide) ?_
  refine lv_iadd hx hb dX11_allRows_16 ?_
  have hf := Option.some.inj hf
  subst hf
  exact pRet hx hb hr hlocks hS dX11_allRows_17

def fX11_allColumns (t_all : Nat → Int32) (p0 : Int32) (p1 : Int32) : Option (Int32) :=
  bn (fX11_columns t_all p0 p1) fun a1 => gd (gi (p0 + (4 : Int32)) 43047) (some ((a1 + (t_all (p0 + (4 : Int32)).toNatClampNeg)) + (1 : Int32)))
set_option maxRecDepth 100000 in
set_option maxHeartbeats 4000000 in
theorem tX11_allColumns (l : Launch) (G : gG) (ad_t ad_t_all ad_t_tape ad_t_isImage ad_t_size ad_t_givenRow ad_t_givenColumn ad_t_newRow ad_t_view : Nat) (tI : Nat → Int32) (t_value : Int64) (t_all : Nat → Int32) (p0 : Int32) (p1 : Int32) (o : Int32) (hf : fX11_allColumns t_all p0 p1 = some o) : mP G l yX11_allColumns cX11_allColumns 3 (some .int) 1 22 [.ref ad_t, .int p0, .int p1] [(ad_t, .inr (11, [.ref ad_t_all, .ref ad_t_tape, .ref ad_t_isImage, .int (tI 3), .int (tI 4), .int (tI 5), .int (tI 6), .ref ad_t_size, .ref ad_t_givenRow, .ref ad_t_givenColumn, .ref ad_t_newRow, .int (tI 11), .int (tI 12), .int (tI 13), .int (tI 14), .int (tI 15), .int (tI 16), .int (tI 17), .int (tI 18), .int (tI 19), .ref ad_t_view, .int (tI 21), .int (tI 22), .int (tI 23), .int (tI 24), .int (tI 25), .long t_value, .int (tI 27), .int (tI 28)])), (ad_t_all, .inl (G.2.1 0, 43047, .inl t_all))] (some (.int o)) := by
  refine mP_of (by decide) (Nat.le_of_ble_eq_true rfl) ?_
  intro p e s m below meth cd ls hx hb hml hown hts hr hlocks hl hP hG
  have hK := hG.1
  have hown : s.vm.findClass RX11 = some m.cls := hown
  have hl : lv_has ls 3 [(0, .ref ad_t), (1, .int p0), (2, .int p1)] := hl
  have hS : va_S no s.heap s.heap [] := va_S.rf
  generalize ([] : List Loc) = locs at hS ⊢
  unfold fX11_allColumns at hf
  show wG p l e 1 22 s m [.ref ad_t, .int p0, .int p1] below meth cd s.heap locs (pQ (some (.int o))) no (F0 m 0 ls [])
  refine lv_aload_n hx hb dX11_allColumns_0 rfl (lv_at hl 0 rfl) ?_
  refine lv_iload_n hx hb dX11_allColumns_1 rfl (lv_at hl 1 rfl) ?_
  refine lv_iload_n hx hb dX11_allColumns_2 rfl (lv_at hl 2 rfl) ?_
  obtain ⟨a4, h5, hf⟩ := bn_some hf
  refine kPV (tX11_columns l G ad_t ad_t_all ad_t_tape ad_t_isImage ad_t_size ad_t_givenRow ad_t_givenColumn ad_t_newRow ad_t_view tI t_value t_all p0 p1 a4 h5) ⟨hx, hb, hml, hown, hts⟩ q1217 q1219 q56 q108 q1220 okyX11_columns ⟨Nat.le_of_ble_eq_true rfl, Nat.le_of_ble_eq_true rfl⟩ hP hG hS [0, 1] rfl 0 rfl rfl hl.1 rfl (Nat.le_of_ble_eq_true rfl) dX11_allColumns_3 ⟨Nat.zero_le _, Nat.zero_le _⟩ (fun locs hS => ?_)
  refine W.eq (g2 := F0 m 6 ls [.int a4]) rfl ?_
  refine lv_aload_n hx hb dX11_allColumns_6 rfl (lv_at hl 0 rfl) ?_
  refine va_get (D := G.1) (cl := vwCl) (ci := 11) (v := .ref ad_t_all) (C := RX11) (T := TX11) (N := 29) hx hb hts inG11 hown hK hP 0 rfl rfl 0 (Nat.le_of_ble_eq_true rfl) (hts _ q1041) (fun _ h9 => h9) rfl dX11_allColumns_7 ?_
  refine lv_iload_n hx hb dX11_allColumns_10 rfl (lv_at hl 1 rfl) ?_
  refine lv_iconst (v := 4) hx hb dX11_allColumns_11 (by decide) ?_
  refine lv_iadd hx hb dX11_allColumns_12 ?_
  obtain ⟨h6, hf⟩ := gd_some hf
  refine va_iald (D := G.1) (cl := vwCl) hx hb hK hP 1 0 rfl rfl (gi_in h6) dX11_allColumns_13 ?_
  refine lv_iadd hx hb dX11_allColumns_14 ?_
  refine lv_iconst (v := 1) hx hb dX11_allColumns_15 (by decide) ?_
  refine lv_iadd hx hb dX11_allColumns_16 ?_
  have hf := Option.some.inj hf
  subst hf
  exact pRet hx hb hr hlocks hS dX11_allColumns_17

def fX11_lines (t_all : Nat → Int32) (p0 : Int32) (p1 : Int32) : Option (Int32) :=
  bn (fX11_rows t_all p0 p1) fun a1 => bn (fX11_log a1) fun a3 => some a3
set_option maxRecDepth 100000 in
set_option maxHeartbeats 4000000 in
theorem tX11_lines (l : Launch) (G : gG) (ad_t ad_t_all ad_t_tape ad_t_isImage ad_t_size ad_t_givenRow ad_t_givenColumn ad_t_newRow ad_t_view : Nat) (tI : Nat → Int32) (t_value : Int64) (t_all : Nat → Int32) (p0 : Int32) (p1 : Int32) (o : Int32) (hf : fX11_lines t_all p0 p1 = some o) : mP G l yX11_lines cX11_lines 3 (some .int) 1 22 [.ref ad_t, .int p0, .int p1] [(ad_t, .inr (11, [.ref ad_t_all, .ref ad_t_tape, .ref ad_t_isImage, .int (tI 3), .int (tI 4), .int (tI 5), .int (tI 6), .ref ad_t_size, .ref ad_t_givenRow, .ref ad_t_givenColumn, .ref ad_t_newRow, .int (tI 11), .int (tI 12), .int (tI 13), .int (tI 14), .int (tI 15), .int (tI 16), .int (tI 17), .int (tI 18), .int (tI 19), .ref ad_t_view, .int (tI 21), .int (tI 22), .int (tI 23), .int (tI 24), .int (tI 25), .long t_value, .int (tI 27), .int (tI 28)])), (ad_t_all, .inl (G.2.1 0, 43047, .inl t_all))] (some (.int o)) := by
  refine mP_of (by decide) (Nat.le_of_ble_eq_true rfl) ?_
  intro p e s m below meth cd ls hx hb hml hown hts hr hlocks hl hP hG
  have hK := hG.1
  have hown : s.vm.findClass RX11 = some m.cls := hown
  have hl : lv_has ls 3 [(0, .ref ad_t), (1, .int p0), (2, .int p1)] := hl
  have hS : va_S no s.heap s.heap [] := va_S.rf
  generalize ([] : List Loc) = locs at hS ⊢
  unfold fX11_lines at hf
  show wG p l e 1 22 s m [.ref ad_t, .int p0, .int p1] below meth cd s.heap locs (pQ (some (.int o))) no (F0 m 0 ls [])
  refine lv_aload_n hx hb dX11_lines_0 rfl (lv_at hl 0 rfl) ?_
  refine lv_iload_n hx hb dX11_lines_1 rfl (lv_at hl 1 rfl) ?_
  refine lv_iload_n hx hb dX11_lines_2 rfl (lv_at hl 2 rfl) ?_
  obtain ⟨a5, h6, hf⟩ := bn_some hf
  refine kPV (tX11_rows l G ad_t ad_t_all ad_t_tape ad_t_isImage ad_t_size ad_t_givenRow ad_t_givenColumn ad_t_newRow ad_t_view tI t_value t_all p0 p1 a5 h6) ⟨hx, hb, hml, hown, hts⟩ q1159 q1161 q43 q108 q1162 okyX11_rows ⟨Nat.le_of_ble_eq_true rfl, Nat.le_of_ble_eq_true rfl⟩ hP hG hS [0, 1] rfl 0 rfl rfl hl.1 rfl (Nat.le_of_ble_eq_true rfl) dX11_lines_3 ⟨Nat.zero_le _, Nat.zero_le _⟩ (fun locs hS => ?_)
  refine W.eq (g2 := F0 m 6 ls [.int a5]) rfl ?_
  obtain ⟨a7, h8, hf⟩ := bn_some hf
  refine kPS (tX11_log l G a5 a7 h8) ⟨hx, hb, hml, hown, hts⟩ q1203 q1204 q108 q1205 okyX11_log ⟨Nat.le_of_ble_eq_true rfl, Nat.le_of_ble_eq_true rfl⟩ hP hG hS [] rfl hl.1 rfl (Nat.le_of_ble_eq_true rfl) dX11_lines_6 ⟨Nat.zero_le _, Nat.zero_le _⟩ (fun locs hS => ?_)
  refine W.eq (g2 := F0 m 9 ls [.int a7]) rfl ?_
  have hf := Option.some.inj hf
  subst hf
  exact pRet hx hb hr hlocks hS dX11_lines_9

def fX11_firstInputs (t_all : Nat → Int32) (p0 : Int32) (p1 : Int32) : Option (Int32) :=
  bn (fX11_lines t_all p0 p1) fun a1 => some (if a1 < (5 : Int32) then (2 : Int32) else (3 : Int32))
set_option maxRecDepth 100000 in
set_option maxHeartbeats 4000000 in
theorem tX11_firstInputs (l : Launch) (G : gG) (ad_t ad_t_all ad_t_tape ad_t_isImage ad_t_size ad_t_givenRow ad_t_givenColumn ad_t_newRow ad_t_view : Nat) (tI : Nat → Int32) (t_value : Int64) (t_all : Nat → Int32) (p0 : Int32) (p1 : Int32) (o : Int32) (hf : fX11_firstInputs t_all p0 p1 = some o) : mP G l yX11_firstInputs cX11_firstInputs 3 (some .int) 2 44 [.ref ad_t, .int p0, .int p1] [(ad_t, .inr (11, [.ref ad_t_all, .ref ad_t_tape, .ref ad_t_isImage, .int (tI 3), .int (tI 4), .int (tI 5), .int (tI 6), .ref ad_t_size, .ref ad_t_givenRow, .ref ad_t_givenColumn, .ref ad_t_newRow, .int (tI 11), .int (tI 12), .int (tI 13), .int (tI 14), .int (tI 15), .int (tI 16), .int (tI 17), .int (tI 18), .int (tI 19), .ref ad_t_view, .int (tI 21), .int (tI 22), .int (tI 23), .int (tI 24), .int (tI 25), .long t_value, .int (tI 27), .int (tI 28)])), (ad_t_all, .inl (G.2.1 0, 43047, .inl t_all))] (some (.int o)) := by
  refine mP_of (by decide) (Nat.le_of_ble_eq_true rfl) ?_
  intro p e s m below meth cd ls hx hb hml hown hts hr hlocks hl hP hG
  have hK := hG.1
  have hown : s.vm.findClass RX11 = some m.cls := hown
  have hl : lv_has ls 3 [(0, .ref ad_t), (1, .int p0), (2, .int p1)] := hl
  have hS : va_S no s.heap s.heap [] := va_S.rf
  generalize ([] : List Loc) = locs at hS ⊢
  unfold fX11_firstInputs at hf
  show wG p l e 2 44 s m [.ref ad_t, .int p0, .int p1] below meth cd s.heap locs (pQ (some (.int o))) no (F0 m 0 ls [])
  refine lv_aload_n hx hb dX11_firstInputs_0 rfl (lv_at hl 0 rfl) ?_
  refine lv_iload_n hx hb dX11_firstInputs_1 rfl (lv_at hl 1 rfl) ?_
  refine lv_iload_n hx hb dX11_firstInputs_2 rfl (lv_at hl 2 rfl) ?_
  obtain ⟨a5, h6, hf⟩ := bn_some hf
  refine kPV (tX11_lines l G ad_t ad_t_all ad_t_tape ad_t_isImage ad_t_size ad_t_givenRow ad_t_givenColumn ad_t_newRow ad_t_view tI t_value t_all p0 p1 a5 h6) ⟨hx, hb, hml, hown, hts⟩ q1199 q1201 q53 q108 q1202 okyX11_lines ⟨Nat.le_of_ble_eq_true rfl, Nat.le_of_ble_eq_true rfl⟩ hP hG hS [0, 1] rfl 0 rfl rfl hl.1 rfl (Nat.le_of_ble_eq_true rfl) dX11_firstInputs_3 ⟨Nat.zero_le _, Nat.zero_le _⟩ (fun locs hS => ?_)
  refine W.eq (g2 := F0 m 6 ls [.int a5]) rfl ?_
  refine lv_iconst (v := 5) hx hb dX11_firstInputs_6 (by decide) ?_
  have J7 : wG p l e 2 44 s m [.ref ad_t, .int p0, .int p1] below meth cd s.heap locs (pQ (some (.int o))) no (F0 m 15 ls [.int (if a5 < (5 : Int32) then (2 : Int32) else (3 : Int32))]) := by
    have hf := Option.some.inj hf
    subst hf
    exact pRet hx hb hr hlocks hS dX11_firstInputs_15
  refine lv_icmp_lt (tgt := 14) hx hb dX11_firstInputs_7 (by decide) (fun c8 => ?_) (fun c8 => ?_)
  · refine lv_iconst (v := 2) hx hb dX11_firstInputs_14 (by decide) ?_
    exact (mgT c8 J7)
  · refine lv_iconst (v := 3) hx hb dX11_firstInputs_10 (by decide) ?_
    refine lv_goto (tgt := 15) hx hb dX11_firstInputs_11 (by decide) ?_
    exact (mgF c8 J7)

def fX11_lastInputs (t_all : Nat → Int32) (p0 : Int32) (p1 : Int32) : Option (Int32) :=
  bn (fX11_lines t_all p0 p1) fun a1 => bn (fX11_firstInputs t_all p0 p1) fun a3 => bn (fX11_up a1 a3) fun a5 => some a5
set_option maxRecDepth 100000 in
set_option maxHeartbeats 4000000 in
theorem tX11_lastInputs (l : Launch) (G : gG) (ad_t ad_t_all ad_t_tape ad_t_isImage ad_t_size ad_t_givenRow ad_t_givenColumn ad_t_newRow ad_t_view : Nat) (tI : Nat → Int32) (t_value : Int64) (t_all : Nat → Int32) (p0 : Int32) (p1 : Int32) (o : Int32) (hf : fX11_lastInputs t_all p0 p1 = some o) : mP G l yX11_lastInputs cX11_lastInputs 3 (some .int) 3 66 [.ref ad_t, .int p0, .int p1] [(ad_t, .inr (11, [.ref ad_t_all, .ref ad_t_tape, .ref ad_t_isImage, .int (tI 3), .int (tI 4), .int (tI 5), .int (tI 6), .ref ad_t_size, .ref ad_t_givenRow, .ref ad_t_givenColumn, .ref ad_t_newRow, .int (tI 11), .int (tI 12), .int (tI 13), .int (tI 14), .int (tI 15), .int (tI 16), .int (tI 17), .int (tI 18), .int (tI 19), .ref ad_t_view, .int (tI 21), .int (tI 22), .int (tI 23), .int (tI 24), .int (tI 25), .long t_value, .int (tI 27), .int (tI 28)])), (ad_t_all, .inl (G.2.1 0, 43047, .inl t_all))] (some (.int o)) := by
  refine mP_of (by decide) (Nat.le_of_ble_eq_true rfl) ?_
  intro p e s m below meth cd ls hx hb hml hown hts hr hlocks hl hP hG
  have hK := hG.1
  have hown : s.vm.findClass RX11 = some m.cls := hown
  have hl : lv_has ls 3 [(0, .ref ad_t), (1, .int p0), (2, .int p1)] := hl
  have hS : va_S no s.heap s.heap [] := va_S.rf
  generalize ([] : List Loc) = locs at hS ⊢
  unfold fX11_lastInputs at hf
  show wG p l e 3 66 s m [.ref ad_t, .int p0, .int p1] below meth cd s.heap locs (pQ (some (.int o))) no (F0 m 0 ls [])
  refine lv_aload_n hx hb dX11_lastInputs_0 rfl (lv_at hl 0 rfl) ?_
  refine lv_iload_n hx hb dX11_lastInputs_1 rfl (lv_at hl 1 rfl) ?_
  refine lv_iload_n hx hb dX11_lastInputs_2 rfl (lv_at hl 2 rfl) ?_
  obtain ⟨a7, h8, hf⟩ := bn_some hf
  refine kPV (tX11_lines l G ad_t ad_t_all ad_t_tape ad_t_isImage ad_t_size ad_t_givenRow ad_t_givenColumn ad_t_newRow ad_t_view tI t_value t_all p0 p1 a7 h8) ⟨hx, hb, hml, hown, hts⟩ q1199 q1201 q53 q108 q1202 okyX11_lines ⟨Nat.le_of_ble_eq_true rfl, Nat.le_of_ble_eq_true rfl⟩ hP hG hS [0, 1] rfl 0 rfl rfl hl.1 rfl (Nat.le_of_ble_eq_true rfl) dX11_lastInputs_3 ⟨Nat.zero_le _, Nat.zero_le _⟩ (fun locs hS => ?_)
  refine W.eq (g2 := F0 m 6 ls [.int a7]) rfl ?_
  refine lv_aload_n hx hb dX11_lastInputs_6 rfl (lv_at hl 0 rfl) ?_
  refine lv_iload_n hx hb dX11_lastInputs_7 rfl (lv_at hl 1 rfl) ?_
  refine lv_iload_n hx hb dX11_lastInputs_8 rfl (lv_at hl 2 rfl) ?_
  obtain ⟨a9, h10, hf⟩ := bn_some hf
  refine kPV (tX11_firstInputs l G ad_t ad_t_all ad_t_tape ad_t_isImage ad_t_size ad_t_givenRow ad_t_givenColumn ad_t_newRow ad_t_view tI t_value t_all p0 p1 a9 h10) ⟨hx, hb, hml, hown, hts⟩ q1195 q1197 q52 q108 q1198 okyX11_firstInputs ⟨Nat.le_of_ble_eq_true rfl, Nat.le_of_ble_eq_true rfl⟩ hP hG hS [0, 1] rfl 0 rfl rfl hl.1 rfl (Nat.le_of_ble_eq_true rfl) dX11_lastInputs_9 ⟨Nat.zero_le _, Nat.zero_le _⟩ (fun locs hS => ?_)
  refine W.eq (g2 := F0 m 12 ls [.int a9, .int a7]) rfl ?_
  obtain ⟨a11, h12, hf⟩ := bn_some hf
  refine kPS (tX11_up l G a7 a9 a11 h12) ⟨hx, hb, hml, hown, hts⟩ q1210 q1211 q108 q1212 okyX11_up ⟨Nat.le_of_ble_eq_true rfl, Nat.le_of_ble_eq_true rfl⟩ hP hG hS [] rfl hl.1 rfl (Nat.le_of_ble_eq_true rfl) dX11_lastInputs_12 ⟨Nat.zero_le _, Nat.zero_le _⟩ (fun locs hS => ?_)
  refine W.eq (g2 := F0 m 15 ls [.int a11]) rfl ?_
  have hf := Option.some.inj hf
  subst hf
  exact pRet hx hb hr hlocks hS dX11_lastInputs_15

def fX11_power_l5 (x0 : Int32) (x1 : Int32) : Nat → Int64 → Int32 → Option (Int64)
  | 0, _, _ => none
  | n + 1, x2, x4 =>
    (if x1 ≤ x4 then some x2 else fX11_power_l5 x0 x1 n (x2 * (x0.toInt64)) (x4 + (1 : Int32)))
def fX11_power (p0 : Int32) (p1 : Int32) : Option (Int64) :=
  bn (fX11_power_l5 p0 p1 FU (1 : Int64) (0 : Int32)) fun y2 => some y2
set_option maxRecDepth 100000 in
set_option maxHeartbeats 4000000 in
theorem tX11_power (l : Launch) (G : gG) (p0 : Int32) (p1 : Int32) (o : Int64) (hf : fX11_power p0 p1 = some o) : mP G l yX11_power cX11_power 5 (some .long) 0 0 [.int p0, .int p1] [] (some (.long o)) := by
  refine mP_of (by decide) (Nat.le_of_ble_eq_true rfl) ?_
  intro p e s m below meth cd ls hx hb hml hown hts hr hlocks hl hP hG
  have hK := hG.1
  have hown : s.vm.findClass RX11 = some m.cls := hown
  have hl : lv_has ls 5 [(0, .int p0), (1, .int p1)] := hl
  have hS : va_S no s.heap s.heap [] := va_S.rf
  generalize ([] : List Loc) = locs at hS ⊢
  unfold fX11_power at hf
  show wG p l e 0 0 s m [.int p0, .int p1] below meth cd s.heap locs (pQ (some (.long o))) no (F0 m 0 ls [])
  refine lv_lconst (v := 1) hx hb dX11_power_0 (by decide) ?_
  refine lv_lstore_n (lv' := [(2, .long (1 : Int64)), (0, .int p0), (1, .int p1)]) hx hb dX11_power_1 rfl hl (by decide) rfl (fun ls hl => ?_)
  refine lv_iconst (v := 0) hx hb dX11_power_2 (by decide) ?_
  refine lv_istore (lv' := [(4, .int (0 : Int32)), (2, .long (1 : Int64)), (0, .int p0), (1, .int p1)]) hx hb dX11_power_3 hl (by decide) rfl (fun ls hl => ?_)
  obtain ⟨y3, hLy3, hky3⟩ := bn_some hf
  have Ey3 : ∀  (locs : List Loc) (ls : Array Slot), lv_has ls 5 [(2, .long y3)] → va_S no s.heap s.heap locs → wG p l e 0 0 s m [.int p0, .int p1] below meth cd s.heap locs (pQ (some (.long o))) no (F0 m 22 ls []) := by
    intro  locs ls hl hS
    have hf := hky3
    refine lv_lload_n hx hb dX11_power_22 rfl (lv_at hl 0 rfl) ?_
    have hf := Option.some.inj hf
    subst hf
    exact pRetL hx hb hr hlocks hS dX11_power_23
  have Ly3 : ∀ (n : Nat), ∀ (x4 : Int64) (x5 : Int32) (locs : List Loc) (ls : Array Slot), lv_has ls 5 [(4, .int x5), (2, .long x4), (0, .int p0), (1, .int p1)] → va_S no s.heap s.heap locs → fX11_power_l5 p0 p1 n x4 x5 = some y3 → wG p l e 0 0 s m [.int p0, .int p1] below meth cd s.heap locs (pQ (some (.long o))) no (F0 m 5 ls []) := by
    intro n
    induction n with
    | zero =>
      intro x4 x5 locs ls hl hS hf
      rw [fX11_power_l5] at hf
      cases hf
    | succ n ih =>
      intro x4 x5 locs ls hl hS hf
      rw [fX11_power_l5] at hf
      refine lv_iload hx hb dX11_power_5 (lv_at hl 0 rfl) ?_
      refine lv_iload_n hx hb dX11_power_7 rfl (lv_at hl 3 rfl) ?_
      refine lv_icmp_ge (tgt := 22) hx hb dX11_power_8 (by decide) (fun c6 => ?_) (fun c6 => ?_)
      · have hf := if_t hf c6
        have hf := Option.some.inj hf
        subst hf
        exact Ey3  locs ls (lv_sub hl [1] rfl) hS 
      · have hf := if_f hf c6
        refine lv_lload_n hx hb dX11_power_11 rfl (lv_at hl 1 rfl) ?_
        refine lv_iload_n hx hb dX11_power_12 rfl (lv_at hl 2 rfl) ?_
        refine lv_i2l (v := (p0.toInt64)) hx hb dX11_power_13 rfl ?_
        refine lv_lmul hx hb dX11_power_14 ?_
        refine lv_lstore_n (lv' := [(2, .long (x4 * (p0.toInt64))), (4, .int x5), (0, .int p0), (1, .int p1)]) hx hb dX11_power_15 rfl hl (by decide) rfl (fun ls hl => ?_)
        refine lv_iinc (v := (x5 + (1 : Int32))) (lv' := [(4, .int (x5 + (1 : Int32))), (2, .long (x4 * (p0.toInt64))), (0, .int p0), (1, .int p1)]) hx hb dX11_power_16 hl (k := 1) rfl (ii_1 _) (by decide) rfl (fun ls hl => ?_)
        refine lv_goto (tgt := 5) hx hb dX11_power_19 (by decide) ?_
        exact ih (x4 * (p0.toInt64)) (x5 + (1 : Int32)) locs ls (lv_sub hl [0, 1, 2, 3] rfl) hS hf
  exact Ly3 FU (1 : Int64) (0 : Int32) locs ls (lv_sub hl [0, 1, 2, 3] rfl) hS hLy3

def fX11_tenths_l54 (x3 : Int32) (x4 : Int64) (x6 : Int32) : Nat → Int32 → Option (Int32)
  | 0, _ => none
  | n + 1, x7 =>
    bn (fX11_power (x7 + x6) x3) fun a9 => bn (fX11_power (10 : Int32) x3) fun a11 => (if 0 ≤ (lg_cmp ((18 : Int64) * a9) (x4 * a11)) then some x7 else fX11_tenths_l54 x3 x4 x6 n (x7 + x6))
def fX11_tenths_l90 (x3 : Int32) (x4 : Int64) : Nat → Int32 → Option (Int32)
  | 0, _ => none
  | n + 1, x7 =>
    bn (fX11_power x7 x3) fun a15 => bn (fX11_power (10 : Int32) x3) fun a17 => (if 0 ≤ (lg_cmp ((18 : Int64) * a15) (x4 * a17)) then some x7 else fX11_tenths_l90 x3 x4 n (x7 + (1 : Int32)))
def fX11_tenths (t_all : Nat → Int32) (p0 : Int32) (p1 : Int32) (p2 : Int32) : Option (Int32) :=
  bn (fX11_firstInputs t_all p0 p1) fun a1 => bn (fX11_lastInputs t_all p0 p1) fun a3 => bn (fX11_rows t_all p0 p1) fun a5 => bn (fX11_allColumns t_all p0 p1) fun a7 => bn (fX11_tenths_l54 p2 (((((a1 + (2 : Int32)).toInt64) * ((a3 + (2 : Int32)).toInt64)) * (a5.toInt64)) * (a7.toInt64)) (if p2 = (2 : Int32) then (64 : Int32) else (8 : Int32)) FU (0 : Int32)) fun y14 => bn (fX11_tenths_l90 p2 (((((a1 + (2 : Int32)).toInt64) * ((a3 + (2 : Int32)).toInt64)) * (a5.toInt64)) * (a7.toInt64)) FU y14) fun y20 => some y20
set_option maxRecDepth 100000 in
set_option maxHeartbeats 4000000 in
theorem tX11_tenths (l : Launch) (G : gG) (ad_t ad_t_all ad_t_tape ad_t_isImage ad_t_size ad_t_givenRow ad_t_givenColumn ad_t_newRow ad_t_view : Nat) (tI : Nat → Int32) (t_value : Int64) (t_all : Nat → Int32) (p0 : Int32) (p1 : Int32) (p2 : Int32) (o : Int32) (hf : fX11_tenths t_all p0 p1 p2 = some o) : mP G l yX11_tenths cX11_tenths 8 (some .int) 4 88 [.ref ad_t, .int p0, .int p1, .int p2] [(ad_t, .inr (11, [.ref ad_t_all, .ref ad_t_tape, .ref ad_t_isImage, .int (tI 3), .int (tI 4), .int (tI 5), .int (tI 6), .ref ad_t_size, .ref ad_t_givenRow, .ref ad_t_givenColumn, .ref ad_t_newRow, .int (tI 11), .int (tI 12), .int (tI 13), .int (tI 14), .int (tI 15), .int (tI 16), .int (tI 17), .int (tI 18), .int (tI 19), .ref ad_t_view, .int (tI 21), .int (tI 22), .int (tI 23), .int (tI 24), .int (tI 25), .long t_value, .int (tI 27), .int (tI 28)])), (ad_t_all, .inl (G.2.1 0, 43047, .inl t_all))] (some (.int o)) := by
  refine mP_of (by decide) (Nat.le_of_ble_eq_true rfl) ?_
  intro p e s m below meth cd ls hx hb hml hown hts hr hlocks hl hP hG
  have hK := hG.1
  have hown : s.vm.findClass RX11 = some m.cls := hown
  have hl : lv_has ls 8 [(0, .ref ad_t), (1, .int p0), (2, .int p1), (3, .int p2)] := hl
  have hS : va_S no s.heap s.heap [] := va_S.rf
  generalize ([] : List Loc) = locs at hS ⊢
  unfold fX11_tenths at hf
  show wG p l e 4 88 s m [.ref ad_t, .int p0, .int p1, .int p2] below meth cd s.heap locs (pQ (some (.int o))) no (F0 m 0 ls [])
  refine lv_aload_n hx hb dX11_tenths_0 rfl (lv_at hl 0 rfl) ?_
  refine lv_iload_n hx hb dX11_tenths_1 rfl (lv_at hl 1 rfl) ?_
  refine lv_iload_n hx hb dX11_tenths_2 rfl (lv_at hl 2 rfl) ?_
  obtain ⟨a23, h24, hf⟩ := bn_some hf
  refine kPV (tX11_firstInputs l G ad_t ad_t_all ad_t_tape ad_t_isImage ad_t_size ad_t_givenRow ad_t_givenColumn ad_t_newRow ad_t_view tI t_value t_all p0 p1 a23 h24) ⟨hx, hb, hml, hown, hts⟩ q1195 q1197 q52 q108 q1198 okyX11_firstInputs ⟨Nat.le_of_ble_eq_true rfl, Nat.le_of_ble_eq_true rfl⟩ hP hG hS [0, 1] rfl 0 rfl rfl hl.1 rfl (Nat.le_of_ble_eq_true rfl) dX11_tenths_3 ⟨Nat.zero_le _, Nat.zero_le _⟩ (fun locs hS => ?_)
  refine W.eq (g2 := F0 m 6 ls [.int a23]) rfl ?_
  refine lv_iconst (v := 2) hx hb dX11_tenths_6 (by decide) ?_
  refine lv_iadd hx hb dX11_tenths_7 ?_
  refine lv_i2l (v := ((a23 + (2 : Int32)).toInt64)) hx hb dX11_tenths_8 rfl ?_
  refine lv_aload_n hx hb dX11_tenths_9 rfl (lv_at hl 0 rfl) ?_
  refine lv_iload_n hx hb dX11_tenths_10 rfl (lv_at hl 1 rfl) ?_
  refine lv_iload_n hx hb dX11_tenths_11 rfl (lv_at hl 2 rfl) ?_
  obtain ⟨a25, h26, hf⟩ := bn_some hf
  refine kPV (tX11_lastInputs l G ad_t ad_t_all ad_t_tape ad_t_isImage ad_t_size ad_t_givenRow ad_t_givenColumn ad_t_newRow ad_t_view tI t_value t_all p0 p1 a25 h26) ⟨hx, hb, hml, hown, hts⟩ q1206 q1208 q54 q108 q1209 okyX11_lastInputs ⟨Nat.le_of_ble_eq_true rfl, Nat.le_of_ble_eq_true rfl⟩ hP hG hS [0, 1] rfl 0 rfl rfl hl.1 rfl (Nat.le_of_ble_eq_true rfl) dX11_tenths_12 ⟨Nat.zero_le _, Nat.zero_le _⟩ (fun locs hS => ?_)
  refine W.eq (g2 := F0 m 15 ls [.int a25, .long ((a23 + (2 : Int32)).toInt64)]) rfl ?_
  refine lv_iconst (v := 2) hx hb dX11_tenths_15 (by decide) ?_
  refine lv_iadd hx hb dX11_tenths_16 ?_
  refine lv_i2l (v := ((a25 + (2 : Int32)).toInt64)) hx hb dX11_tenths_17 rfl ?_
  refine lv_lmul hx hb dX11_tenths_18 ?_
  refine lv_aload_n hx hb dX11_tenths_19 rfl (lv_at hl 0 rfl) ?_
  refine lv_iload_n hx hb dX11_tenths_20 rfl (lv_at hl 1 rfl) ?_
  refine lv_iload_n hx hb dX11_tenths_21 rfl (lv_at hl 2 rfl) ?_
  obtain ⟨a27, h28, hf⟩ := bn_some hf
  refine kPV (tX11_rows l G ad_t ad_t_all ad_t_tape ad_t_isImage ad_t_size ad_t_givenRow ad_t_givenColumn ad_t_newRow ad_t_view tI t_value t_all p0 p1 a27 h28) ⟨hx, hb, hml, hown, hts⟩ q1159 q1161 q43 q108 q1162 okyX11_rows ⟨Nat.le_of_ble_eq_true rfl, Nat.le_of_ble_eq_true rfl⟩ hP hG hS [0, 1] rfl 0 rfl rfl hl.1 rfl (Nat.le_of_ble_eq_true rfl) dX11_tenths_22 ⟨Nat.zero_le _, Nat.zero_le _⟩ (fun locs hS => ?_)
  refine W.eq (g2 := F0 m 25 ls [.int a27, .long (((a23 + (2 : Int32)).toInt64) * ((a25 + (2 : Int32)).toInt64))]) rfl ?_
  refine lv_i2l (v := (a27.toInt64)) hx hb dX11_tenths_25 rfl ?_
  refine lv_lmul hx hb dX11_tenths_26 ?_
  refine lv_aload_n hx hb dX11_tenths_27 rfl (lv_at hl 0 rfl) ?_
  refine lv_iload_n hx hb dX11_tenths_28 rfl (lv_at hl 1 rfl) ?_
  refine lv_iload_n hx hb dX11_tenths_29 rfl (lv_at hl 2 rfl) ?_
  obtain ⟨a29, h30, hf⟩ := bn_some hf
  refine kPV (tX11_allColumns l G ad_t ad_t_all ad_t_tape ad_t_isImage ad_t_size ad_t_givenRow ad_t_givenColumn ad_t_newRow ad_t_view tI t_value t_all p0 p1 a29 h30) ⟨hx, hb, hml, hown, hts⟩ q1213 q1215 q55 q108 q1216 okyX11_allColumns ⟨Nat.le_of_ble_eq_true rfl, Nat.le_of_ble_eq_true rfl⟩ hP hG hS [0, 1] rfl 0 rfl rfl hl.1 rfl (Nat.le_of_ble_eq_true rfl) dX11_tenths_30 ⟨Nat.zero_le _, Nat.zero_le _⟩ (fun locs hS => ?_)
  refine W.eq (g2 := F0 m 33 ls [.int a29, .long ((((a23 + (2 : Int32)).toInt64) * ((a25 + (2 : Int32)).toInt64)) * (a27.toInt64))]) rfl ?_
  refine lv_i2l (v := (a29.toInt64)) hx hb dX11_tenths_33 rfl ?_
  refine lv_lmul hx hb dX11_tenths_34 ?_
  refine lv_lstore (lv' := [(4, .long (((((a23 + (2 : Int32)).toInt64) * ((a25 + (2 : Int32)).toInt64)) * (a27.toInt64)) * (a29.toInt64))), (0, .ref ad_t), (1, .int p0), (2, .int p1), (3, .int p2)]) hx hb dX11_tenths_35 hl (by decide) rfl (fun ls hl => ?_)
  refine lv_iload_n hx hb dX11_tenths_37 rfl (lv_at hl 4 rfl) ?_
  refine lv_iconst (v := 2) hx hb dX11_tenths_38 (by decide) ?_
  have J45 : wG p l e 4 88 s m [.ref ad_t, .int p0, .int p1, .int p2] below meth cd s.heap locs (pQ (some (.int o))) no (F0 m 49 ls [.int (if p2 = (2 : Int32) then (64 : Int32) else (8 : Int32))]) := by
    refine lv_istore (lv' := [(6, .int (if p2 = (2 : Int32) then (64 : Int32) else (8 : Int32))), (4, .long (((((a23 + (2 : Int32)).toInt64) * ((a25 + (2 : Int32)).toInt64)) * (a27.toInt64)) * (a29.toInt64))), (0, .ref ad_t), (1, .int p0), (2, .int p1), (3, .int p2)]) hx hb dX11_tenths_49 hl (by decide) rfl (fun ls hl => ?_)
    refine lv_iconst (v := 0) hx hb dX11_tenths_51 (by decide) ?_
    refine lv_istore (lv' := [(7, .int (0 : Int32)), (6, .int (if p2 = (2 : Int32) then (64 : Int32) else (8 : Int32))), (4, .long (((((a23 + (2 : Int32)).toInt64) * ((a25 + (2 : Int32)).toInt64)) * (a27.toInt64)) * (a29.toInt64))), (0, .ref ad_t), (1, .int p0), (2, .int p1), (3, .int p2)]) hx hb dX11_tenths_52 hl (by decide) rfl (fun ls hl => ?_)
    obtain ⟨y31, hLy31, hky31⟩ := bn_some hf
    have Ey31 : ∀  (locs : List Loc) (ls : Array Slot), lv_has ls 8 [(7, .int y31), (4, .long (((((a23 + (2 : Int32)).toInt64) * ((a25 + (2 : Int32)).toInt64)) * (a27.toInt64)) * (a29.toInt64))), (3, .int p2)] → va_S no s.heap s.heap locs → wG p l e 4 88 s m [.ref ad_t, .int p0, .int p1, .int p2] below meth cd s.heap locs (pQ (some (.int o))) no (F0 m 90 ls []) := by
      intro  locs ls hl hS
      have hf := hky31
      obtain ⟨y32, hLy32, hky32⟩ := bn_some hf
      have Ey32 : ∀  (locs : List Loc) (ls : Array Slot), lv_has ls 8 [(7, .int y32)] → va_S no s.heap s.heap locs → wG p l e 4 88 s m [.ref ad_t, .int p0, .int p1, .int p2] below meth cd s.heap locs (pQ (some (.int o))) no (F0 m 119 ls []) := by
        intro  locs ls hl hS
        have hf := hky32
        refine lv_iload hx hb dX11_tenths_119 (lv_at hl 0 rfl) ?_
        have hf := Option.some.inj hf
        subst hf
        exact pRet hx hb hr hlocks hS dX11_tenths_121
      have Ly32 : ∀ (n : Nat), ∀ (x33 : Int32) (locs : List Loc) (ls : Array Slot), lv_has ls 8 [(7, .int x33), (4, .long (((((a23 + (2 : Int32)).toInt64) * ((a25 + (2 : Int32)).toInt64)) * (a27.toInt64)) * (a29.toInt64))), (3, .int p2)] → va_S no s.heap s.heap locs → fX11_tenths_l90 p2 (((((a23 + (2 : Int32)).toInt64) * ((a25 + (2 : Int32)).toInt64)) * (a27.toInt64)) * (a29.toInt64)) n x33 = some y32 → wG p l e 4 88 s m [.ref ad_t, .int p0, .int p1, .int p2] below meth cd s.heap locs (pQ (some (.int o))) no (F0 m 90 ls []) := by
        intro n
        induction n with
        | zero =>
          intro x33 locs ls hl hS hf
          rw [fX11_tenths_l90] at hf
          cases hf
        | succ n ih =>
          intro x33 locs ls hl hS hf
          rw [fX11_tenths_l90] at hf
          refine lv_ldc2 (v := (18 : Int64)) hx hb hown (hts _ q1221) dX11_tenths_90 ?_
          refine lv_iload hx hb dX11_tenths_93 (lv_at hl 0 rfl) ?_
          refine lv_iload_n hx hb dX11_tenths_95 rfl (lv_at hl 2 rfl) ?_
          obtain ⟨a34, h35, hf⟩ := bn_some hf
          refine kPS (tX11_power l G x33 p2 a34 h35) ⟨hx, hb, hml, hown, hts⟩ q1222 q1223 q108 q1224 okyX11_power ⟨Nat.le_of_ble_eq_true rfl, Nat.le_of_ble_eq_true rfl⟩ hP hG hS [] rfl hl.1 rfl (Nat.le_of_ble_eq_true rfl) dX11_tenths_96 ⟨Nat.zero_le _, Nat.zero_le _⟩ (fun locs hS => ?_)
          refine W.eq (g2 := F0 m 99 ls [.long a34, .long (18 : Int64)]) rfl ?_
          refine lv_lmul hx hb dX11_tenths_99 ?_
          refine lv_lload hx hb dX11_tenths_100 (lv_at hl 1 rfl) ?_
          refine lv_bipush (v := 10) hx hb dX11_tenths_102 (by decide) ?_
          refine lv_iload_n hx hb dX11_tenths_104 rfl (lv_at hl 2 rfl) ?_
          obtain ⟨a36, h37, hf⟩ := bn_some hf
          refine kPS (tX11_power l G (10 : Int32) p2 a36 h37) ⟨hx, hb, hml, hown, hts⟩ q1222 q1223 q108 q1224 okyX11_power ⟨Nat.le_of_ble_eq_true rfl, Nat.le_of_ble_eq_true rfl⟩ hP hG hS [] rfl hl.1 rfl (Nat.le_of_ble_eq_true rfl) dX11_tenths_105 ⟨Nat.zero_le _, Nat.zero_le _⟩ (fun locs hS => ?_)
          refine W.eq (g2 := F0 m 108 ls [.long a36, .long (((((a23 + (2 : Int32)).toInt64) * ((a25 + (2 : Int32)).toInt64)) * (a27.toInt64)) * (a29.toInt64)), .long ((18 : Int64) * a34)]) rfl ?_
          refine lv_lmul hx hb dX11_tenths_108 ?_
          refine W.lcmp hx hb dX11_tenths_109 ?_
          refine lv_if_ge (tgt := 119) hx hb dX11_tenths_110 (by decide) (fun c38 => ?_) (fun c38 => ?_)
          · have hf := if_t hf c38
            have hf := Option.some.inj hf
            subst hf
            exact Ey32  locs ls (lv_sub hl [0] rfl) hS 
          · have hf := if_f hf c38
            refine lv_iinc (v := (x33 + (1 : Int32))) (lv' := [(7, .int (x33 + (1 : Int32))), (4, .long (((((a23 + (2 : Int32)).toInt64) * ((a25 + (2 : Int32)).toInt64)) * (a27.toInt64)) * (a29.toInt64))), (3, .int p2)]) hx hb dX11_tenths_113 hl (k := 0) rfl (ii_1 _) (by decide) rfl (fun ls hl => ?_)
            refine lv_goto (tgt := 90) hx hb dX11_tenths_116 (by decide) ?_
            exact ih (x33 + (1 : Int32)) locs ls (lv_sub hl [0, 1, 2] rfl) hS hf
      exact Ly32 FU y31 locs ls (lv_sub hl [0, 1, 2] rfl) hS hLy32
    have Ly31 : ∀ (n : Nat), ∀ (x39 : Int32) (locs : List Loc) (ls : Array Slot), lv_has ls 8 [(7, .int x39), (6, .int (if p2 = (2 : Int32) then (64 : Int32) else (8 : Int32))), (4, .long (((((a23 + (2 : Int32)).toInt64) * ((a25 + (2 : Int32)).toInt64)) * (a27.toInt64)) * (a29.toInt64))), (3, .int p2)] → va_S no s.heap s.heap locs → fX11_tenths_l54 p2 (((((a23 + (2 : Int32)).toInt64) * ((a25 + (2 : Int32)).toInt64)) * (a27.toInt64)) * (a29.toInt64)) (if p2 = (2 : Int32) then (64 : Int32) else (8 : Int32)) n x39 = some y31 → wG p l e 4 88 s m [.ref ad_t, .int p0, .int p1, .int p2] below meth cd s.heap locs (pQ (some (.int o))) no (F0 m 54 ls []) := by
      intro n
      induction n with
      | zero =>
        intro x39 locs ls hl hS hf
        rw [fX11_tenths_l54] at hf
        cases hf
      | succ n ih =>
        intro x39 locs ls hl hS hf
        rw [fX11_tenths_l54] at hf
        refine lv_ldc2 (v := (18 : Int64)) hx hb hown (hts _ q1221) dX11_tenths_54 ?_
        refine lv_iload hx hb dX11_tenths_57 (lv_at hl 0 rfl) ?_
        refine lv_iload hx hb dX11_tenths_59 (lv_at hl 1 rfl) ?_
        refine lv_iadd hx hb dX11_tenths_61 ?_
        refine lv_iload_n hx hb dX11_tenths_62 rfl (lv_at hl 3 rfl) ?_
        obtain ⟨a40, h41, hf⟩ := bn_some hf
        refine kPS (tX11_power l G (x39 + (if p2 = (2 : Int32) then (64 : Int32) else (8 : Int32))) p2 a40 h41) ⟨hx, hb, hml, hown, hts⟩ q1222 q1223 q108 q1224 okyX11_power ⟨Nat.le_of_ble_eq_true rfl, Nat.le_of_ble_eq_true rfl⟩ hP hG hS [] rfl hl.1 rfl (Nat.le_of_ble_eq_true rfl) dX11_tenths_63 ⟨Nat.zero_le _, Nat.zero_le _⟩ (fun locs hS => ?_)
        refine W.eq (g2 := F0 m 66 ls [.long a40, .long (18 : Int64)]) rfl ?_
        refine lv_lmul hx hb dX11_tenths_66 ?_
        refine lv_lload hx hb dX11_tenths_67 (lv_at hl 2 rfl) ?_
        refine lv_bipush (v := 10) hx hb dX11_tenths_69 (by decide) ?_
        refine lv_iload_n hx hb dX11_tenths_71 rfl (lv_at hl 3 rfl) ?_
        obtain ⟨a42, h43, hf⟩ := bn_some hf
        refine kPS (tX11_power l G (10 : Int32) p2 a42 h43) ⟨hx, hb, hml, hown, hts⟩ q1222 q1223 q108 q1224 okyX11_power ⟨Nat.le_of_ble_eq_true rfl, Nat.le_of_ble_eq_true rfl⟩ hP hG hS [] rfl hl.1 rfl (Nat.le_of_ble_eq_true rfl) dX11_tenths_72 ⟨Nat.zero_le _, Nat.zero_le _⟩ (fun locs hS => ?_)
        refine W.eq (g2 := F0 m 75 ls [.long a42, .long (((((a23 + (2 : Int32)).toInt64) * ((a25 + (2 : Int32)).toInt64)) * (a27.toInt64)) * (a29.toInt64)), .long ((18 : Int64) * a40)]) rfl ?_
        refine lv_lmul hx hb dX11_tenths_75 ?_
        refine W.lcmp hx hb dX11_tenths_76 ?_
        refine lv_if_ge (tgt := 90) hx hb dX11_tenths_77 (by decide) (fun c44 => ?_) (fun c44 => ?_)
        · have hf := if_t hf c44
          have hf := Option.some.inj hf
          subst hf
          exact Ey31  locs ls (lv_sub hl [0, 2, 3] rfl) hS 
        · have hf := if_f hf c44
          refine lv_iload hx hb dX11_tenths_80 (lv_at hl 0 rfl) ?_
          refine lv_iload hx hb dX11_tenths_82 (lv_at hl 1 rfl) ?_
          refine lv_iadd hx hb dX11_tenths_84 ?_
          refine lv_istore (lv' := [(7, .int (x39 + (if p2 = (2 : Int32) then (64 : Int32) else (8 : Int32)))), (6, .int (if p2 = (2 : Int32) then (64 : Int32) else (8 : Int32))), (4, .long (((((a23 + (2 : Int32)).toInt64) * ((a25 + (2 : Int32)).toInt64)) * (a27.toInt64)) * (a29.toInt64))), (3, .int p2)]) hx hb dX11_tenths_85 hl (by decide) rfl (fun ls hl => ?_)
          refine lv_goto (tgt := 54) hx hb dX11_tenths_87 (by decide) ?_
          exact ih (x39 + (if p2 = (2 : Int32) then (64 : Int32) else (8 : Int32))) locs ls (lv_sub hl [0, 1, 2, 3] rfl) hS hf
    exact Ly31 FU (0 : Int32) locs ls (lv_sub hl [0, 1, 2, 6] rfl) hS hLy31
  refine lv_icmp_ne (tgt := 47) hx hb dX11_tenths_39 (by decide) (fun c46 => ?_) (fun c46 => ?_)
  · refine lv_bipush (v := 8) hx hb dX11_tenths_47 (by decide) ?_
    exact (mgF c46 J45)
  · refine lv_bipush (v := 64) hx hb dX11_tenths_42 (by decide) ?_
    refine lv_goto (tgt := 49) hx hb dX11_tenths_44 (by decide) ?_
    exact (mgT c46 J45)
