def fX11_wished (t_all : Nat → Int32) (t_size : Nat → Int32) (p0 : Int32) : Option (Int32 × (Nat → Int32)) :=
  (if (bi (fX11_isIn p0 (0 : Int32) (2 : Int32))) = 0 then some ((-1 : Int32), t_size) else bn (fX11_wishedBy t_all t_size (0 : Int32) p0) fun a2 => some (a2.1, a2.2))
set_option maxRecDepth 100000 in
set_option maxHeartbeats 4000000 in
theorem tX11_wished (l : Launch) (G : gG) (ad_t ad_t_all ad_t_tape ad_t_isImage ad_t_size ad_t_givenRow ad_t_givenColumn ad_t_newRow ad_t_view : Nat) (tI : Nat → Int32) (t_value : Int64) (t_all : Nat → Int32) (t_size : Nat → Int32) (p0 : Int32) (o : Int32 × (Nat → Int32)) (hf : fX11_wished t_all t_size p0 = some o) : mE G l yX11_wished cX11_wished 2 (some .int) 11 261 0 0 [.ref ad_t, .int p0] [(ad_t, .inr (11, [.ref ad_t_all, .ref ad_t_tape, .ref ad_t_isImage, .int (tI 3), .int (tI 4), .int (tI 5), .int (tI 6), .ref ad_t_size, .ref ad_t_givenRow, .ref ad_t_givenColumn, .ref ad_t_newRow, .int (tI 11), .int (tI 12), .int (tI 13), .int (tI 14), .int (tI 15), .int (tI 16), .int (tI 17), .int (tI 18), .int (tI 19), .ref ad_t_view, .int (tI 21), .int (tI 22), .int (tI 23), .int (tI 24), .int (tI 25), .long t_value, .int (tI 27), .int (tI 28)])), (ad_t_all, .inl (G.2.1 0, 43047, .inl t_all)), (ad_t_size, .inl (G.2.1 0, 8, .inl t_size))] (fun r w => r = (some (.int o.1)) ∧ w = [(ad_t, .inr (11, [.ref ad_t_all, .ref ad_t_tape, .ref ad_t_isImage, .int (tI 3), .int (tI 4), .int (tI 5), .int (tI 6), .ref ad_t_size, .ref ad_t_givenRow, .ref ad_t_givenColumn, .ref ad_t_newRow, .int (tI 11), .int (tI 12), .int (tI 13), .int (tI 14), .int (tI 15), .int (tI 16), .int (tI 17), .int (tI 18), .int (tI 19), .ref ad_t_view, .int (tI 21), .int (tI 22), .int (tI 23), .int (tI 24), .int (tI 25), .long t_value, .int (tI 27), .int (tI 28)])), (ad_t_all, .inl (G.2.1 0, 43047, .inl t_all)), (ad_t_size, .inl (G.2.1 0, 8, .inl o.2))]) := by
  refine mE_of (by decide) (Nat.le_of_ble_eq_true rfl) ?_
  intro p e s m below meth cd ls A hx hb hml hown hts hr hlocks hnm hl hA hP hD hS hG
  have hK := hG.1
  have hown : s.vm.findClass RX11 = some m.cls := hown
  have hl : lv_has ls 2 [(0, .ref ad_t), (1, .int p0)] := hl
  have hS := hS
  unfold fX11_wished at hf
  obtain ⟨H, locs, eH, eL⟩ : ∃ (H : Heap) (locs : List Loc), H = s.heap ∧ locs = [] := ⟨_, _, rfl, rfl⟩
  have hP : va_P G.1 vwCl [(ad_t, .inr (11, [.ref ad_t_all, .ref ad_t_tape, .ref ad_t_isImage, .int (tI 3), .int (tI 4), .int (tI 5), .int (tI 6), .ref ad_t_size, .ref ad_t_givenRow, .ref ad_t_givenColumn, .ref ad_t_newRow, .int (tI 11), .int (tI 12), .int (tI 13), .int (tI 14), .int (tI 15), .int (tI 16), .int (tI 17), .int (tI 18), .int (tI 19), .ref ad_t_view, .int (tI 21), .int (tI 22), .int (tI 23), .int (tI 24), .int (tI 25), .long t_value, .int (tI 27), .int (tI 28)])), (ad_t_all, .inl (G.2.1 0, 43047, .inl t_all)), (ad_t_size, .inl (G.2.1 0, 8, .inl t_size))] H := eH ▸ hP
  have hS : va_S A s.heap H locs := by rw [eH, eL]; exact hS
  suffices hgo : wG p l e 11 261 s m [.ref ad_t, .int p0] below meth cd H locs (eQ G A (fun r w => r = (some (.int o.1)) ∧ w = [(ad_t, .inr (11, [.ref ad_t_all, .ref ad_t_tape, .ref ad_t_isImage, .int (tI 3), .int (tI 4), .int (tI 5), .int (tI 6), .ref ad_t_size, .ref ad_t_givenRow, .ref ad_t_givenColumn, .ref ad_t_newRow, .int (tI 11), .int (tI 12), .int (tI 13), .int (tI 14), .int (tI 15), .int (tI 16), .int (tI 17), .int (tI 18), .int (tI 19), .ref ad_t_view, .int (tI 21), .int (tI 22), .int (tI 23), .int (tI 24), .int (tI 25), .long t_value, .int (tI 27), .int (tI 28)])), (ad_t_all, .inl (G.2.1 0, 43047, .inl t_all)), (ad_t_size, .inl (G.2.1 0, 8, .inl o.2))])) A (F0 m 0 ls []) by rw [eH, eL] at hgo; exact hgo
  clear eH eL
  refine lv_iload_n hx hb dX11_wished_0 rfl (lv_at hl 1 rfl) ?_
  refine lv_iconst (v := 0) hx hb dX11_wished_1 (by decide) ?_
  refine lv_iconst (v := 2) hx hb dX11_wished_2 (by decide) ?_
  refine kPS (tX11_isIn l G p0 (0 : Int32) (2 : Int32) _ rfl) ⟨hx, hb, hml, hown, hts⟩ q1137 q1138 q108 q1139 okyX11_isIn ⟨Nat.le_of_ble_eq_true rfl, Nat.le_of_ble_eq_true rfl⟩ hP hG hS [] rfl hl.1 rfl (Nat.le_of_ble_eq_true rfl) dX11_wished_3 ⟨Nat.zero_le _, Nat.zero_le _⟩ (fun locs hS => ?_)
  refine W.eq (g2 := F0 m 6 ls [.int (bi (fX11_isIn p0 (0 : Int32) (2 : Int32)))]) rfl ?_
  refine lv_if_eq (tgt := 18) hx hb dX11_wished_6 (by decide) (fun c4 => ?_) (fun c4 => ?_)
  · have hf := if_t hf c4
    refine lv_iconst (v := -1) hx hb dX11_wished_18 (by decide) ?_
    have hf := Option.some.inj hf
    subst hf
    exact eRet hx hb hr hlocks hP hD hS ⟨rfl, rfl⟩ dX11_wished_19
  · have hf := if_f hf c4
    refine lv_aload_n hx hb dX11_wished_9 rfl (lv_at hl 0 rfl) ?_
    refine lv_iconst (v := 0) hx hb dX11_wished_10 (by decide) ?_
    refine lv_iload_n hx hb dX11_wished_11 rfl (lv_at hl 1 rfl) ?_
    obtain ⟨a5, h6, hf⟩ := bn_some hf
    refine kEV (tX11_wishedBy l G ad_t ad_t_all ad_t_tape ad_t_isImage ad_t_size ad_t_givenRow ad_t_givenColumn ad_t_newRow ad_t_view tI t_value t_all t_size (0 : Int32) p0 a5 h6) ⟨hx, hb, hml, hown, hts⟩ q1167 q1169 q45 q108 q1170 okyX11_wishedBy ⟨Nat.le_of_ble_eq_true rfl, Nat.le_of_ble_eq_true rfl⟩ hP hD hG hS hA [0, 1, 2] [] rfl (wr := []) rfl (by decide) 0 rfl rfl hl.1 rfl (Nat.le_of_ble_eq_true rfl) dX11_wished_12 ⟨Nat.zero_le _, Nat.zero_le _⟩ (fun r w H locs hR hP hD hS => ?_)
    obtain ⟨rfl, rfl⟩ := hR
    have hP : va_P G.1 vwCl [(ad_t, .inr (11, [.ref ad_t_all, .ref ad_t_tape, .ref ad_t_isImage, .int (tI 3), .int (tI 4), .int (tI 5), .int (tI 6), .ref ad_t_size, .ref ad_t_givenRow, .ref ad_t_givenColumn, .ref ad_t_newRow, .int (tI 11), .int (tI 12), .int (tI 13), .int (tI 14), .int (tI 15), .int (tI 16), .int (tI 17), .int (tI 18), .int (tI 19), .ref ad_t_view, .int (tI 21), .int (tI 22), .int (tI 23), .int (tI 24), .int (tI 25), .long t_value, .int (tI 27), .int (tI 28)])), (ad_t_all, .inl (G.2.1 0, 43047, .inl t_all)), (ad_t_size, .inl (G.2.1 0, 8, .inl a5.2))] H := hP
    have hD : va_D A [(ad_t, .inr (11, [.ref ad_t_all, .ref ad_t_tape, .ref ad_t_isImage, .int (tI 3), .int (tI 4), .int (tI 5), .int (tI 6), .ref ad_t_size, .ref ad_t_givenRow, .ref ad_t_givenColumn, .ref ad_t_newRow, .int (tI 11), .int (tI 12), .int (tI 13), .int (tI 14), .int (tI 15), .int (tI 16), .int (tI 17), .int (tI 18), .int (tI 19), .ref ad_t_view, .int (tI 21), .int (tI 22), .int (tI 23), .int (tI 24), .int (tI 25), .long t_value, .int (tI 27), .int (tI 28)])), (ad_t_all, .inl (G.2.1 0, 43047, .inl t_all)), (ad_t_size, .inl (G.2.1 0, 8, .inl a5.2))] := hD
    refine W.eq (g2 := F0 m 15 ls [.int a5.1]) rfl ?_
    refine lv_goto (tgt := 19) hx hb dX11_wished_15 (by decide) ?_
    have hf := Option.some.inj hf
    subst hf
    exact eRet hx hb hr hlocks hP hD hS ⟨rfl, rfl⟩ dX11_wished_19

def fX11_most_l41 (x1 : Int32) (x2 : Int32) (x3 : Int32) (t_all : Nat → Int32) : Nat → Int32 → (Nat → Int32) → Option (((Nat → Int32)) ⊕ (Int32 × (Nat → Int32) × (Nat → Int32)))
  | 0, _, _ => none
  | n + 1, x4, t_size =>
    (if (8 : Int32) < x4 then some (.inl t_size) else bn (fX11_isPossible t_all (4211 : Int32) x4) fun a5 => (if (bi a5) = 0 then fX11_most_l41 x1 x2 x3 t_all n (x4 * (2 : Int32)) t_size else bn (fX11_width t_all t_size (4211 : Int32) x4) fun a8 => (if x1 < a8.1 then fX11_most_l41 x1 x2 x3 t_all n (x4 * (2 : Int32)) a8.2 else bn (fX11_height t_all (4211 : Int32) x4) fun a11 => (if x2 < a11 then fX11_most_l41 x1 x2 x3 t_all n (x4 * (2 : Int32)) a8.2 else some (.inr (x3, t_all, a8.2))))))
def fX11_most_l23 (x1 : Int32) (x2 : Int32) : Nat → Int32 → (Nat → Int32) → (Nat → Int32) → Option (((Nat → Int32) × (Nat → Int32)) ⊕ (Int32 × (Nat → Int32) × (Nat → Int32)))
  | 0, _, _, _ => none
  | n + 1, x3, t_all, t_size =>
    (if x3 < (16 : Int32) then some (.inl (t_all, t_size)) else (bn (fX11_most_l41 x1 x2 x3 (upd t_all 4211 x3) FU (1 : Int32) t_size) fun y14 => match y14 with | .inl y14z => fX11_most_l23 x1 x2 n (x3 / (2 : Int32)) (upd t_all 4211 x3) y14z | .inr y14o => some (.inr y14o)))
def fX11_most (t_all : Nat → Int32) (t_size : Nat → Int32) (p0 : Int32) (p1 : Int32) : Option (Int32 × (Nat → Int32) × (Nat → Int32)) :=
  bn (fX11_copies t_all (0 : Int32) (4211 : Int32) (46 : Int32)) fun a1 => (bn (fX11_most_l23 p0 p1 FU (1024 : Int32) (upd a1 4213 (0 : Int32)) t_size) fun y15 => match y15 with | .inl y15z => some ((-1 : Int32), y15z.1, y15z.2) | .inr y15o => some y15o)
set_option maxRecDepth 100000 in
set_option maxHeartbeats 4000000 in
theorem tX11_most (l : Launch) (G : gG) (ad_t ad_t_all ad_t_tape ad_t_isImage ad_t_size ad_t_givenRow ad_t_givenColumn ad_t_newRow ad_t_view : Nat) (tI : Nat → Int32) (t_value : Int64) (t_all : Nat → Int32) (t_size : Nat → Int32) (p0 : Int32) (p1 : Int32) (o : Int32 × (Nat → Int32) × (Nat → Int32)) (hf : fX11_most t_all t_size p0 p1 = some o) : mE G l yX11_most cX11_most 5 (some .int) 9 211 0 0 [.ref ad_t, .int p0, .int p1] [(ad_t, .inr (11, [.ref ad_t_all, .ref ad_t_tape, .ref ad_t_isImage, .int (tI 3), .int (tI 4), .int (tI 5), .int (tI 6), .ref ad_t_size, .ref ad_t_givenRow, .ref ad_t_givenColumn, .ref ad_t_newRow, .int (tI 11), .int (tI 12), .int (tI 13), .int (tI 14), .int (tI 15), .int (tI 16), .int (tI 17), .int (tI 18), .int (tI 19), .ref ad_t_view, .int (tI 21), .int (tI 22), .int (tI 23), .int (tI 24), .int (tI 25), .long t_value, .int (tI 27), .int (tI 28)])), (ad_t_all, .inl (G.2.1 0, 43047, .inl t_all)), (ad_t_size, .inl (G.2.1 0, 8, .inl t_size))] (fun r w => r = (some (.int o.1)) ∧ w = [(ad_t, .inr (11, [.ref ad_t_all, .ref ad_t_tape, .ref ad_t_isImage, .int (tI 3), .int (tI 4), .int (tI 5), .int (tI 6), .ref ad_t_size, .ref ad_t_givenRow, .ref ad_t_givenColumn, .ref ad_t_newRow, .int (tI 11), .int (tI 12), .int (tI 13), .int (tI 14), .int (tI 15), .int (tI 16), .int (tI 17), .int (tI 18), .int (tI 19), .ref ad_t_view, .int (tI 21), .int (tI 22), .int (tI 23), .int (tI 24), .int (tI 25), .long t_value, .int (tI 27), .int (tI 28)])), (ad_t_all, .inl (G.2.1 0, 43047, .inl o.2.1)), (ad_t_size, .inl (G.2.1 0, 8, .inl o.2.2))]) := by
  refine mE_of (by decide) (Nat.le_of_ble_eq_true rfl) ?_
  intro p e s m below meth cd ls A hx hb hml hown hts hr hlocks hnm hl hA hP hD hS hG
  have hK := hG.1
  have hown : s.vm.findClass RX11 = some m.cls := hown
  have hl : lv_has ls 5 [(0, .ref ad_t), (1, .int p0), (2, .int p1)] := hl
  have hS := hS
  unfold fX11_most at hf
  obtain ⟨H, locs, eH, eL⟩ : ∃ (H : Heap) (locs : List Loc), H = s.heap ∧ locs = [] := ⟨_, _, rfl, rfl⟩
  have hP : va_P G.1 vwCl [(ad_t, .inr (11, [.ref ad_t_all, .ref ad_t_tape, .ref ad_t_isImage, .int (tI 3), .int (tI 4), .int (tI 5), .int (tI 6), .ref ad_t_size, .ref ad_t_givenRow, .ref ad_t_givenColumn, .ref ad_t_newRow, .int (tI 11), .int (tI 12), .int (tI 13), .int (tI 14), .int (tI 15), .int (tI 16), .int (tI 17), .int (tI 18), .int (tI 19), .ref ad_t_view, .int (tI 21), .int (tI 22), .int (tI 23), .int (tI 24), .int (tI 25), .long t_value, .int (tI 27), .int (tI 28)])), (ad_t_all, .inl (G.2.1 0, 43047, .inl t_all)), (ad_t_size, .inl (G.2.1 0, 8, .inl t_size))] H := eH ▸ hP
  have hS : va_S A s.heap H locs := by rw [eH, eL]; exact hS
  suffices hgo : wG p l e 9 211 s m [.ref ad_t, .int p0, .int p1] below meth cd H locs (eQ G A (fun r w => r = (some (.int o.1)) ∧ w = [(ad_t, .inr (11, [.ref ad_t_all, .ref ad_t_tape, .ref ad_t_isImage, .int (tI 3), .int (tI 4), .int (tI 5), .int (tI 6), .ref ad_t_size, .ref ad_t_givenRow, .ref ad_t_givenColumn, .ref ad_t_newRow, .int (tI 11), .int (tI 12), .int (tI 13), .int (tI 14), .int (tI 15), .int (tI 16), .int (tI 17), .int (tI 18), .int (tI 19), .ref ad_t_view, .int (tI 21), .int (tI 22), .int (tI 23), .int (tI 24), .int (tI 25), .long t_value, .int (tI 27), .int (tI 28)])), (ad_t_all, .inl (G.2.1 0, 43047, .inl o.2.1)), (ad_t_size, .inl (G.2.1 0, 8, .inl o.2.2))])) A (F0 m 0 ls []) by rw [eH, eL] at hgo; exact hgo
  clear eH eL
  refine lv_aload_n hx hb dX11_most_0 rfl (lv_at hl 0 rfl) ?_
  refine lv_iconst (v := 0) hx hb dX11_most_1 (by decide) ?_
  refine lv_sipush (v := 4211) hx hb dX11_most_2 (by decide) ?_
  refine lv_bipush (v := 46) hx hb dX11_most_5 (by decide) ?_
  obtain ⟨a16, h17, hf⟩ := bn_some hf
  refine kEV (tX11_copies l G ad_t ad_t_all ad_t_tape ad_t_isImage ad_t_size ad_t_givenRow ad_t_givenColumn ad_t_newRow ad_t_view tI t_value t_all (0 : Int32) (4211 : Int32) (46 : Int32) a16 h17) ⟨hx, hb, hml, hown, hts⟩ q1147 q1149 q40 q108 q1150 okyX11_copies ⟨Nat.le_of_ble_eq_true rfl, Nat.le_of_ble_eq_true rfl⟩ hP hD hG hS hA [0, 1] [2] rfl (wr := [(ad_t_size, .inl (G.2.1 0, 8, .inl t_size))]) rfl (by decide) 0 rfl rfl hl.1 rfl (Nat.le_of_ble_eq_true rfl) dX11_most_7 ⟨Nat.zero_le _, Nat.zero_le _⟩ (fun r w H locs hR hP hD hS => ?_)
  obtain ⟨rfl, rfl⟩ := hR
  have hP : va_P G.1 vwCl [(ad_t_size, .inl (G.2.1 0, 8, .inl t_size)), (ad_t, .inr (11, [.ref ad_t_all, .ref ad_t_tape, .ref ad_t_isImage, .int (tI 3), .int (tI 4), .int (tI 5), .int (tI 6), .ref ad_t_size, .ref ad_t_givenRow, .ref ad_t_givenColumn, .ref ad_t_newRow, .int (tI 11), .int (tI 12), .int (tI 13), .int (tI 14), .int (tI 15), .int (tI 16), .int (tI 17), .int (tI 18), .int (tI 19), .ref ad_t_view, .int (tI 21), .int (tI 22), .int (tI 23), .int (tI 24), .int (tI 25), .long t_value, .int (tI 27), .int (tI 28)])), (ad_t_all, .inl (G.2.1 0, 43047, .inl a16))] H := hP
  have hD : va_D A [(ad_t_size, .inl (G.2.1 0, 8, .inl t_size)), (ad_t, .inr (11, [.ref ad_t_all, .ref ad_t_tape, .ref ad_t_isImage, .int (tI 3), .int (tI 4), .int (tI 5), .int (tI 6), .ref ad_t_size, .ref ad_t_givenRow, .ref ad_t_givenColumn, .ref ad_t_newRow, .int (tI 11), .int (tI 12), .int (tI 13), .int (tI 14), .int (tI 15), .int (tI 16), .int (tI 17), .int (tI 18), .int (tI 19), .ref ad_t_view, .int (tI 21), .int (tI 22), .int (tI 23), .int (tI 24), .int (tI 25), .long t_value, .int (tI 27), .int (tI 28)])), (ad_t_all, .inl (G.2.1 0, 43047, .inl a16))] := hD
  refine W.eq (g2 := F0 m 10 ls []) rfl ?_
  refine lv_aload_n hx hb dX11_most_10 rfl (lv_at hl 0 rfl) ?_
  refine va_get (D := G.1) (cl := vwCl) (ci := 11) (v := .ref ad_t_all) (C := RX11) (T := TX11) (N := 29) hx hb hts inG11 hown hK hP 1 rfl rfl 0 (Nat.le_of_ble_eq_true rfl) (hts _ q1041) (fun _ h9 => h9) rfl dX11_most_11 ?_
  refine lv_sipush (v := 4213) hx hb dX11_most_14 (by decide) ?_
  refine lv_iconst (v := 0) hx hb dX11_most_17 (by decide) ?_
  refine va_iast (D := G.1) (cl := vwCl) hx hb hK hP hD hS 2 0 rfl rfl (vin (by decide)) dX11_most_18 (fun H locs hP hD hS => ?_)
  have hP : va_P G.1 vwCl [(ad_t_size, .inl (G.2.1 0, 8, .inl t_size)), (ad_t, .inr (11, [.ref ad_t_all, .ref ad_t_tape, .ref ad_t_isImage, .int (tI 3), .int (tI 4), .int (tI 5), .int (tI 6), .ref ad_t_size, .ref ad_t_givenRow, .ref ad_t_givenColumn, .ref ad_t_newRow, .int (tI 11), .int (tI 12), .int (tI 13), .int (tI 14), .int (tI 15), .int (tI 16), .int (tI 17), .int (tI 18), .int (tI 19), .ref ad_t_view, .int (tI 21), .int (tI 22), .int (tI 23), .int (tI 24), .int (tI 25), .long t_value, .int (tI 27), .int (tI 28)])), (ad_t_all, .inl (G.2.1 0, 43047, .inl (upd a16 4213 (0 : Int32))))] H := hP
  have hD : va_D A [(ad_t_size, .inl (G.2.1 0, 8, .inl t_size)), (ad_t, .inr (11, [.ref ad_t_all, .ref ad_t_tape, .ref ad_t_isImage, .int (tI 3), .int (tI 4), .int (tI 5), .int (tI 6), .ref ad_t_size, .ref ad_t_givenRow, .ref ad_t_givenColumn, .ref ad_t_newRow, .int (tI 11), .int (tI 12), .int (tI 13), .int (tI 14), .int (tI 15), .int (tI 16), .int (tI 17), .int (tI 18), .int (tI 19), .ref ad_t_view, .int (tI 21), .int (tI 22), .int (tI 23), .int (tI 24), .int (tI 25), .long t_value, .int (tI 27), .int (tI 28)])), (ad_t_all, .inl (G.2.1 0, 43047, .inl (upd a16 4213 (0 : Int32))))] := hD
  refine lv_sipush (v := 1024) hx hb dX11_most_19 (by decide) ?_
  refine lv_istore_n (lv' := [(3, .int (1024 : Int32)), (0, .ref ad_t), (1, .int p0), (2, .int p1)]) hx hb dX11_most_22 rfl hl (by decide) rfl (fun ls hl => ?_)
  obtain ⟨y18, hLy18, hky18⟩ := bn_some hf
  have Ey18 : ∀ y18z, y18 = .inl y18z → ∀  (H : Heap) (locs : List Loc) (ls : Array Slot), lv_has ls 5 [] → va_P G.1 vwCl [(ad_t_size, .inl (G.2.1 0, 8, .inl y18z.2)), (ad_t, .inr (11, [.ref ad_t_all, .ref ad_t_tape, .ref ad_t_isImage, .int (tI 3), .int (tI 4), .int (tI 5), .int (tI 6), .ref ad_t_size, .ref ad_t_givenRow, .ref ad_t_givenColumn, .ref ad_t_newRow, .int (tI 11), .int (tI 12), .int (tI 13), .int (tI 14), .int (tI 15), .int (tI 16), .int (tI 17), .int (tI 18), .int (tI 19), .ref ad_t_view, .int (tI 21), .int (tI 22), .int (tI 23), .int (tI 24), .int (tI 25), .long t_value, .int (tI 27), .int (tI 28)])), (ad_t_all, .inl (G.2.1 0, 43047, .inl y18z.1))] H → va_D A [(ad_t_size, .inl (G.2.1 0, 8, .inl y18z.2)), (ad_t, .inr (11, [.ref ad_t_all, .ref ad_t_tape, .ref ad_t_isImage, .int (tI 3), .int (tI 4), .int (tI 5), .int (tI 6), .ref ad_t_size, .ref ad_t_givenRow, .ref ad_t_givenColumn, .ref ad_t_newRow, .int (tI 11), .int (tI 12), .int (tI 13), .int (tI 14), .int (tI 15), .int (tI 16), .int (tI 17), .int (tI 18), .int (tI 19), .ref ad_t_view, .int (tI 21), .int (tI 22), .int (tI 23), .int (tI 24), .int (tI 25), .long t_value, .int (tI 27), .int (tI 28)])), (ad_t_all, .inl (G.2.1 0, 43047, .inl y18z.1))] → va_S A s.heap H locs → wG p l e 9 211 s m [.ref ad_t, .int p0, .int p1] below meth cd H locs (eQ G A (fun r w => r = (some (.int o.1)) ∧ w = [(ad_t, .inr (11, [.ref ad_t_all, .ref ad_t_tape, .ref ad_t_isImage, .int (tI 3), .int (tI 4), .int (tI 5), .int (tI 6), .ref ad_t_size, .ref ad_t_givenRow, .ref ad_t_givenColumn, .ref ad_t_newRow, .int (tI 11), .int (tI 12), .int (tI 13), .int (tI 14), .int (tI 15), .int (tI 16), .int (tI 17), .int (tI 18), .int (tI 19), .ref ad_t_view, .int (tI 21), .int (tI 22), .int (tI 23), .int (tI 24), .int (tI 25), .long t_value, .int (tI 27), .int (tI 28)])), (ad_t_all, .inl (G.2.1 0, 43047, .inl o.2.1)), (ad_t_size, .inl (G.2.1 0, 8, .inl o.2.2))])) A (F0 m 104 ls []) := by
    intro y18z ez
    intro  H locs ls hl hP hD hS
    subst ez
    have hf := hky18
    (try dsimp only at hf)
    refine lv_iconst (v := -1) hx hb dX11_most_104 (by decide) ?_
    have hf := Option.some.inj hf
    subst hf
    have hP := hP.sub (ws' := [(ad_t, .inr (11, [.ref ad_t_all, .ref ad_t_tape, .ref ad_t_isImage, .int (tI 3), .int (tI 4), .int (tI 5), .int (tI 6), .ref ad_t_size, .ref ad_t_givenRow, .ref ad_t_givenColumn, .ref ad_t_newRow, .int (tI 11), .int (tI 12), .int (tI 13), .int (tI 14), .int (tI 15), .int (tI 16), .int (tI 17), .int (tI 18), .int (tI 19), .ref ad_t_view, .int (tI 21), .int (tI 22), .int (tI 23), .int (tI 24), .int (tI 25), .long t_value, .int (tI 27), .int (tI 28)])), (ad_t_all, .inl (G.2.1 0, 43047, .inl y18z.1)), (ad_t_size, .inl (G.2.1 0, 8, .inl y18z.2))]) [1, 2, 0] rfl
    have hD := hD.sub (ws' := [(ad_t, .inr (11, [.ref ad_t_all, .ref ad_t_tape, .ref ad_t_isImage, .int (tI 3), .int (tI 4), .int (tI 5), .int (tI 6), .ref ad_t_size, .ref ad_t_givenRow, .ref ad_t_givenColumn, .ref ad_t_newRow, .int (tI 11), .int (tI 12), .int (tI 13), .int (tI 14), .int (tI 15), .int (tI 16), .int (tI 17), .int (tI 18), .int (tI 19), .ref ad_t_view, .int (tI 21), .int (tI 22), .int (tI 23), .int (tI 24), .int (tI 25), .long t_value, .int (tI 27), .int (tI 28)])), (ad_t_all, .inl (G.2.1 0, 43047, .inl y18z.1)), (ad_t_size, .inl (G.2.1 0, 8, .inl y18z.2))]) [1, 2, 0] (by decide) rfl
    exact eRet hx hb hr hlocks hP hD hS ⟨rfl, rfl⟩ dX11_most_105
  have Ly18 : ∀ (n : Nat), ∀ (x19 : Int32) (g20 : Nat → Int32) (g21 : Nat → Int32) (H : Heap) (locs : List Loc) (ls : Array Slot), lv_has ls 5 [(3, .int x19), (0, .ref ad_t), (1, .int p0), (2, .int p1)] → va_P G.1 vwCl [(ad_t_size, .inl (G.2.1 0, 8, .inl g21)), (ad_t, .inr (11, [.ref ad_t_all, .ref ad_t_tape, .ref ad_t_isImage, .int (tI 3), .int (tI 4), .int (tI 5), .int (tI 6), .ref ad_t_size, .ref ad_t_givenRow, .ref ad_t_givenColumn, .ref ad_t_newRow, .int (tI 11), .int (tI 12), .int (tI 13), .int (tI 14), .int (tI 15), .int (tI 16), .int (tI 17), .int (tI 18), .int (tI 19), .ref ad_t_view, .int (tI 21), .int (tI 22), .int (tI 23), .int (tI 24), .int (tI 25), .long t_value, .int (tI 27), .int (tI 28)])), (ad_t_all, .inl (G.2.1 0, 43047, .inl g20))] H → va_D A [(ad_t_size, .inl (G.2.1 0, 8, .inl g21)), (ad_t, .inr (11, [.ref ad_t_all, .ref ad_t_tape, .ref ad_t_isImage, .int (tI 3), .int (tI 4), .int (tI 5), .int (tI 6), .ref ad_t_size, .ref ad_t_givenRow, .ref ad_t_givenColumn, .ref ad_t_newRow, .int (tI 11), .int (tI 12), .int (tI 13), .int (tI 14), .int (tI 15), .int (tI 16), .int (tI 17), .int (tI 18), .int (tI 19), .ref ad_t_view, .int (tI 21), .int (tI 22), .int (tI 23), .int (tI 24), .int (tI 25), .long t_value, .int (tI 27), .int (tI 28)])), (ad_t_all, .inl (G.2.1 0, 43047, .inl g20))] → va_S A s.heap H locs → fX11_most_l23 p0 p1 n x19 g20 g21 = some y18 → wG p l e 9 211 s m [.ref ad_t, .int p0, .int p1] below meth cd H locs (eQ G A (fun r w => r = (some (.int o.1)) ∧ w = [(ad_t, .inr (11, [.ref ad_t_all, .ref ad_t_tape, .ref ad_t_isImage, .int (tI 3), .int (tI 4), .int (tI 5), .int (tI 6), .ref ad_t_size, .ref ad_t_givenRow, .ref ad_t_givenColumn, .ref ad_t_newRow, .int (tI 11), .int (tI 12), .int (tI 13), .int (tI 14), .int (tI 15), .int (tI 16), .int (tI 17), .int (tI 18), .int (tI 19), .ref ad_t_view, .int (tI 21), .int (tI 22), .int (tI 23), .int (tI 24), .int (tI 25), .long t_value, .int (tI 27), .int (tI 28)])), (ad_t_all, .inl (G.2.1 0, 43047, .inl o.2.1)), (ad_t_size, .inl (G.2.1 0, 8, .inl o.2.2))])) A (F0 m 23 ls []) := by
    intro n
    induction n with
    | zero =>
      intro x19 g20 g21 H locs ls hl hP hD hS hf
      rw [fX11_most_l23] at hf
      cases hf
    | succ n ih =>
      intro x19 g20 g21 H locs ls hl hP hD hS hf
      rw [fX11_most_l23] at hf
      refine lv_iload_n hx hb dX11_most_23 rfl (lv_at hl 0 rfl) ?_
      refine lv_bipush (v := 16) hx hb dX11_most_24 (by decide) ?_
      refine lv_icmp_lt (tgt := 104) hx hb dX11_most_26 (by decide) (fun c22 => ?_) (fun c22 => ?_)
      · have hf := if_t hf c22
        have hf := Option.some.inj hf
        subst hf
        exact Ey18 _ rfl H locs ls (lv_sub hl [] rfl) hP hD hS 
      · have hf := if_f hf c22
        refine lv_aload_n hx hb dX11_most_29 rfl (lv_at hl 1 rfl) ?_
        refine va_get (D := G.1) (cl := vwCl) (ci := 11) (v := .ref ad_t_all) (C := RX11) (T := TX11) (N := 29) hx hb hts inG11 hown hK hP 1 rfl rfl 0 (Nat.le_of_ble_eq_true rfl) (hts _ q1041) (fun _ h9 => h9) rfl dX11_most_30 ?_
        refine lv_sipush (v := 4211) hx hb dX11_most_33 (by decide) ?_
        refine lv_iload_n hx hb dX11_most_36 rfl (lv_at hl 0 rfl) ?_
        refine va_iast (D := G.1) (cl := vwCl) hx hb hK hP hD hS 2 0 rfl rfl (vin (by decide)) dX11_most_37 (fun H locs hP hD hS => ?_)
        have hP : va_P G.1 vwCl [(ad_t_size, .inl (G.2.1 0, 8, .inl g21)), (ad_t, .inr (11, [.ref ad_t_all, .ref ad_t_tape, .ref ad_t_isImage, .int (tI 3), .int (tI 4), .int (tI 5), .int (tI 6), .ref ad_t_size, .ref ad_t_givenRow, .ref ad_t_givenColumn, .ref ad_t_newRow, .int (tI 11), .int (tI 12), .int (tI 13), .int (tI 14), .int (tI 15), .int (tI 16), .int (tI 17), .int (tI 18), .int (tI 19), .ref ad_t_view, .int (tI 21), .int (tI 22), .int (tI 23), .int (tI 24), .int (tI 25), .long t_value, .int (tI 27), .int (tI 28)])), (ad_t_all, .inl (G.2.1 0, 43047, .inl (upd g20 4211 x19)))] H := hP
        have hD : va_D A [(ad_t_size, .inl (G.2.1 0, 8, .inl g21)), (ad_t, .inr (11, [.ref ad_t_all, .ref ad_t_tape, .ref ad_t_isImage, .int (tI 3), .int (tI 4), .int (tI 5), .int (tI 6), .ref ad_t_size, .ref ad_t_givenRow, .ref ad_t_givenColumn, .ref ad_t_newRow, .int (tI 11), .int (tI 12), .int (tI 13), .int (tI 14), .int (tI 15), .int (tI 16), .int (tI 17), .int (tI 18), .int (tI 19), .ref ad_t_view, .int (tI 21), .int (tI 22), .int (tI 23), .int (tI 24), .int (tI 25), .long t_value, .int (tI 27), .int (tI 28)])), (ad_t_all, .inl (G.2.1 0, 43047, .inl (upd g20 4211 x19)))] := hD
        refine lv_iconst (v := 1) hx hb dX11_most_38 (by decide) ?_
        refine lv_istore (lv' := [(4, .int (1 : Int32)), (3, .int x19), (0, .ref ad_t), (1, .int p0), (2, .int p1)]) hx hb dX11_most_39 hl (by decide) rfl (fun ls hl => ?_)
        obtain ⟨y23, hLy23, hky23⟩ := bn_some hf
        have Ey23 : ∀ y23z, y23 = .inl y23z → ∀  (H : Heap) (locs : List Loc) (ls : Array Slot), lv_has ls 5 [(3, .int x19), (0, .ref ad_t), (1, .int p0), (2, .int p1)] → va_P G.1 vwCl [(ad_t_size, .inl (G.2.1 0, 8, .inl y23z)), (ad_t, .inr (11, [.ref ad_t_all, .ref ad_t_tape, .ref ad_t_isImage, .int (tI 3), .int (tI 4), .int (tI 5), .int (tI 6), .ref ad_t_size, .ref ad_t_givenRow, .ref ad_t_givenColumn, .ref ad_t_newRow, .int (tI 11), .int (tI 12), .int (tI 13), .int (tI 14), .int (tI 15), .int (tI 16), .int (tI 17), .int (tI 18), .int (tI 19), .ref ad_t_view, .int (tI 21), .int (tI 22), .int (tI 23), .int (tI 24), .int (tI 25), .long t_value, .int (tI 27), .int (tI 28)])), (ad_t_all, .inl (G.2.1 0, 43047, .inl (upd g20 4211 x19)))] H → va_D A [(ad_t_size, .inl (G.2.1 0, 8, .inl y23z)), (ad_t, .inr (11, [.ref ad_t_all, .ref ad_t_tape, .ref ad_t_isImage, .int (tI 3), .int (tI 4), .int (tI 5), .int (tI 6), .ref ad_t_size, .ref ad_t_givenRow, .ref ad_t_givenColumn, .ref ad_t_newRow, .int (tI 11), .int (tI 12), .int (tI 13), .int (tI 14), .int (tI 15), .int (tI 16), .int (tI 17), .int (tI 18), .int (tI 19), .ref ad_t_view, .int (tI 21), .int (tI 22), .int (tI 23), .int (tI 24), .int (tI 25), .long t_value, .int (tI 27), .int (tI 28)])), (ad_t_all, .inl (G.2.1 0, 43047, .inl (upd g20 4211 x19)))] → va_S A s.heap H locs → wG p l e 9 211 s m [.ref ad_t, .int p0, .int p1] below meth cd H locs (eQ G A (fun r w => r = (some (.int o.1)) ∧ w = [(ad_t, .inr (11, [.ref ad_t_all, .ref ad_t_tape, .ref ad_t_isImage, .int (tI 3), .int (tI 4), .int (tI 5), .int (tI 6), .ref ad_t_size, .ref ad_t_givenRow, .ref ad_t_givenColumn, .ref ad_t_newRow, .int (tI 11), .int (tI 12), .int (tI 13), .int (tI 14), .int (tI 15), .int (tI 16), .int (tI 17), .int (tI 18), .int (tI 19), .ref ad_t_view, .int (tI 21), .int (tI 22), .int (tI 23), .int (tI 24), .int (tI 25), .long t_value, .int (tI 27), .int (tI 28)])), (ad_t_all, .inl (G.2.1 0, 43047, .inl o.2.1)), (ad_t_size, .inl (G.2.1 0, 8, .inl o.2.2))])) A (F0 m 97 ls []) := by
          intro y23z ez
          intro  H locs ls hl hP hD hS
          subst ez
          have hf := hky23
          (try dsimp only at hf)
          refine lv_iload_n hx hb dX11_most_97 rfl (lv_at hl 0 rfl) ?_
          refine lv_iconst (v := 2) hx hb dX11_most_98 (by decide) ?_
          refine lv_idiv hx hb dX11_most_99 (by decide) ?_
          refine lv_istore_n (lv' := [(3, .int (x19 / (2 : Int32))), (0, .ref ad_t), (1, .int p0), (2, .int p1)]) hx hb dX11_most_100 rfl hl (by decide) rfl (fun ls hl => ?_)
          refine lv_goto (tgt := 23) hx hb dX11_most_101 (by decide) ?_
          exact ih (x19 / (2 : Int32)) (upd g20 4211 x19) y23z H locs ls (lv_sub hl [0, 1, 2, 3] rfl) hP hD hS hf
        have Ly23 : ∀ (n : Nat), ∀ (x24 : Int32) (g25 : Nat → Int32) (H : Heap) (locs : List Loc) (ls : Array Slot), lv_has ls 5 [(4, .int x24), (3, .int x19), (0, .ref ad_t), (1, .int p0), (2, .int p1)] → va_P G.1 vwCl [(ad_t_size, .inl (G.2.1 0, 8, .inl g25)), (ad_t, .inr (11, [.ref ad_t_all, .ref ad_t_tape, .ref ad_t_isImage, .int (tI 3), .int (tI 4), .int (tI 5), .int (tI 6), .ref ad_t_size, .ref ad_t_givenRow, .ref ad_t_givenColumn, .ref ad_t_newRow, .int (tI 11), .int (tI 12), .int (tI 13), .int (tI 14), .int (tI 15), .int (tI 16), .int (tI 17), .int (tI 18), .int (tI 19), .ref ad_t_view, .int (tI 21), .int (tI 22), .int (tI 23), .int (tI 24), .int (tI 25), .long t_value, .int (tI 27), .int (tI 28)])), (ad_t_all, .inl (G.2.1 0, 43047, .inl (upd g20 4211 x19)))] H → va_D A [(ad_t_size, .inl (G.2.1 0, 8, .inl g25)), (ad_t, .inr (11, [.ref ad_t_all, .ref ad_t_tape, .ref ad_t_isImage, .int (tI 3), .int (tI 4), .int (tI 5), .int (tI 6), .ref ad_t_size, .ref ad_t_givenRow, .ref ad_t_givenColumn, .ref ad_t_newRow, .int (tI 11), .int (tI 12), .int (tI 13), .int (tI 14), .int (tI 15), .int (tI 16), .int (tI 17), .int (tI 18), .int (tI 19), .ref ad_t_view, .int (tI 21), .int (tI 22), .int (tI 23), .int (tI 24), .int (tI 25), .long t_value, .int (tI 27), .int (tI 28)])), (ad_t_all, .inl (G.2.1 0, 43047, .inl (upd g20 4211 x19)))] → va_S A s.heap H locs → fX11_most_l41 p0 p1 x19 (upd g20 4211 x19) n x24 g25 = some y23 → wG p l e 9 211 s m [.ref ad_t, .int p0, .int p1] below meth cd H locs (eQ G A (fun r w => r = (some (.int o.1)) ∧ w = [(ad_t, .inr (11, [.ref ad_t_all, .ref ad_t_tape, .ref ad_t_isImage, .int (tI 3), .int (tI 4), .int (tI 5), .int (tI 6), .ref ad_t_size, .ref ad_t_givenRow, .ref ad_t_givenColumn, .ref ad_t_newRow, .int (tI 11), .int (tI 12), .int (tI 13), .int (tI 14), .int (tI 15), .int (tI 16), .int (tI 17), .int (tI 18), .int (tI 19), .ref ad_t_view, .int (tI 21), .int (tI 22), .int (tI 23), .int (tI 24), .int (tI 25), .long t_value, .int (tI 27), .int (tI 28)])), (ad_t_all, .inl (G.2.1 0, 43047, .inl o.2.1)), (ad_t_size, .inl (G.2.1 0, 8, .inl o.2.2))])) A (F0 m 41 ls []) := by
          intro n
          induction n with
          | zero =>
            intro x24 g25 H locs ls hl hP hD hS hf
            rw [fX11_most_l41] at hf
            cases hf
          | succ n ih =>
            intro x24 g25 H locs ls hl hP hD hS hf
            rw [fX11_most_l41] at hf
            refine lv_iload hx hb dX11_most_41 (lv_at hl 0 rfl) ?_
            refine lv_bipush (v := 8) hx hb dX11_most_43 (by decide) ?_
            refine lv_icmp_gt (tgt := 97) hx hb dX11_most_45 (by decide) (fun c26 => ?_) (fun c26 => ?_)
            · have hf := if_t hf c26
              have hf := Option.some.inj hf
              subst hf
              exact Ey23 _ rfl H locs ls (lv_sub hl [1, 2, 3, 4] rfl) hP hD hS 
            · have hf := if_f hf c26
              refine lv_aload_n hx hb dX11_most_48 rfl (lv_at hl 2 rfl) ?_
              refine lv_sipush (v := 4211) hx hb dX11_most_49 (by decide) ?_
              refine lv_iload hx hb dX11_most_52 (lv_at hl 0 rfl) ?_
              obtain ⟨a27, h28, hf⟩ := bn_some hf
              refine kPV (tX11_isPossible l G ad_t ad_t_all ad_t_tape ad_t_isImage ad_t_size ad_t_givenRow ad_t_givenColumn ad_t_newRow ad_t_view tI t_value (upd g20 4211 x19) (4211 : Int32) x24 a27 h28) ⟨hx, hb, hml, hown, hts⟩ q1155 q1157 q42 q108 q1158 okyX11_isPossible ⟨Nat.le_of_ble_eq_true rfl, Nat.le_of_ble_eq_true rfl⟩ hP hG hS [1, 2] rfl 1 rfl rfl hl.1 rfl (Nat.le_of_ble_eq_true rfl) dX11_most_54 ⟨Nat.zero_le _, Nat.zero_le _⟩ (fun locs hS => ?_)
              refine W.eq (g2 := F0 m 57 ls [.int (bi a27)]) rfl ?_
              refine lv_if_eq (tgt := 88) hx hb dX11_most_57 (by decide) (fun c29 => ?_) (fun c29 => ?_)
              · have hf := if_t hf c29
                refine lv_iload hx hb dX11_most_88 (lv_at hl 0 rfl) ?_
                refine lv_iconst (v := 2) hx hb dX11_most_90 (by decide) ?_
                refine lv_imul hx hb dX11_most_91 ?_
                refine lv_istore (lv' := [(4, .int (x24 * (2 : Int32))), (3, .int x19), (0, .ref ad_t), (1, .int p0), (2, .int p1)]) hx hb dX11_most_92 hl (by decide) rfl (fun ls hl => ?_)
                refine lv_goto (tgt := 41) hx hb dX11_most_94 (by decide) ?_
                exact ih (x24 * (2 : Int32)) g25 H locs ls (lv_sub hl [0, 1, 2, 3, 4] rfl) hP hD hS hf
              · have hf := if_f hf c29
                refine lv_aload_n hx hb dX11_most_60 rfl (lv_at hl 2 rfl) ?_
                refine lv_sipush (v := 4211) hx hb dX11_most_61 (by decide) ?_
                refine lv_iload hx hb dX11_most_64 (lv_at hl 0 rfl) ?_
                obtain ⟨a30, h31, hf⟩ := bn_some hf
                refine kEV (tX11_width l G ad_t ad_t_all ad_t_tape ad_t_isImage ad_t_size ad_t_givenRow ad_t_givenColumn ad_t_newRow ad_t_view tI t_value (upd g20 4211 x19) g25 (4211 : Int32) x24 a30 h31) ⟨hx, hb, hml, hown, hts⟩ q1175 q1177 q47 q108 q1178 okyX11_width ⟨Nat.le_of_ble_eq_true rfl, Nat.le_of_ble_eq_true rfl⟩ hP hD hG hS hA [1, 2, 0] [] rfl (wr := []) rfl (by decide) 1 rfl rfl hl.1 rfl (Nat.le_of_ble_eq_true rfl) dX11_most_66 ⟨Nat.zero_le _, Nat.zero_le _⟩ (fun r w H locs hR hP hD hS => ?_)
                obtain ⟨rfl, rfl⟩ := hR
                have hP : va_P G.1 vwCl [(ad_t, .inr (11, [.ref ad_t_all, .ref ad_t_tape, .ref ad_t_isImage, .int (tI 3), .int (tI 4), .int (tI 5), .int (tI 6), .ref ad_t_size, .ref ad_t_givenRow, .ref ad_t_givenColumn, .ref ad_t_newRow, .int (tI 11), .int (tI 12), .int (tI 13), .int (tI 14), .int (tI 15), .int (tI 16), .int (tI 17), .int (tI 18), .int (tI 19), .ref ad_t_view, .int (tI 21), .int (tI 22), .int (tI 23), .int (tI 24), .int (tI 25), .long t_value, .int (tI 27), .int (tI 28)])), (ad_t_all, .inl (G.2.1 0, 43047, .inl (upd g20 4211 x19))), (ad_t_size, .inl (G.2.1 0, 8, .inl a30.2))] H := hP
                have hD : va_D A [(ad_t, .inr (11, [.ref ad_t_all, .ref ad_t_tape, .ref ad_t_isImage, .int (tI 3), .int (tI 4), .int (tI 5), .int (tI 6), .ref ad_t_size, .ref ad_t_givenRow, .ref ad_t_givenColumn, .ref ad_t_newRow, .int (tI 11), .int (tI 12), .int (tI 13), .int (tI 14), .int (tI 15), .int (tI 16), .int (tI 17), .int (tI 18), .int (tI 19), .ref ad_t_view, .int (tI 21), .int (tI 22), .int (tI 23), .int (tI 24), .int (tI 25), .long t_value, .int (tI 27), .int (tI 28)])), (ad_t_all, .inl (G.2.1 0, 43047, .inl (upd g20 4211 x19))), (ad_t_size, .inl (G.2.1 0, 8, .inl a30.2))] := hD
                refine W.eq (g2 := F0 m 69 ls [.int a30.1]) rfl ?_
                refine lv_iload_n hx hb dX11_most_69 rfl (lv_at hl 3 rfl) ?_
                refine lv_icmp_gt (tgt := 88) hx hb dX11_most_70 (by decide) (fun c32 => ?_) (fun c32 => ?_)
                · have hf := if_t hf c32
                  refine lv_iload hx hb dX11_most_88 (lv_at hl 0 rfl) ?_
                  refine lv_iconst (v := 2) hx hb dX11_most_90 (by decide) ?_
                  refine lv_imul hx hb dX11_most_91 ?_
                  refine lv_istore (lv' := [(4, .int (x24 * (2 : Int32))), (3, .int x19), (0, .ref ad_t), (1, .int p0), (2, .int p1)]) hx hb dX11_most_92 hl (by decide) rfl (fun ls hl => ?_)
                  refine lv_goto (tgt := 41) hx hb dX11_most_94 (by decide) ?_
                  have hP := hP.sub (ws' := [(ad_t_size, .inl (G.2.1 0, 8, .inl a30.2)), (ad_t, .inr (11, [.ref ad_t_all, .ref ad_t_tape, .ref ad_t_isImage, .int (tI 3), .int (tI 4), .int (tI 5), .int (tI 6), .ref ad_t_size, .ref ad_t_givenRow, .ref ad_t_givenColumn, .ref ad_t_newRow, .int (tI 11), .int (tI 12), .int (tI 13), .int (tI 14), .int (tI 15), .int (tI 16), .int (tI 17), .int (tI 18), .int (tI 19), .ref ad_t_view, .int (tI 21), .int (tI 22), .int (tI 23), .int (tI 24), .int (tI 25), .long t_value, .int (tI 27), .int (tI 28)])), (ad_t_all, .inl (G.2.1 0, 43047, .inl (upd g20 4211 x19)))]) [2, 0, 1] rfl
                  have hD := hD.sub (ws' := [(ad_t_size, .inl (G.2.1 0, 8, .inl a30.2)), (ad_t, .inr (11, [.ref ad_t_all, .ref ad_t_tape, .ref ad_t_isImage, .int (tI 3), .int (tI 4), .int (tI 5), .int (tI 6), .ref ad_t_size, .ref ad_t_givenRow, .ref ad_t_givenColumn, .ref ad_t_newRow, .int (tI 11), .int (tI 12), .int (tI 13), .int (tI 14), .int (tI 15), .int (tI 16), .int (tI 17), .int (tI 18), .int (tI 19), .ref ad_t_view, .int (tI 21), .int (tI 22), .int (tI 23), .int (tI 24), .int (tI 25), .long t_value, .int (tI 27), .int (tI 28)])), (ad_t_all, .inl (G.2.1 0, 43047, .inl (upd g20 4211 x19)))]) [2, 0, 1] (by decide) rfl
                  exact ih (x24 * (2 : Int32)) a30.2 H locs ls (lv_sub hl [0, 1, 2, 3, 4] rfl) hP hD hS hf
                · have hf := if_f hf c32
                  refine lv_aload_n hx hb dX11_most_73 rfl (lv_at hl 2 rfl) ?_
                  refine lv_sipush (v := 4211) hx hb dX11_most_74 (by decide) ?_
                  refine lv_iload hx hb dX11_most_77 (lv_at hl 0 rfl) ?_
                  obtain ⟨a33, h34, hf⟩ := bn_some hf
                  refine kPV (tX11_height l G ad_t ad_t_all ad_t_tape ad_t_isImage ad_t_size ad_t_givenRow ad_t_givenColumn ad_t_newRow ad_t_view tI t_value (upd g20 4211 x19) (4211 : Int32) x24 a33 h34) ⟨hx, hb, hml, hown, hts⟩ q1225 q1227 q57 q108 q1228 okyX11_height ⟨Nat.le_of_ble_eq_true rfl, Nat.le_of_ble_eq_true rfl⟩ hP hG hS [0, 1] rfl 0 rfl rfl hl.1 rfl (Nat.le_of_ble_eq_true rfl) dX11_most_79 ⟨Nat.zero_le _, Nat.zero_le _⟩ (fun locs hS => ?_)
                  refine W.eq (g2 := F0 m 82 ls [.int a33]) rfl ?_
                  refine lv_iload_n hx hb dX11_most_82 rfl (lv_at hl 4 rfl) ?_
                  refine lv_icmp_gt (tgt := 88) hx hb dX11_most_83 (by decide) (fun c35 => ?_) (fun c35 => ?_)
                  · have hf := if_t hf c35
                    refine lv_iload hx hb dX11_most_88 (lv_at hl 0 rfl) ?_
                    refine lv_iconst (v := 2) hx hb dX11_most_90 (by decide) ?_
                    refine lv_imul hx hb dX11_most_91 ?_
                    refine lv_istore (lv' := [(4, .int (x24 * (2 : Int32))), (3, .int x19), (0, .ref ad_t), (1, .int p0), (2, .int p1)]) hx hb dX11_most_92 hl (by decide) rfl (fun ls hl => ?_)
                    refine lv_goto (tgt := 41) hx hb dX11_most_94 (by decide) ?_
                    have hP := hP.sub (ws' := [(ad_t_size, .inl (G.2.1 0, 8, .inl a30.2)), (ad_t, .inr (11, [.ref ad_t_all, .ref ad_t_tape, .ref ad_t_isImage, .int (tI 3), .int (tI 4), .int (tI 5), .int (tI 6), .ref ad_t_size, .ref ad_t_givenRow, .ref ad_t_givenColumn, .ref ad_t_newRow, .int (tI 11), .int (tI 12), .int (tI 13), .int (tI 14), .int (tI 15), .int (tI 16), .int (tI 17), .int (tI 18), .int (tI 19), .ref ad_t_view, .int (tI 21), .int (tI 22), .int (tI 23), .int (tI 24), .int (tI 25), .long t_value, .int (tI 27), .int (tI 28)])), (ad_t_all, .inl (G.2.1 0, 43047, .inl (upd g20 4211 x19)))]) [2, 0, 1] rfl
                    have hD := hD.sub (ws' := [(ad_t_size, .inl (G.2.1 0, 8, .inl a30.2)), (ad_t, .inr (11, [.ref ad_t_all, .ref ad_t_tape, .ref ad_t_isImage, .int (tI 3), .int (tI 4), .int (tI 5), .int (tI 6), .ref ad_t_size, .ref ad_t_givenRow, .ref ad_t_givenColumn, .ref ad_t_newRow, .int (tI 11), .int (tI 12), .int (tI 13), .int (tI 14), .int (tI 15), .int (tI 16), .int (tI 17), .int (tI 18), .int (tI 19), .ref ad_t_view, .int (tI 21), .int (tI 22), .int (tI 23), .int (tI 24), .int (tI 25), .long t_value, .int (tI 27), .int (tI 28)])), (ad_t_all, .inl (G.2.1 0, 43047, .inl (upd g20 4211 x19)))]) [2, 0, 1] (by decide) rfl
                    exact ih (x24 * (2 : Int32)) a30.2 H locs ls (lv_sub hl [0, 1, 2, 3, 4] rfl) hP hD hS hf
                  · have hf := if_f hf c35
                    refine lv_iload_n hx hb dX11_most_86 rfl (lv_at hl 1 rfl) ?_
                    have hf := Option.some.inj hf
                    subst hf
                    have hf := hky23
                    (try dsimp only at hf)
                    have hf := Option.some.inj hf
                    subst hf
                    have hf := hky18
                    (try dsimp only at hf)
                    have hf := Option.some.inj hf
                    subst hf
                    exact eRet hx hb hr hlocks hP hD hS ⟨rfl, rfl⟩ dX11_most_87
        exact Ly23 FU (1 : Int32) g21 H locs ls (lv_sub hl [0, 1, 2, 3, 4] rfl) hP hD hS hLy23
  exact Ly18 FU (1024 : Int32) (upd a16 4213 (0 : Int32)) t_size H locs ls (lv_sub hl [0, 1, 2, 3] rfl) hP hD hS hLy18

def fX11_adds (tI : Nat → Int32) (t_view : Nat → Int32) (p0 : Int32) : Option ((Nat → Int32) × (Nat → Int32)) :=
  gd (gi (tI 21) 600) (some ((upd tI 21 ((tI 21) + (1 : Int32))), (upd t_view (tI 21).toNatClampNeg p0)))
set_option maxRecDepth 100000 in
set_option maxHeartbeats 4000000 in
theorem tX11_adds (l : Launch) (G : gG) (ad_t ad_t_all ad_t_tape ad_t_isImage ad_t_size ad_t_givenRow ad_t_givenColumn ad_t_newRow ad_t_view : Nat) (tI : Nat → Int32) (t_value : Int64) (t_view : Nat → Int32) (p0 : Int32) (o : (Nat → Int32) × (Nat → Int32)) (hf : fX11_adds tI t_view p0 = some o) : mE G l yX11_adds cX11_adds 2 none 0 0 0 0 [.ref ad_t, .int p0] [(ad_t, .inr (11, [.ref ad_t_all, .ref ad_t_tape, .ref ad_t_isImage, .int (tI 3), .int (tI 4), .int (tI 5), .int (tI 6), .ref ad_t_size, .ref ad_t_givenRow, .ref ad_t_givenColumn, .ref ad_t_newRow, .int (tI 11), .int (tI 12), .int (tI 13), .int (tI 14), .int (tI 15), .int (tI 16), .int (tI 17), .int (tI 18), .int (tI 19), .ref ad_t_view, .int (tI 21), .int (tI 22), .int (tI 23), .int (tI 24), .int (tI 25), .long t_value, .int (tI 27), .int (tI 28)])), (ad_t_view, .inl (G.2.1 0, 600, .inl t_view))] (fun r w => r = none ∧ w = [(ad_t, .inr (11, [.ref ad_t_all, .ref ad_t_tape, .ref ad_t_isImage, .int (o.1 3), .int (o.1 4), .int (o.1 5), .int (o.1 6), .ref ad_t_size, .ref ad_t_givenRow, .ref ad_t_givenColumn, .ref ad_t_newRow, .int (o.1 11), .int (o.1 12), .int (o.1 13), .int (o.1 14), .int (o.1 15), .int (o.1 16), .int (o.1 17), .int (o.1 18), .int (o.1 19), .ref ad_t_view, .int (o.1 21), .int (o.1 22), .int (o.1 23), .int (o.1 24), .int (o.1 25), .long t_value, .int (o.1 27), .int (o.1 28)])), (ad_t_view, .inl (G.2.1 0, 600, .inl o.2))]) := by
  refine mE_of (by decide) (Nat.le_of_ble_eq_true rfl) ?_
  intro p e s m below meth cd ls A hx hb hml hown hts hr hlocks hnm hl hA hP hD hS hG
  have hK := hG.1
  have hown : s.vm.findClass RX11 = some m.cls := hown
  have hl : lv_has ls 2 [(0, .ref ad_t), (1, .int p0)] := hl
  have hS := hS
  unfold fX11_adds at hf
  obtain ⟨H, locs, eH, eL⟩ : ∃ (H : Heap) (locs : List Loc), H = s.heap ∧ locs = [] := ⟨_, _, rfl, rfl⟩
  have hP : va_P G.1 vwCl [(ad_t, .inr (11, [.ref ad_t_all, .ref ad_t_tape, .ref ad_t_isImage, .int (tI 3), .int (tI 4), .int (tI 5), .int (tI 6), .ref ad_t_size, .ref ad_t_givenRow, .ref ad_t_givenColumn, .ref ad_t_newRow, .int (tI 11), .int (tI 12), .int (tI 13), .int (tI 14), .int (tI 15), .int (tI 16), .int (tI 17), .int (tI 18), .int (tI 19), .ref ad_t_view, .int (tI 21), .int (tI 22), .int (tI 23), .int (tI 24), .int (tI 25), .long t_value, .int (tI 27), .int (tI 28)])), (ad_t_view, .inl (G.2.1 0, 600, .inl t_view))] H := eH ▸ hP
  have hS : va_S A s.heap H locs := by rw [eH, eL]; exact hS
  suffices hgo : wG p l e 0 0 s m [.ref ad_t, .int p0] below meth cd H locs (eQ G A (fun r w => r = none ∧ w = [(ad_t, .inr (11, [.ref ad_t_all, .ref ad_t_tape, .ref ad_t_isImage, .int (o.1 3), .int (o.1 4), .int (o.1 5), .int (o.1 6), .ref ad_t_size, .ref ad_t_givenRow, .ref ad_t_givenColumn, .ref ad_t_newRow, .int (o.1 11), .int (o.1 12), .int (o.1 13), .int (o.1 14), .int (o.1 15), .int (o.1 16), .int (o.1 17), .int (o.1 18), .int (o.1 19), .ref ad_t_view, .int (o.1 21), .int (o.1 22), .int (o.1 23), .int (o.1 24), .int (o.1 25), .long t_value, .int (o.1 27), .int (o.1 28)])), (ad_t_view, .inl (G.2.1 0, 600, .inl o.2))])) A (F0 m 0 ls []) by rw [eH, eL] at hgo; exact hgo
  clear eH eL
  refine lv_aload_n hx hb dX11_adds_0 rfl (lv_at hl 0 rfl) ?_
  refine va_get (D := G.1) (cl := vwCl) (ci := 11) (v := .ref ad_t_view) (C := RX11) (T := TX11) (N := 29) hx hb hts inG11 hown hK hP 0 rfl rfl 20 (Nat.le_of_ble_eq_true rfl) (hts _ q1061) (fun _ h9 => h9) rfl dX11_adds_1 ?_
  refine lv_aload_n hx hb dX11_adds_4 rfl (lv_at hl 0 rfl) ?_
  refine va_get (D := G.1) (cl := vwCl) (ci := 11) (v := .int (tI 21)) (C := RX11) (T := TX11) (N := 29) hx hb hts inG11 hown hK hP 0 rfl rfl 21 (Nat.le_of_ble_eq_true rfl) (hts _ q1062) (fun _ h9 => h9) rfl dX11_adds_5 ?_
  refine lv_iload_n hx hb dX11_adds_8 rfl (lv_at hl 1 rfl) ?_
  obtain ⟨h2, hf⟩ := gd_some hf
  refine va_iast (D := G.1) (cl := vwCl) hx hb hK hP hD hS 1 0 rfl rfl (gi_in h2) dX11_adds_9 (fun H locs hP hD hS => ?_)
  have hP : va_P G.1 vwCl [(ad_t, .inr (11, [.ref ad_t_all, .ref ad_t_tape, .ref ad_t_isImage, .int (tI 3), .int (tI 4), .int (tI 5), .int (tI 6), .ref ad_t_size, .ref ad_t_givenRow, .ref ad_t_givenColumn, .ref ad_t_newRow, .int (tI 11), .int (tI 12), .int (tI 13), .int (tI 14), .int (tI 15), .int (tI 16), .int (tI 17), .int (tI 18), .int (tI 19), .ref ad_t_view, .int (tI 21), .int (tI 22), .int (tI 23), .int (tI 24), .int (tI 25), .long t_value, .int (tI 27), .int (tI 28)])), (ad_t_view, .inl (G.2.1 0, 600, .inl (upd t_view (tI 21).toNatClampNeg p0)))] H := hP
  have hD : va_D A [(ad_t, .inr (11, [.ref ad_t_all, .ref ad_t_tape, .ref ad_t_isImage, .int (tI 3), .int (tI 4), .int (tI 5), .int (tI 6), .ref ad_t_size, .ref ad_t_givenRow, .ref ad_t_givenColumn, .ref ad_t_newRow, .int (tI 11), .int (tI 12), .int (tI 13), .int (tI 14), .int (tI 15), .int (tI 16), .int (tI 17), .int (tI 18), .int (tI 19), .ref ad_t_view, .int (tI 21), .int (tI 22), .int (tI 23), .int (tI 24), .int (tI 25), .long t_value, .int (tI 27), .int (tI 28)])), (ad_t_view, .inl (G.2.1 0, 600, .inl (upd t_view (tI 21).toNatClampNeg p0)))] := hD
  refine lv_aload_n hx hb dX11_adds_10 rfl (lv_at hl 0 rfl) ?_
  refine lv_dup hx hb dX11_adds_11 rfl ?_
  refine va_get (D := G.1) (cl := vwCl) (ci := 11) (v := .int (tI 21)) (C := RX11) (T := TX11) (N := 29) hx hb hts inG11 hown hK hP 0 rfl rfl 21 (Nat.le_of_ble_eq_true rfl) (hts _ q1062) (fun _ h9 => h9) rfl dX11_adds_12 ?_
  refine lv_iconst (v := 1) hx hb dX11_adds_15 (by decide) ?_
  refine lv_iadd hx hb dX11_adds_16 ?_
  refine va_put (D := G.1) (cl := vwCl) (ci := 11) (v := .int ((tI 21) + (1 : Int32))) (ty := .int) (C := RX11) (T := TX11) (N := 29) hx hb hts inG11 tyX11 tyX11_ok nmX11 hown hK hP hD hS 0 rfl rfl 21 (Nat.le_of_ble_eq_true rfl) (hts _ q1062) (fun _ h9 => h9) rfl (tyX11_ok 21 (Nat.le_of_ble_eq_true rfl)) rfl rfl (Nat.le_of_ble_eq_true rfl) dX11_adds_17 (fun H locs hP hD hS => ?_)
  have hP : va_P G.1 vwCl [(ad_t, .inr (11, [.ref ad_t_all, .ref ad_t_tape, .ref ad_t_isImage, .int (tI 3), .int (tI 4), .int (tI 5), .int (tI 6), .ref ad_t_size, .ref ad_t_givenRow, .ref ad_t_givenColumn, .ref ad_t_newRow, .int (tI 11), .int (tI 12), .int (tI 13), .int (tI 14), .int (tI 15), .int (tI 16), .int (tI 17), .int (tI 18), .int (tI 19), .ref ad_t_view, .int ((tI 21) + (1 : Int32)), .int (tI 22), .int (tI 23), .int (tI 24), .int (tI 25), .long t_value, .int (tI 27), .int (tI 28)])), (ad_t_view, .inl (G.2.1 0, 600, .inl (upd t_view (tI 21).toNatClampNeg p0)))] H := hP
  have hD : va_D A [(ad_t, .inr (11, [.ref ad_t_all, .ref ad_t_tape, .ref ad_t_isImage, .int (tI 3), .int (tI 4), .int (tI 5), .int (tI 6), .ref ad_t_size, .ref ad_t_givenRow, .ref ad_t_givenColumn, .ref ad_t_newRow, .int (tI 11), .int (tI 12), .int (tI 13), .int (tI 14), .int (tI 15), .int (tI 16), .int (tI 17), .int (tI 18), .int (tI 19), .ref ad_t_view, .int ((tI 21) + (1 : Int32)), .int (tI 22), .int (tI 23), .int (tI 24), .int (tI 25), .long t_value, .int (tI 27), .int (tI 28)])), (ad_t_view, .inl (G.2.1 0, 600, .inl (upd t_view (tI 21).toNatClampNeg p0)))] := hD
  have hf := Option.some.inj hf
  subst hf
  exact eRetV hx hb hr hlocks hP hD hS ⟨rfl, rfl⟩ dX11_adds_20

def fX11_word_l2 (x1 : Int64) : Nat → Int64 → Option (Int64)
  | 0, _ => none
  | n + 1, x3 =>
    gd (nzL x3) ((if (lg_cmp (x1 / x3) (26 : Int64)) ≤ 0 then some x3 else fX11_word_l2 x1 n (x3 * (27 : Int64))))
def fX11_word_l21 (x1 : Int64) : Nat → Int64 → (Nat → Int32) → (Nat → Int32) → Option ((Nat → Int32) × (Nat → Int32))
  | 0, _, _, _ => none
  | n + 1, x3, tI, t_view =>
    (if (lg_cmp x3 (0 : Int64)) ≤ 0 then some (tI, t_view) else gd (nzL x3) (bn (fX11_adds tI t_view (((((x1 / x3) - (x1 / x3) / (27 : Int64) * (27 : Int64)).toInt32) + (97 : Int32)) - (1 : Int32))) fun a6 => fX11_word_l21 x1 n (x3 / (27 : Int64)) a6.1 a6.2))
def fX11_word (tI : Nat → Int32) (t_view : Nat → Int32) (p0 : Int64) : Option ((Nat → Int32) × (Nat → Int32)) :=
  bn (fX11_word_l2 p0 FU (1 : Int64)) fun y3 => bn (fX11_word_l21 p0 FU y3 tI t_view) fun y8 => some (y8.1, y8.2)
set_option maxRecDepth 100000 in
set_option maxHeartbeats 4000000 in
theorem tX11_word (l : Launch) (G : gG) (ad_t ad_t_all ad_t_tape ad_t_isImage ad_t_size ad_t_givenRow ad_t_givenColumn ad_t_newRow ad_t_view : Nat) (tI : Nat → Int32) (t_value : Int64) (t_view : Nat → Int32) (p0 : Int64) (o : (Nat → Int32) × (Nat → Int32)) (hf : fX11_word tI t_view p0 = some o) : mE G l yX11_word cX11_word 5 none 1 21 0 0 [.ref ad_t, .long p0] [(ad_t, .inr (11, [.ref ad_t_all, .ref ad_t_tape, .ref ad_t_isImage, .int (tI 3), .int (tI 4), .int (tI 5), .int (tI 6), .ref ad_t_size, .ref ad_t_givenRow, .ref ad_t_givenColumn, .ref ad_t_newRow, .int (tI 11), .int (tI 12), .int (tI 13), .int (tI 14), .int (tI 15), .int (tI 16), .int (tI 17), .int (tI 18), .int (tI 19), .ref ad_t_view, .int (tI 21), .int (tI 22), .int (tI 23), .int (tI 24), .int (tI 25), .long t_value, .int (tI 27), .int (tI 28)])), (ad_t_view, .inl (G.2.1 0, 600, .inl t_view))] (fun r w => r = none ∧ w = [(ad_t, .inr (11, [.ref ad_t_all, .ref ad_t_tape, .ref ad_t_isImage, .int (o.1 3), .int (o.1 4), .int (o.1 5), .int (o.1 6), .ref ad_t_size, .ref ad_t_givenRow, .ref ad_t_givenColumn, .ref ad_t_newRow, .int (o.1 11), .int (o.1 12), .int (o.1 13), .int (o.1 14), .int (o.1 15), .int (o.1 16), .int (o.1 17), .int (o.1 18), .int (o.1 19), .ref ad_t_view, .int (o.1 21), .int (o.1 22), .int (o.1 23), .int (o.1 24), .int (o.1 25), .long t_value, .int (o.1 27), .int (o.1 28)])), (ad_t_view, .inl (G.2.1 0, 600, .inl o.2))]) := by
  refine mE_of (by decide) (Nat.le_of_ble_eq_true rfl) ?_
  intro p e s m below meth cd ls A hx hb hml hown hts hr hlocks hnm hl hA hP hD hS hG
  have hK := hG.1
  have hown : s.vm.findClass RX11 = some m.cls := hown
  have hl : lv_has ls 5 [(0, .ref ad_t), (1, .long p0)] := hl
  have hS := hS
  unfold fX11_word at hf
  obtain ⟨H, locs, eH, eL⟩ : ∃ (H : Heap) (locs : List Loc), H = s.heap ∧ locs = [] := ⟨_, _, rfl, rfl⟩
  have hP : va_P G.1 vwCl [(ad_t, .inr (11, [.ref ad_t_all, .ref ad_t_tape, .ref ad_t_isImage, .int (tI 3), .int (tI 4), .int (tI 5), .int (tI 6), .ref ad_t_size, .ref ad_t_givenRow, .ref ad_t_givenColumn, .ref ad_t_newRow, .int (tI 11), .int (tI 12), .int (tI 13), .int (tI 14), .int (tI 15), .int (tI 16), .int (tI 17), .int (tI 18), .int (tI 19), .ref ad_t_view, .int (tI 21), .int (tI 22), .int (tI 23), .int (tI 24), .int (tI 25), .long t_value, .int (tI 27), .int (tI 28)])), (ad_t_view, .inl (G.2.1 0, 600, .inl t_view))] H := eH ▸ hP
  have hS : va_S A s.heap H locs := by rw [eH, eL]; exact hS
  suffices hgo : wG p l e 1 21 s m [.ref ad_t, .long p0] below meth cd H locs (eQ G A (fun r w => r = none ∧ w = [(ad_t, .inr (11, [.ref ad_t_all, .ref ad_t_tape, .ref ad_t_isImage, .int (o.1 3), .int (o.1 4), .int (o.1 5), .int (o.1 6), .ref ad_t_size, .ref ad_t_givenRow, .ref ad_t_givenColumn, .ref ad_t_newRow, .int (o.1 11), .int (o.1 12), .int (o.1 13), .int (o.1 14), .int (o.1 15), .int (o.1 16), .int (o.1 17), .int (o.1 18), .int (o.1 19), .ref ad_t_view, .int (o.1 21), .int (o.1 22), .int (o.1 23), .int (o.1 24), .int (o.1 25), .long t_value, .int (o.1 27), .int (o.1 28)])), (ad_t_view, .inl (G.2.1 0, 600, .inl o.2))])) A (F0 m 0 ls []) by rw [eH, eL] at hgo; exact hgo
  clear eH eL
  refine lv_lconst (v := 1) hx hb dX11_word_0 (by decide) ?_
  refine lv_lstore_n (lv' := [(3, .long (1 : Int64)), (0, .ref ad_t), (1, .long p0)]) hx hb dX11_word_1 rfl hl (by decide) rfl (fun ls hl => ?_)
  obtain ⟨y9, hLy9, hky9⟩ := bn_some hf
  have Ey9 : ∀  (H : Heap) (locs : List Loc) (ls : Array Slot), lv_has ls 5 [(3, .long y9), (0, .ref ad_t), (1, .long p0)] → va_P G.1 vwCl [(ad_t, .inr (11, [.ref ad_t_all, .ref ad_t_tape, .ref ad_t_isImage, .int (tI 3), .int (tI 4), .int (tI 5), .int (tI 6), .ref ad_t_size, .ref ad_t_givenRow, .ref ad_t_givenColumn, .ref ad_t_newRow, .int (tI 11), .int (tI 12), .int (tI 13), .int (tI 14), .int (tI 15), .int (tI 16), .int (tI 17), .int (tI 18), .int (tI 19), .ref ad_t_view, .int (tI 21), .int (tI 22), .int (tI 23), .int (tI 24), .int (tI 25), .long t_value, .int (tI 27), .int (tI 28)])), (ad_t_view, .inl (G.2.1 0, 600, .inl t_view))] H → va_D A [(ad_t, .inr (11, [.ref ad_t_all, .ref ad_t_tape, .ref ad_t_isImage, .int (tI 3), .int (tI 4), .int (tI 5), .int (tI 6), .ref ad_t_size, .ref ad_t_givenRow, .ref ad_t_givenColumn, .ref ad_t_newRow, .int (tI 11), .int (tI 12), .int (tI 13), .int (tI 14), .int (tI 15), .int (tI 16), .int (tI 17), .int (tI 18), .int (tI 19), .ref ad_t_view, .int (tI 21), .int (tI 22), .int (tI 23), .int (tI 24), .int (tI 25), .long t_value, .int (tI 27), .int (tI 28)])), (ad_t_view, .inl (G.2.1 0, 600, .inl t_view))] → va_S A s.heap H locs → wG p l e 1 21 s m [.ref ad_t, .long p0] below meth cd H locs (eQ G A (fun r w => r = none ∧ w = [(ad_t, .inr (11, [.ref ad_t_all, .ref ad_t_tape, .ref ad_t_isImage, .int (o.1 3), .int (o.1 4), .int (o.1 5), .int (o.1 6), .ref ad_t_size, .ref ad_t_givenRow, .ref ad_t_givenColumn, .ref ad_t_newRow, .int (o.1 11), .int (o.1 12), .int (o.1 13), .int (o.1 14), .int (o.1 15), .int (o.1 16), .int (o.1 17), .int (o.1 18), .int (o.1 19), .ref ad_t_view, .int (o.1 21), .int (o.1 22), .int (o.1 23), .int (o.1 24), .int (o.1 25), .long t_value, .int (o.1 27), .int (o.1 28)])), (ad_t_view, .inl (G.2.1 0, 600, .inl o.2))])) A (F0 m 21 ls []) := by
    intro  H locs ls hl hP hD hS
    have hf := hky9
    obtain ⟨y10, hLy10, hky10⟩ := bn_some hf
    have Ey10 : ∀  (H : Heap) (locs : List Loc) (ls : Array Slot), lv_has ls 5 [] → va_P G.1 vwCl [(ad_t, .inr (11, [.ref ad_t_all, .ref ad_t_tape, .ref ad_t_isImage, .int (y10.1 3), .int (y10.1 4), .int (y10.1 5), .int (y10.1 6), .ref ad_t_size, .ref ad_t_givenRow, .ref ad_t_givenColumn, .ref ad_t_newRow, .int (y10.1 11), .int (y10.1 12), .int (y10.1 13), .int (y10.1 14), .int (y10.1 15), .int (y10.1 16), .int (y10.1 17), .int (y10.1 18), .int (y10.1 19), .ref ad_t_view, .int (y10.1 21), .int (y10.1 22), .int (y10.1 23), .int (y10.1 24), .int (y10.1 25), .long t_value, .int (y10.1 27), .int (y10.1 28)])), (ad_t_view, .inl (G.2.1 0, 600, .inl y10.2))] H → va_D A [(ad_t, .inr (11, [.ref ad_t_all, .ref ad_t_tape, .ref ad_t_isImage, .int (y10.1 3), .int (y10.1 4), .int (y10.1 5), .int (y10.1 6), .ref ad_t_size, .ref ad_t_givenRow, .ref ad_t_givenColumn, .ref ad_t_newRow, .int (y10.1 11), .int (y10.1 12), .int (y10.1 13), .int (y10.1 14), .int (y10.1 15), .int (y10.1 16), .int (y10.1 17), .int (y10.1 18), .int (y10.1 19), .ref ad_t_view, .int (y10.1 21), .int (y10.1 22), .int (y10.1 23), .int (y10.1 24), .int (y10.1 25), .long t_value, .int (y10.1 27), .int (y10.1 28)])), (ad_t_view, .inl (G.2.1 0, 600, .inl y10.2))] → va_S A s.heap H locs → wG p l e 1 21 s m [.ref ad_t, .long p0] below meth cd H locs (eQ G A (fun r w => r = none ∧ w = [(ad_t, .inr (11, [.ref ad_t_all, .ref ad_t_tape, .ref ad_t_isImage, .int (o.1 3), .int (o.1 4), .int (o.1 5), .int (o.1 6), .ref ad_t_size, .ref ad_t_givenRow, .ref ad_t_givenColumn, .ref ad_t_newRow, .int (o.1 11), .int (o.1 12), .int (o.1 13), .int (o.1 14), .int (o.1 15), .int (o.1 16), .int (o.1 17), .int (o.1 18), .int (o.1 19), .ref ad_t_view, .int (o.1 21), .int (o.1 22), .int (o.1 23), .int (o.1 24), .int (o.1 25), .long t_value, .int (o.1 27), .int (o.1 28)])), (ad_t_view, .inl (G.2.1 0, 600, .inl o.2))])) A (F0 m 53 ls []) := by
      intro  H locs ls hl hP hD hS
      have hf := hky10
      have hf := Option.some.inj hf
      subst hf
      exact eRetV hx hb hr hlocks hP hD hS ⟨rfl, rfl⟩ dX11_word_53
    have Ly10 : ∀ (n : Nat), ∀ (x11 : Int64) (g12 : Nat → Int32) (g13 : Nat → Int32) (H : Heap) (locs : List Loc) (ls : Array Slot), lv_has ls 5 [(3, .long x11), (0, .ref ad_t), (1, .long p0)] → va_P G.1 vwCl [(ad_t, .inr (11, [.ref ad_t_all, .ref ad_t_tape, .ref ad_t_isImage, .int (g12 3), .int (g12 4), .int (g12 5), .int (g12 6), .ref ad_t_size, .ref ad_t_givenRow, .ref ad_t_givenColumn, .ref ad_t_newRow, .int (g12 11), .int (g12 12), .int (g12 13), .int (g12 14), .int (g12 15), .int (g12 16), .int (g12 17), .int (g12 18), .int (g12 19), .ref ad_t_view, .int (g12 21), .int (g12 22), .int (g12 23), .int (g12 24), .int (g12 25), .long t_value, .int (g12 27), .int (g12 28)])), (ad_t_view, .inl (G.2.1 0, 600, .inl g13))] H → va_D A [(ad_t, .inr (11, [.ref ad_t_all, .ref ad_t_tape, .ref ad_t_isImage, .int (g12 3), .int (g12 4), .int (g12 5), .int (g12 6), .ref ad_t_size, .ref ad_t_givenRow, .ref ad_t_givenColumn, .ref ad_t_newRow, .int (g12 11), .int (g12 12), .int (g12 13), .int (g12 14), .int (g12 15), .int (g12 16), .int (g12 17), .int (g12 18), .int (g12 19), .ref ad_t_view, .int (g12 21), .int (g12 22), .int (g12 23), .int (g12 24), .int (g12 25), .long t_value, .int (g12 27), .int (g12 28)])), (ad_t_view, .inl (G.2.1 0, 600, .inl g13))] → va_S A s.heap H locs → fX11_word_l21 p0 n x11 g12 g13 = some y10 → wG p l e 1 21 s m [.ref ad_t, .long p0] below meth cd H locs (eQ G A (fun r w => r = none ∧ w = [(ad_t, .inr (11, [.ref ad_t_all, .ref ad_t_tape, .ref ad_t_isImage, .int (o.1 3), .int (o.1 4), .int (o.1 5), .int (o.1 6), .ref ad_t_size, .ref ad_t_givenRow, .ref ad_t_givenColumn, .ref ad_t_newRow, .int (o.1 11), .int (o.1 12), .int (o.1 13), .int (o.1 14), .int (o.1 15), .int (o.1 16), .int (o.1 17), .int (o.1 18), .int (o.1 19), .ref ad_t_view, .int (o.1 21), .int (o.1 22), .int (o.1 23), .int (o.1 24), .int (o.1 25), .long t_value, .int (o.1 27), .int (o.1 28)])), (ad_t_view, .inl (G.2.1 0, 600, .inl o.2))])) A (F0 m 21 ls []) := by
      intro n
      induction n with
      | zero =>
        intro x11 g12 g13 H locs ls hl hP hD hS hf
        rw [fX11_word_l21] at hf
        cases hf
      | succ n ih =>
        intro x11 g12 g13 H locs ls hl hP hD hS hf
        rw [fX11_word_l21] at hf
        refine lv_lload_n hx hb dX11_word_21 rfl (lv_at hl 0 rfl) ?_
        refine lv_lconst (v := 0) hx hb dX11_word_22 (by decide) ?_
        refine W.lcmp hx hb dX11_word_23 ?_
        refine lv_if_le (tgt := 53) hx hb dX11_word_24 (by decide) (fun c14 => ?_) (fun c14 => ?_)
        · have hf := if_t hf c14
          have hf := Option.some.inj hf
          subst hf
          exact Ey10  H locs ls (lv_sub hl [] rfl) hP hD hS 
        · have hf := if_f hf c14
          refine lv_aload_n hx hb dX11_word_27 rfl (lv_at hl 1 rfl) ?_
          refine lv_lload_n hx hb dX11_word_28 rfl (lv_at hl 2 rfl) ?_
          refine lv_lload_n hx hb dX11_word_29 rfl (lv_at hl 0 rfl) ?_
          obtain ⟨h15, hf⟩ := gd_some hf
          refine lv_ldiv hx hb dX11_word_30 (nzL_ne h15) ?_
          refine lv_ldc2 (v := (27 : Int64)) hx hb hown (hts _ q1396) dX11_word_31 ?_
          refine lv_lrem hx hb dX11_word_34 (by decide) ?_
          refine lv_l2i (v := (((p0 / x11) - (p0 / x11) / (27 : Int64) * (27 : Int64)).toInt32)) hx hb dX11_word_35 rfl ?_
          refine lv_bipush (v := 97) hx hb dX11_word_36 (by decide) ?_
          refine lv_iadd hx hb dX11_word_38 ?_
          refine lv_iconst (v := 1) hx hb dX11_word_39 (by decide) ?_
          refine lv_isub hx hb dX11_word_40 ?_
          obtain ⟨a16, h17, hf⟩ := bn_some hf
          refine kEV (tX11_adds l G ad_t ad_t_all ad_t_tape ad_t_isImage ad_t_size ad_t_givenRow ad_t_givenColumn ad_t_newRow ad_t_view g12 t_value g13 (((((p0 / x11) - (p0 / x11) / (27 : Int64) * (27 : Int64)).toInt32) + (97 : Int32)) - (1 : Int32)) a16 h17) ⟨hx, hb, hml, hown, hts⟩ q1397 q1399 q81 q108 q1400 okyX11_adds ⟨Nat.le_of_ble_eq_true rfl, Nat.le_of_ble_eq_true rfl⟩ hP hD hG hS hA [0, 1] [] rfl (wr := []) rfl (by decide) 0 rfl rfl hl.1 rfl (Nat.le_of_ble_eq_true rfl) dX11_word_41 ⟨Nat.zero_le _, Nat.zero_le _⟩ (fun r w H locs hR hP hD hS => ?_)
          obtain ⟨rfl, rfl⟩ := hR
          have hP : va_P G.1 vwCl [(ad_t, .inr (11, [.ref ad_t_all, .ref ad_t_tape, .ref ad_t_isImage, .int (a16.1 3), .int (a16.1 4), .int (a16.1 5), .int (a16.1 6), .ref ad_t_size, .ref ad_t_givenRow, .ref ad_t_givenColumn, .ref ad_t_newRow, .int (a16.1 11), .int (a16.1 12), .int (a16.1 13), .int (a16.1 14), .int (a16.1 15), .int (a16.1 16), .int (a16.1 17), .int (a16.1 18), .int (a16.1 19), .ref ad_t_view, .int (a16.1 21), .int (a16.1 22), .int (a16.1 23), .int (a16.1 24), .int (a16.1 25), .long t_value, .int (a16.1 27), .int (a16.1 28)])), (ad_t_view, .inl (G.2.1 0, 600, .inl a16.2))] H := hP
          have hD : va_D A [(ad_t, .inr (11, [.ref ad_t_all, .ref ad_t_tape, .ref ad_t_isImage, .int (a16.1 3), .int (a16.1 4), .int (a16.1 5), .int (a16.1 6), .ref ad_t_size, .ref ad_t_givenRow, .ref ad_t_givenColumn, .ref ad_t_newRow, .int (a16.1 11), .int (a16.1 12), .int (a16.1 13), .int (a16.1 14), .int (a16.1 15), .int (a16.1 16), .int (a16.1 17), .int (a16.1 18), .int (a16.1 19), .ref ad_t_view, .int (a16.1 21), .int (a16.1 22), .int (a16.1 23), .int (a16.1 24), .int (a16.1 25), .long t_value, .int (a16.1 27), .int (a16.1 28)])), (ad_t_view, .inl (G.2.1 0, 600, .inl a16.2))] := hD
          refine W.eq (g2 := F0 m 44 ls []) rfl ?_
          refine lv_lload_n hx hb dX11_word_44 rfl (lv_at hl 0 rfl) ?_
          refine lv_ldc2 (v := (27 : Int64)) hx hb hown (hts _ q1396) dX11_word_45 ?_
          refine lv_ldiv hx hb dX11_word_48 (by decide) ?_
          refine lv_lstore_n (lv' := [(3, .long (x11 / (27 : Int64))), (0, .ref ad_t), (1, .long p0)]) hx hb dX11_word_49 rfl hl (by decide) rfl (fun ls hl => ?_)
          refine lv_goto (tgt := 21) hx hb dX11_word_50 (by decide) ?_
          exact ih (x11 / (27 : Int64)) a16.1 a16.2 H locs ls (lv_sub hl [0, 1, 2] rfl) hP hD hS hf
    exact Ly10 FU y9 tI t_view H locs ls (lv_sub hl [0, 1, 2] rfl) hP hD hS hLy10
  have Ly9 : ∀ (n : Nat), ∀ (x18 : Int64) (H : Heap) (locs : List Loc) (ls : Array Slot), lv_has ls 5 [(3, .long x18), (0, .ref ad_t), (1, .long p0)] → va_P G.1 vwCl [(ad_t, .inr (11, [.ref ad_t_all, .ref ad_t_tape, .ref ad_t_isImage, .int (tI 3), .int (tI 4), .int (tI 5), .int (tI 6), .ref ad_t_size, .ref ad_t_givenRow, .ref ad_t_givenColumn, .ref ad_t_newRow, .int (tI 11), .int (tI 12), .int (tI 13), .int (tI 14), .int (tI 15), .int (tI 16), .int (tI 17), .int (tI 18), .int (tI 19), .ref ad_t_view, .int (tI 21), .int (tI 22), .int (tI 23), .int (tI 24), .int (tI 25), .long t_value, .int (tI 27), .int (tI 28)])), (ad_t_view, .inl (G.2.1 0, 600, .inl t_view))] H → va_D A [(ad_t, .inr (11, [.ref ad_t_all, .ref ad_t_tape, .ref ad_t_isImage, .int (tI 3), .int (tI 4), .int (tI 5), .int (tI 6), .ref ad_t_size, .ref ad_t_givenRow, .ref ad_t_givenColumn, .ref ad_t_newRow, .int (tI 11), .int (tI 12), .int (tI 13), .int (tI 14), .int (tI 15), .int (tI 16), .int (tI 17), .int (tI 18), .int (tI 19), .ref ad_t_view, .int (tI 21), .int (tI 22), .int (tI 23), .int (tI 24), .int (tI 25), .long t_value, .int (tI 27), .int (tI 28)])), (ad_t_view, .inl (G.2.1 0, 600, .inl t_view))] → va_S A s.heap H locs → fX11_word_l2 p0 n x18 = some y9 → wG p l e 1 21 s m [.ref ad_t, .long p0] below meth cd H locs (eQ G A (fun r w => r = none ∧ w = [(ad_t, .inr (11, [.ref ad_t_all, .ref ad_t_tape, .ref ad_t_isImage, .int (o.1 3), .int (o.1 4), .int (o.1 5), .int (o.1 6), .ref ad_t_size, .ref ad_t_givenRow, .ref ad_t_givenColumn, .ref ad_t_newRow, .int (o.1 11), .int (o.1 12), .int (o.1 13), .int (o.1 14), .int (o.1 15), .int (o.1 16), .int (o.1 17), .int (o.1 18), .int (o.1 19), .ref ad_t_view, .int (o.1 21), .int (o.1 22), .int (o.1 23), .int (o.1 24), .int (o.1 25), .long t_value, .int (o.1 27), .int (o.1 28)])), (ad_t_view, .inl (G.2.1 0, 600, .inl o.2))])) A (F0 m 2 ls []) := by
    intro n
    induction n with
    | zero =>
      intro x18 H locs ls hl hP hD hS hf
      rw [fX11_word_l2] at hf
      cases hf
    | succ n ih =>
      intro x18 H locs ls hl hP hD hS hf
      rw [fX11_word_l2] at hf
      refine lv_lload_n hx hb dX11_word_2 rfl (lv_at hl 2 rfl) ?_
      refine lv_lload_n hx hb dX11_word_3 rfl (lv_at hl 0 rfl) ?_
      obtain ⟨h19, hf⟩ := gd_some hf
      refine lv_ldiv hx hb dX11_word_4 (nzL_ne h19) ?_
      refine lv_ldc2 (v := (26 : Int64)) hx hb hown (hts _ q1395) dX11_word_5 ?_
      refine W.lcmp hx hb dX11_word_8 ?_
      refine lv_if_le (tgt := 21) hx hb dX11_word_9 (by decide) (fun c20 => ?_) (fun c20 => ?_)
      · have hf := if_t hf c20
        have hf := Option.some.inj hf
        subst hf
        exact Ey9  H locs ls (lv_sub hl [0, 1, 2] rfl) hP hD hS 
      · have hf := if_f hf c20
        refine lv_lload_n hx hb dX11_word_12 rfl (lv_at hl 0 rfl) ?_
        refine lv_ldc2 (v := (27 : Int64)) hx hb hown (hts _ q1396) dX11_word_13 ?_
        refine lv_lmul hx hb dX11_word_16 ?_
        refine lv_lstore_n (lv' := [(3, .long (x18 * (27 : Int64))), (0, .ref ad_t), (1, .long p0)]) hx hb dX11_word_17 rfl hl (by decide) rfl (fun ls hl => ?_)
        refine lv_goto (tgt := 2) hx hb dX11_word_18 (by decide) ?_
        exact ih (x18 * (27 : Int64)) H locs ls (lv_sub hl [0, 1, 2] rfl) hP hD hS hf
  exact Ly9 FU (1 : Int64) H locs ls (lv_sub hl [0, 1, 2] rfl) hP hD hS hLy9
