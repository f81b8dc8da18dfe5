def fX2_lineTold_l2 (tI : Nat → Int32) (t_sourceI : Nat → Int32) (t_source_bytes : Nat → Int32) : Nat → Int32 → Option ((Unit) ⊕ (Int32))
  | 0, _ => none
  | n + 1, x1 =>
    (if (8 : Int32) ≤ x1 then some (.inl ()) else bn (fX2_isTold tI t_sourceI t_source_bytes (fX10_lineWord x1)) fun a2 => (if (bi a2) = 0 then fX2_lineTold_l2 tI t_sourceI t_source_bytes n (x1 + (1 : Int32)) else some (.inr x1)))
def fX2_lineTold (tI : Nat → Int32) (t_sourceI : Nat → Int32) (t_source_bytes : Nat → Int32) : Option (Int32) :=
  (bn (fX2_lineTold_l2 tI t_sourceI t_source_bytes FU (0 : Int32)) fun y5 => match y5 with | .inl y5z => some (-1 : Int32) | .inr y5o => some y5o)
set_option maxRecDepth 100000 in
set_option maxHeartbeats 4000000 in
theorem tX2_lineTold (l : Launch) (G : gG) (ad_t ad_t_told ad_t_source ad_t_source_bytes : Nat) (tI : Nat → Int32) (t_sourceI : Nat → Int32) (t_source_bytes : Nat → Int32) (o : Int32) (hf : fX2_lineTold tI t_sourceI t_source_bytes = some o) : mP G l yX2_lineTold cX2_lineTold 2 (some .int) 5 123 [.ref ad_t] [(ad_t, .inr (2, [.ref ad_t_told, .int (tI 1), .int (tI 2), .ref ad_t_source, .int (tI 4), .int (tI 5), .int (tI 6), .int (tI 7)])), (ad_t_source, .inr (7, [.ref ad_t_source_bytes, .int (t_sourceI 1)])), (ad_t_source_bytes, .inl (G.2.1 1, 300, .inl t_source_bytes))] (some (.int o)) := by
  refine mP_of (by decide) (Nat.le_of_ble_eq_true rfl) ?_
  intro p e s m below meth cd ls hx hb hml hown hts hr hlocks hl hP hG
  have hK := hG.1
  have hown : s.vm.findClass RX2 = some m.cls := hown
  have hl : lv_has ls 2 [(0, .ref ad_t)] := hl
  have hS : va_S no s.heap s.heap [] := va_S.rf
  generalize ([] : List Loc) = locs at hS ⊢
  unfold fX2_lineTold at hf
  show wG p l e 5 123 s m [.ref ad_t] below meth cd s.heap locs (pQ (some (.int o))) no (F0 m 0 ls [])
  refine lv_iconst (v := 0) hx hb dX2_lineTold_0 (by decide) ?_
  refine lv_istore_n (lv' := [(1, .int (0 : Int32)), (0, .ref ad_t)]) hx hb dX2_lineTold_1 rfl hl (by decide) rfl (fun ls hl => ?_)
  obtain ⟨y6, hLy6, hky6⟩ := bn_some hf
  have Ey6 : ∀ y6z, y6 = .inl y6z → ∀  (locs : List Loc) (ls : Array Slot), lv_has ls 2 [] → va_S no s.heap s.heap locs → wG p l e 5 123 s m [.ref ad_t] below meth cd s.heap locs (pQ (some (.int o))) no (F0 m 27 ls []) := by
    intro y6z ez
    intro  locs ls hl hS
    subst ez
    have hf := hky6
    (try dsimp only at hf)
    refine lv_iconst (v := -1) hx hb dX2_lineTold_27 (by decide) ?_
    have hf := Option.some.inj hf
    subst hf
    exact pRet hx hb hr hlocks hS dX2_lineTold_28
  have Ly6 : ∀ (n : Nat), ∀ (x7 : Int32) (locs : List Loc) (ls : Array Slot), lv_has ls 2 [(1, .int x7), (0, .ref ad_t)] → va_S no s.heap s.heap locs → fX2_lineTold_l2 tI t_sourceI t_source_bytes n x7 = some y6 → wG p l e 5 123 s m [.ref ad_t] below meth cd s.heap locs (pQ (some (.int o))) no (F0 m 2 ls []) := by
    intro n
    induction n with
    | zero =>
      intro x7 locs ls hl hS hf
      rw [fX2_lineTold_l2] at hf
      cases hf
    | succ n ih =>
      intro x7 locs ls hl hS hf
      rw [fX2_lineTold_l2] at hf
      refine lv_iload_n hx hb dX2_lineTold_2 rfl (lv_at hl 0 rfl) ?_
      refine lv_bipush (v := 8) hx hb dX2_lineTold_3 (by decide) ?_
      refine lv_icmp_ge (tgt := 27) hx hb dX2_lineTold_5 (by decide) (fun c8 => ?_) (fun c8 => ?_)
      · have hf := if_t hf c8
        have hf := Option.some.inj hf
        subst hf
        exact Ey6 _ rfl locs ls (lv_sub hl [] rfl) hS 
      · have hf := if_f hf c8
        refine lv_aload_n hx hb dX2_lineTold_8 rfl (lv_at hl 1 rfl) ?_
        refine lv_iload_n hx hb dX2_lineTold_9 rfl (lv_at hl 0 rfl) ?_
        refine kPSN (tX10_lineWord l G x7 _ rfl) ⟨hx, hb, hml, hown, hts⟩ n_mn_X2_130 q646 q94 q647 okyX10_lineWord ⟨Nat.le_of_ble_eq_true rfl, Nat.le_of_ble_eq_true rfl⟩ hP hG hS [] rfl hl.1 rfl (Nat.le_of_ble_eq_true rfl) dX2_lineTold_10 ⟨Nat.zero_le _, Nat.zero_le _⟩ (fun locs hS => ?_)
        refine W.eq (g2 := F0 m 13 ls [.ref (G.2.2.2.1 (fX10_lineWord x7)), .ref ad_t]) rfl ?_
        obtain ⟨a9, h10, hf⟩ := bn_some hf
        refine kPV (tX2_isTold l G ad_t ad_t_told ad_t_source ad_t_source_bytes tI t_sourceI t_source_bytes (fX10_lineWord x7) a9 h10) ⟨hx, hb, hml, hown, hts⟩ q656 q658 q16 q104 q659 okyX2_isTold ⟨Nat.le_of_ble_eq_true rfl, Nat.le_of_ble_eq_true rfl⟩ hP hG hS [0, 1, 2] rfl 0 rfl rfl hl.1 rfl (Nat.le_of_ble_eq_true rfl) dX2_lineTold_13 ⟨Nat.zero_le _, Nat.zero_le _⟩ (fun locs hS => ?_)
        refine W.eq (g2 := F0 m 16 ls [.int (bi a9)]) rfl ?_
        refine lv_if_eq (tgt := 21) hx hb dX2_lineTold_16 (by decide) (fun c11 => ?_) (fun c11 => ?_)
        · have hf := if_t hf c11
          refine lv_iinc (v := (x7 + (1 : Int32))) (lv' := [(1, .int (x7 + (1 : Int32))), (0, .ref ad_t)]) hx hb dX2_lineTold_21 hl (k := 0) rfl (ii_1 _) (by decide) rfl (fun ls hl => ?_)
          refine lv_goto (tgt := 2) hx hb dX2_lineTold_24 (by decide) ?_
          exact ih (x7 + (1 : Int32)) locs ls (lv_sub hl [0, 1] rfl) hS hf
        · have hf := if_f hf c11
          refine lv_iload_n hx hb dX2_lineTold_19 rfl (lv_at hl 0 rfl) ?_
          have hf := Option.some.inj hf
          subst hf
          have hf := hky6
          (try dsimp only at hf)
          have hf := Option.some.inj hf
          subst hf
          exact pRet hx hb hr hlocks hS dX2_lineTold_20
  exact Ly6 FU (0 : Int32) locs ls (lv_sub hl [0, 1] rfl) hS hLy6

def fX2_wishTold_l2 (tI : Nat → Int32) (t_sourceI : Nat → Int32) (t_source_bytes : Nat → Int32) : Nat → Int32 → Option ((Unit) ⊕ (Int32))
  | 0, _ => none
  | n + 1, x1 =>
    (if (3 : Int32) ≤ x1 then some (.inl ()) else bn (fX2_isTold tI t_sourceI t_source_bytes (fX10_wishWord x1)) fun a2 => (if (bi a2) = 0 then fX2_wishTold_l2 tI t_sourceI t_source_bytes n (x1 + (1 : Int32)) else some (.inr x1)))
def fX2_wishTold (tI : Nat → Int32) (t_sourceI : Nat → Int32) (t_source_bytes : Nat → Int32) : Option (Int32) :=
  (bn (fX2_wishTold_l2 tI t_sourceI t_source_bytes FU (0 : Int32)) fun y5 => match y5 with | .inl y5z => some (-1 : Int32) | .inr y5o => some y5o)
set_option maxRecDepth 100000 in
set_option maxHeartbeats 4000000 in
theorem tX2_wishTold (l : Launch) (G : gG) (ad_t ad_t_told ad_t_source ad_t_source_bytes : Nat) (tI : Nat → Int32) (t_sourceI : Nat → Int32) (t_source_bytes : Nat → Int32) (o : Int32) (hf : fX2_wishTold tI t_sourceI t_source_bytes = some o) : mP G l yX2_wishTold cX2_wishTold 2 (some .int) 5 123 [.ref ad_t] [(ad_t, .inr (2, [.ref ad_t_told, .int (tI 1), .int (tI 2), .ref ad_t_source, .int (tI 4), .int (tI 5), .int (tI 6), .int (tI 7)])), (ad_t_source, .inr (7, [.ref ad_t_source_bytes, .int (t_sourceI 1)])), (ad_t_source_bytes, .inl (G.2.1 1, 300, .inl t_source_bytes))] (some (.int o)) := by
  refine mP_of (by decide) (Nat.le_of_ble_eq_true rfl) ?_
  intro p e s m below meth cd ls hx hb hml hown hts hr hlocks hl hP hG
  have hK := hG.1
  have hown : s.vm.findClass RX2 = some m.cls := hown
  have hl : lv_has ls 2 [(0, .ref ad_t)] := hl
  have hS : va_S no s.heap s.heap [] := va_S.rf
  generalize ([] : List Loc) = locs at hS ⊢
  unfold fX2_wishTold at hf
  show wG p l e 5 123 s m [.ref ad_t] below meth cd s.heap locs (pQ (some (.int o))) no (F0 m 0 ls [])
  refine lv_iconst (v := 0) hx hb dX2_wishTold_0 (by decide) ?_
  refine lv_istore_n (lv' := [(1, .int (0 : Int32)), (0, .ref ad_t)]) hx hb dX2_wishTold_1 rfl hl (by decide) rfl (fun ls hl => ?_)
  obtain ⟨y6, hLy6, hky6⟩ := bn_some hf
  have Ey6 : ∀ y6z, y6 = .inl y6z → ∀  (locs : List Loc) (ls : Array Slot), lv_has ls 2 [] → va_S no s.heap s.heap locs → wG p l e 5 123 s m [.ref ad_t] below meth cd s.heap locs (pQ (some (.int o))) no (F0 m 26 ls []) := by
    intro y6z ez
    intro  locs ls hl hS
    subst ez
    have hf := hky6
    (try dsimp only at hf)
    refine lv_iconst (v := -1) hx hb dX2_wishTold_26 (by decide) ?_
    have hf := Option.some.inj hf
    subst hf
    exact pRet hx hb hr hlocks hS dX2_wishTold_27
  have Ly6 : ∀ (n : Nat), ∀ (x7 : Int32) (locs : List Loc) (ls : Array Slot), lv_has ls 2 [(1, .int x7), (0, .ref ad_t)] → va_S no s.heap s.heap locs → fX2_wishTold_l2 tI t_sourceI t_source_bytes n x7 = some y6 → wG p l e 5 123 s m [.ref ad_t] below meth cd s.heap locs (pQ (some (.int o))) no (F0 m 2 ls []) := by
    intro n
    induction n with
    | zero =>
      intro x7 locs ls hl hS hf
      rw [fX2_wishTold_l2] at hf
      cases hf
    | succ n ih =>
      intro x7 locs ls hl hS hf
      rw [fX2_wishTold_l2] at hf
      refine lv_iload_n hx hb dX2_wishTold_2 rfl (lv_at hl 0 rfl) ?_
      refine lv_iconst (v := 3) hx hb dX2_wishTold_3 (by decide) ?_
      refine lv_icmp_ge (tgt := 26) hx hb dX2_wishTold_4 (by decide) (fun c8 => ?_) (fun c8 => ?_)
      · have hf := if_t hf c8
        have hf := Option.some.inj hf
        subst hf
        exact Ey6 _ rfl locs ls (lv_sub hl [] rfl) hS 
      · have hf := if_f hf c8
        refine lv_aload_n hx hb dX2_wishTold_7 rfl (lv_at hl 1 rfl) ?_
        refine lv_iload_n hx hb dX2_wishTold_8 rfl (lv_at hl 0 rfl) ?_
        refine kPSN (tX10_wishWord l G x7 _ rfl) ⟨hx, hb, hml, hown, hts⟩ n_mn_X2_138 q717 q94 q718 okyX10_wishWord ⟨Nat.le_of_ble_eq_true rfl, Nat.le_of_ble_eq_true rfl⟩ hP hG hS [] rfl hl.1 rfl (Nat.le_of_ble_eq_true rfl) dX2_wishTold_9 ⟨Nat.zero_le _, Nat.zero_le _⟩ (fun locs hS => ?_)
        refine W.eq (g2 := F0 m 12 ls [.ref (G.2.2.2.1 (fX10_wishWord x7)), .ref ad_t]) rfl ?_
        obtain ⟨a9, h10, hf⟩ := bn_some hf
        refine kPV (tX2_isTold l G ad_t ad_t_told ad_t_source ad_t_source_bytes tI t_sourceI t_source_bytes (fX10_wishWord x7) a9 h10) ⟨hx, hb, hml, hown, hts⟩ q656 q658 q16 q104 q659 okyX2_isTold ⟨Nat.le_of_ble_eq_true rfl, Nat.le_of_ble_eq_true rfl⟩ hP hG hS [0, 1, 2] rfl 0 rfl rfl hl.1 rfl (Nat.le_of_ble_eq_true rfl) dX2_wishTold_12 ⟨Nat.zero_le _, Nat.zero_le _⟩ (fun locs hS => ?_)
        refine W.eq (g2 := F0 m 15 ls [.int (bi a9)]) rfl ?_
        refine lv_if_eq (tgt := 20) hx hb dX2_wishTold_15 (by decide) (fun c11 => ?_) (fun c11 => ?_)
        · have hf := if_t hf c11
          refine lv_iinc (v := (x7 + (1 : Int32))) (lv' := [(1, .int (x7 + (1 : Int32))), (0, .ref ad_t)]) hx hb dX2_wishTold_20 hl (k := 0) rfl (ii_1 _) (by decide) rfl (fun ls hl => ?_)
          refine lv_goto (tgt := 2) hx hb dX2_wishTold_23 (by decide) ?_
          exact ih (x7 + (1 : Int32)) locs ls (lv_sub hl [0, 1] rfl) hS hf
        · have hf := if_f hf c11
          refine lv_iload_n hx hb dX2_wishTold_18 rfl (lv_at hl 0 rfl) ?_
          have hf := Option.some.inj hf
          subst hf
          have hf := hky6
          (try dsimp only at hf)
          have hf := Option.some.inj hf
          subst hf
          exact pRet hx hb hr hlocks hS dX2_wishTold_19
  exact Ly6 FU (0 : Int32) locs ls (lv_sub hl [0, 1] rfl) hS hLy6

def fX3_offer_l8 (x2 : Int32) (x3 : Int32) (p0I : Nat → Int32) (p0_badRows : Nat → Int32) (p0_badColumns : Nat → Int32) : Nat → Int32 → (Nat → Int32) → (Nat → Int32) → Option ((Nat → Int32) × (Nat → Int32))
  | 0, _, _, _ => none
  | n + 1, x4, tI, t_left =>
    (if (p0I 4) ≤ x4 then some (tI, t_left) else gd (gi x4 12) ((if (p0_badColumns x4.toNatClampNeg) = x2 then fX3_offer_l8 x2 x3 p0I p0_badRows p0_badColumns n (x4 + (1 : Int32)) tI t_left else (if (p0_badColumns x4.toNatClampNeg) = x3 then fX3_offer_l8 x2 x3 p0I p0_badRows p0_badColumns n (x4 + (1 : Int32)) tI t_left else gd (gi x4 12) (bn (fX10_putRising t_left (tI 8) (p0_badRows x4.toNatClampNeg)) fun a6 => fX3_offer_l8 x2 x3 p0I p0_badRows p0_badColumns n (x4 + (1 : Int32)) (upd tI 8 a6.1) a6.2)))))
def fX3_offer (tI : Nat → Int32) (t_rows : Nat → Int32) (t_columns : Nat → Int32) (t_left : Nat → Int32) (p0I : Nat → Int32) (p0_numbers : Nat → Int32) (p0_badRows : Nat → Int32) (p0_badColumns : Nat → Int32) (p1 : Int32) (p2 : Int32) : Option ((Nat → Int32) × (Nat → Int32) × (Nat → Int32) × (Nat → Int32)) :=
  bn (fX3_offer_l8 p1 p2 p0I p0_badRows p0_badColumns FU (0 : Int32) (upd tI 8 (0 : Int32)) t_left) fun y8 => (if (if (p0_numbers 3) < (y8.1 8) then (0 : Int32) else (if (4 : Int32) < (y8.1 8) then (0 : Int32) else (1 : Int32))) = 0 then some ((upd y8.1 5 (if (y8.1 8) < (y8.1 5) then (y8.1 8) else (y8.1 5))), t_rows, t_columns, y8.2) else (if (y8.1 4) = 0 then gd (gc (0 : Int32) (0 : Int32) (y8.1 8) 12 4) (some ((upd (upd (upd (upd y8.1 2 (y8.1 8)) 3 ((if p1 = (-1 : Int32) then (0 : Int32) else (1 : Int32)) + (if p2 = (-1 : Int32) then (0 : Int32) else (1 : Int32)))) 4 (1 : Int32)) 5 (if (y8.1 8) < (y8.1 5) then (y8.1 8) else (y8.1 5))), (va_cpy y8.2 t_rows 0 0 (y8.1 8).toNatClampNeg), (upd (upd t_columns 0 p1) 1 p2), y8.2)) else bn (fX3_isBetter (upd y8.1 5 (if (y8.1 8) < (y8.1 5) then (y8.1 8) else (y8.1 5))) t_rows y8.2 ((if p1 = (-1 : Int32) then (0 : Int32) else (1 : Int32)) + (if p2 = (-1 : Int32) then (0 : Int32) else (1 : Int32)))) fun a12 => (if (bi a12) = 0 then some ((upd y8.1 5 (if (y8.1 8) < (y8.1 5) then (y8.1 8) else (y8.1 5))), t_rows, t_columns, y8.2) else gd (gc (0 : Int32) (0 : Int32) (y8.1 8) 12 4) (some ((upd (upd (upd (upd y8.1 2 (y8.1 8)) 3 ((if p1 = (-1 : Int32) then (0 : Int32) else (1 : Int32)) + (if p2 = (-1 : Int32) then (0 : Int32) else (1 : Int32)))) 4 (1 : Int32)) 5 (if (y8.1 8) < (y8.1 5) then (y8.1 8) else (y8.1 5))), (va_cpy y8.2 t_rows 0 0 (y8.1 8).toNatClampNeg), (upd (upd t_columns 0 p1) 1 p2), y8.2)))))
set_option maxRecDepth 100000 in
set_option maxHeartbeats 4000000 in
theorem tX3_offer (l : Launch) (G : gG) (ad_t ad_t_rows ad_t_columns ad_t_candidates ad_t_left ad_p0 ad_p0_numbers ad_p0_badRows ad_p0_badColumns ad_p0_badBits : Nat) (tI : Nat → Int32) (t_rows : Nat → Int32) (t_columns : Nat → Int32) (t_left : Nat → Int32) (p0I : Nat → Int32) (p0_numbers : Nat → Int32) (p0_badRows : Nat → Int32) (p0_badColumns : Nat → Int32) (p1 : Int32) (p2 : Int32) (o : (Nat → Int32) × (Nat → Int32) × (Nat → Int32) × (Nat → Int32)) (hf : fX3_offer tI t_rows t_columns t_left p0I p0_numbers p0_badRows p0_badColumns p1 p2 = some o) : mE G l yX3_offer cX3_offer 6 none 1 26 0 0 [.ref ad_t, .ref ad_p0, .int p1, .int p2] [(ad_t, .inr (3, [.ref ad_t_rows, .ref ad_t_columns, .int (tI 2), .int (tI 3), .int (tI 4), .int (tI 5), .ref ad_t_candidates, .ref ad_t_left, .int (tI 8)])), (ad_t_rows, .inl (G.2.1 0, 4, .inl t_rows)), (ad_t_columns, .inl (G.2.1 0, 2, .inl t_columns)), (ad_t_left, .inl (G.2.1 0, 12, .inl t_left)), (ad_p0, .inr (5, [.ref ad_p0_numbers, .ref ad_p0_badRows, .ref ad_p0_badColumns, .ref ad_p0_badBits, .int (p0I 4)])), (ad_p0_numbers, .inl (G.2.1 0, 9, .inl p0_numbers)), (ad_p0_badRows, .inl (G.2.1 0, 12, .inl p0_badRows)), (ad_p0_badColumns, .inl (G.2.1 0, 12, .inl p0_badColumns))] (fun r w => r = none ∧ w = [(ad_t, .inr (3, [.ref ad_t_rows, .ref ad_t_columns, .int (o.1 2), .int (o.1 3), .int (o.1 4), .int (o.1 5), .ref ad_t_candidates, .ref ad_t_left, .int (o.1 8)])), (ad_t_rows, .inl (G.2.1 0, 4, .inl o.2.1)), (ad_t_columns, .inl (G.2.1 0, 2, .inl o.2.2.1)), (ad_t_left, .inl (G.2.1 0, 12, .inl o.2.2.2)), (ad_p0, .inr (5, [.ref ad_p0_numbers, .ref ad_p0_badRows, .ref ad_p0_badColumns, .ref ad_p0_badBits, .int (p0I 4)])), (ad_p0_numbers, .inl (G.2.1 0, 9, .inl p0_numbers)), (ad_p0_badRows, .inl (G.2.1 0, 12, .inl p0_badRows)), (ad_p0_badColumns, .inl (G.2.1 0, 12, .inl p0_badColumns))]) := by
  refine mE_of (by decide) (Nat.le_of_ble_eq_true rfl) ?_
  intro p e s m below meth cd ls A hx hb hml hown hts hr hlocks hnm hl hA hP hD hS hG
  have hK := hG.1
  have hown : s.vm.findClass RX3 = some m.cls := hown
  have hl : lv_has ls 6 [(0, .ref ad_t), (1, .ref ad_p0), (2, .int p1), (3, .int p2)] := hl
  have hS := hS
  unfold fX3_offer at hf
  obtain ⟨H, locs, eH, eL⟩ : ∃ (H : Heap) (locs : List Loc), H = s.heap ∧ locs = [] := ⟨_, _, rfl, rfl⟩
  have hP : va_P G.1 vwCl [(ad_t, .inr (3, [.ref ad_t_rows, .ref ad_t_columns, .int (tI 2), .int (tI 3), .int (tI 4), .int (tI 5), .ref ad_t_candidates, .ref ad_t_left, .int (tI 8)])), (ad_t_rows, .inl (G.2.1 0, 4, .inl t_rows)), (ad_t_columns, .inl (G.2.1 0, 2, .inl t_columns)), (ad_t_left, .inl (G.2.1 0, 12, .inl t_left)), (ad_p0, .inr (5, [.ref ad_p0_numbers, .ref ad_p0_badRows, .ref ad_p0_badColumns, .ref ad_p0_badBits, .int (p0I 4)])), (ad_p0_numbers, .inl (G.2.1 0, 9, .inl p0_numbers)), (ad_p0_badRows, .inl (G.2.1 0, 12, .inl p0_badRows)), (ad_p0_badColumns, .inl (G.2.1 0, 12, .inl p0_badColumns))] H := eH ▸ hP
  have hS : va_S A s.heap H locs := by rw [eH, eL]; exact hS
  suffices hgo : wG p l e 1 26 s m [.ref ad_t, .ref ad_p0, .int p1, .int p2] below meth cd H locs (eQ G A (fun r w => r = none ∧ w = [(ad_t, .inr (3, [.ref ad_t_rows, .ref ad_t_columns, .int (o.1 2), .int (o.1 3), .int (o.1 4), .int (o.1 5), .ref ad_t_candidates, .ref ad_t_left, .int (o.1 8)])), (ad_t_rows, .inl (G.2.1 0, 4, .inl o.2.1)), (ad_t_columns, .inl (G.2.1 0, 2, .inl o.2.2.1)), (ad_t_left, .inl (G.2.1 0, 12, .inl o.2.2.2)), (ad_p0, .inr (5, [.ref ad_p0_numbers, .ref ad_p0_badRows, .ref ad_p0_badColumns, .ref ad_p0_badBits, .int (p0I 4)])), (ad_p0_numbers, .inl (G.2.1 0, 9, .inl p0_numbers)), (ad_p0_badRows, .inl (G.2.1 0, 12, .inl p0_badRows)), (ad_p0_badColumns, .inl (G.2.1 0, 12, .inl p0_badColumns))])) A (F0 m 0 ls []) by rw [eH, eL] at hgo; exact hgo
  clear eH eL
  refine lv_aload_n hx hb dX3_offer_0 rfl (lv_at hl 0 rfl) ?_
  refine lv_iconst (v := 0) hx hb dX3_offer_1 (by decide) ?_
  refine va_put (D := G.1) (cl := vwCl) (ci := 3) (v := .int (0 : Int32)) (ty := .int) (C := RX3) (T := TX3) (N := 9) hx hb hts inG3 tyX3 tyX3_ok nmX3 hown hK hP hD hS 0 rfl rfl 8 (Nat.le_of_ble_eq_true rfl) (hts _ q299) (fun _ h9 => h9) rfl (tyX3_ok 8 (Nat.le_of_ble_eq_true rfl)) rfl rfl (Nat.le_of_ble_eq_true rfl) dX3_offer_2 (fun H locs hP hD hS => ?_)
  have hP : va_P G.1 vwCl [(ad_t, .inr (3, [.ref ad_t_rows, .ref ad_t_columns, .int (tI 2), .int (tI 3), .int (tI 4), .int (tI 5), .ref ad_t_candidates, .ref ad_t_left, .int (0 : Int32)])), (ad_t_rows, .inl (G.2.1 0, 4, .inl t_rows)), (ad_t_columns, .inl (G.2.1 0, 2, .inl t_columns)), (ad_t_left, .inl (G.2.1 0, 12, .inl t_left)), (ad_p0, .inr (5, [.ref ad_p0_numbers, .ref ad_p0_badRows, .ref ad_p0_badColumns, .ref ad_p0_badBits, .int (p0I 4)])), (ad_p0_numbers, .inl (G.2.1 0, 9, .inl p0_numbers)), (ad_p0_badRows, .inl (G.2.1 0, 12, .inl p0_badRows)), (ad_p0_badColumns, .inl (G.2.1 0, 12, .inl p0_badColumns))] H := hP
  have hD : va_D A [(ad_t, .inr (3, [.ref ad_t_rows, .ref ad_t_columns, .int (tI 2), .int (tI 3), .int (tI 4), .int (tI 5), .ref ad_t_candidates, .ref ad_t_left, .int (0 : Int32)])), (ad_t_rows, .inl (G.2.1 0, 4, .inl t_rows)), (ad_t_columns, .inl (G.2.1 0, 2, .inl t_columns)), (ad_t_left, .inl (G.2.1 0, 12, .inl t_left)), (ad_p0, .inr (5, [.ref ad_p0_numbers, .ref ad_p0_badRows, .ref ad_p0_badColumns, .ref ad_p0_badBits, .int (p0I 4)])), (ad_p0_numbers, .inl (G.2.1 0, 9, .inl p0_numbers)), (ad_p0_badRows, .inl (G.2.1 0, 12, .inl p0_badRows)), (ad_p0_badColumns, .inl (G.2.1 0, 12, .inl p0_badColumns))] := hD
  refine lv_iconst (v := 0) hx hb dX3_offer_5 (by decide) ?_
  refine lv_istore (lv' := [(4, .int (0 : Int32)), (0, .ref ad_t), (1, .ref ad_p0), (2, .int p1), (3, .int p2)]) hx hb dX3_offer_6 hl (by decide) rfl (fun ls hl => ?_)
  obtain ⟨y23, hLy23, hky23⟩ := bn_some hf
  have Ey23 : ∀  (H : Heap) (locs : List Loc) (ls : Array Slot), lv_has ls 6 [(0, .ref ad_t), (1, .ref ad_p0), (2, .int p1), (3, .int p2)] → va_P G.1 vwCl [(ad_t, .inr (3, [.ref ad_t_rows, .ref ad_t_columns, .int (y23.1 2), .int (y23.1 3), .int (y23.1 4), .int (y23.1 5), .ref ad_t_candidates, .ref ad_t_left, .int (y23.1 8)])), (ad_t_rows, .inl (G.2.1 0, 4, .inl t_rows)), (ad_t_columns, .inl (G.2.1 0, 2, .inl t_columns)), (ad_t_left, .inl (G.2.1 0, 12, .inl y23.2)), (ad_p0, .inr (5, [.ref ad_p0_numbers, .ref ad_p0_badRows, .ref ad_p0_badColumns, .ref ad_p0_badBits, .int (p0I 4)])), (ad_p0_numbers, .inl (G.2.1 0, 9, .inl p0_numbers)), (ad_p0_badRows, .inl (G.2.1 0, 12, .inl p0_badRows)), (ad_p0_badColumns, .inl (G.2.1 0, 12, .inl p0_badColumns))] H → va_D A [(ad_t, .inr (3, [.ref ad_t_rows, .ref ad_t_columns, .int (y23.1 2), .int (y23.1 3), .int (y23.1 4), .int (y23.1 5), .ref ad_t_candidates, .ref ad_t_left, .int (y23.1 8)])), (ad_t_rows, .inl (G.2.1 0, 4, .inl t_rows)), (ad_t_columns, .inl (G.2.1 0, 2, .inl t_columns)), (ad_t_left, .inl (G.2.1 0, 12, .inl y23.2)), (ad_p0, .inr (5, [.ref ad_p0_numbers, .ref ad_p0_badRows, .ref ad_p0_badColumns, .ref ad_p0_badBits, .int (p0I 4)])), (ad_p0_numbers, .inl (G.2.1 0, 9, .inl p0_numbers)), (ad_p0_badRows, .inl (G.2.1 0, 12, .inl p0_badRows)), (ad_p0_badColumns, .inl (G.2.1 0, 12, .inl p0_badColumns))] → va_S A s.heap H locs → wG p l e 1 26 s m [.ref ad_t, .ref ad_p0, .int p1, .int p2] below meth cd H locs (eQ G A (fun r w => r = none ∧ w = [(ad_t, .inr (3, [.ref ad_t_rows, .ref ad_t_columns, .int (o.1 2), .int (o.1 3), .int (o.1 4), .int (o.1 5), .ref ad_t_candidates, .ref ad_t_left, .int (o.1 8)])), (ad_t_rows, .inl (G.2.1 0, 4, .inl o.2.1)), (ad_t_columns, .inl (G.2.1 0, 2, .inl o.2.2.1)), (ad_t_left, .inl (G.2.1 0, 12, .inl o.2.2.2)), (ad_p0, .inr (5, [.ref ad_p0_numbers, .ref ad_p0_badRows, .ref ad_p0_badColumns, .ref ad_p0_badBits, .int (p0I 4)])), (ad_p0_numbers, .inl (G.2.1 0, 9, .inl p0_numbers)), (ad_p0_badRows, .inl (G.2.1 0, 12, .inl p0_badRows)), (ad_p0_badColumns, .inl (G.2.1 0, 12, .inl p0_badColumns))])) A (F0 m 66 ls []) := by
    intro  H locs ls hl hP hD hS
    have hf := hky23
    refine lv_aload_n hx hb dX3_offer_66 rfl (lv_at hl 0 rfl) ?_
    refine lv_aload_n hx hb dX3_offer_67 rfl (lv_at hl 0 rfl) ?_
    refine va_get (D := G.1) (cl := vwCl) (ci := 3) (v := .int (y23.1 5)) (C := RX3) (T := TX3) (N := 9) hx hb hts inG3 hown hK hP 0 rfl rfl 5 (Nat.le_of_ble_eq_true rfl) (hts _ q295) (fun _ h9 => h9) rfl dX3_offer_68 ?_
    refine lv_aload_n hx hb dX3_offer_71 rfl (lv_at hl 0 rfl) ?_
    refine va_get (D := G.1) (cl := vwCl) (ci := 3) (v := .int (y23.1 8)) (C := RX3) (T := TX3) (N := 9) hx hb hts inG3 hown hK hP 0 rfl rfl 8 (Nat.le_of_ble_eq_true rfl) (hts _ q299) (fun _ h9 => h9) rfl dX3_offer_72 ?_
    refine va_mmin hx hb (hml.trans hl.1.symm) hown (hts _ q552) (hts _ q553) (hts _ q107) (hts _ q554) (Nat.le_of_ble_eq_true rfl) (Nat.le_of_ble_eq_true rfl) (Nat.zero_le _) (Nat.zero_le _) dX3_offer_75 ?_
    refine W.eq (g2 := F0 m 78 ls [.int (if (y23.1 8) < (y23.1 5) then (y23.1 8) else (y23.1 5)), .ref ad_t]) rfl ?_
    refine va_put (D := G.1) (cl := vwCl) (ci := 3) (v := .int (if (y23.1 8) < (y23.1 5) then (y23.1 8) else (y23.1 5))) (ty := .int) (C := RX3) (T := TX3) (N := 9) hx hb hts inG3 tyX3 tyX3_ok nmX3 hown hK hP hD hS 0 rfl rfl 5 (Nat.le_of_ble_eq_true rfl) (hts _ q295) (fun _ h9 => h9) rfl (tyX3_ok 5 (Nat.le_of_ble_eq_true rfl)) rfl rfl (Nat.le_of_ble_eq_true rfl) dX3_offer_78 (fun H locs hP hD hS => ?_)
    have hP : va_P G.1 vwCl [(ad_t, .inr (3, [.ref ad_t_rows, .ref ad_t_columns, .int (y23.1 2), .int (y23.1 3), .int (y23.1 4), .int (if (y23.1 8) < (y23.1 5) then (y23.1 8) else (y23.1 5)), .ref ad_t_candidates, .ref ad_t_left, .int (y23.1 8)])), (ad_t_rows, .inl (G.2.1 0, 4, .inl t_rows)), (ad_t_columns, .inl (G.2.1 0, 2, .inl t_columns)), (ad_t_left, .inl (G.2.1 0, 12, .inl y23.2)), (ad_p0, .inr (5, [.ref ad_p0_numbers, .ref ad_p0_badRows, .ref ad_p0_badColumns, .ref ad_p0_badBits, .int (p0I 4)])), (ad_p0_numbers, .inl (G.2.1 0, 9, .inl p0_numbers)), (ad_p0_badRows, .inl (G.2.1 0, 12, .inl p0_badRows)), (ad_p0_badColumns, .inl (G.2.1 0, 12, .inl p0_badColumns))] H := hP
    have hD : va_D A [(ad_t, .inr (3, [.ref ad_t_rows, .ref ad_t_columns, .int (y23.1 2), .int (y23.1 3), .int (y23.1 4), .int (if (y23.1 8) < (y23.1 5) then (y23.1 8) else (y23.1 5)), .ref ad_t_candidates, .ref ad_t_left, .int (y23.1 8)])), (ad_t_rows, .inl (G.2.1 0, 4, .inl t_rows)), (ad_t_columns, .inl (G.2.1 0, 2, .inl t_columns)), (ad_t_left, .inl (G.2.1 0, 12, .inl y23.2)), (ad_p0, .inr (5, [.ref ad_p0_numbers, .ref ad_p0_badRows, .ref ad_p0_badColumns, .ref ad_p0_badBits, .int (p0I 4)])), (ad_p0_numbers, .inl (G.2.1 0, 9, .inl p0_numbers)), (ad_p0_badRows, .inl (G.2.1 0, 12, .inl p0_badRows)), (ad_p0_badColumns, .inl (G.2.1 0, 12, .inl p0_badColumns))] := hD
    refine lv_iload_n hx hb dX3_offer_81 rfl (lv_at hl 2 rfl) ?_
    refine lv_iconst (v := -1) hx hb dX3_offer_82 (by decide) ?_
    have J36 : wG p l e 1 26 s m [.ref ad_t, .ref ad_p0, .int p1, .int p2] below meth cd H locs (eQ G A (fun r w => r = none ∧ w = [(ad_t, .inr (3, [.ref ad_t_rows, .ref ad_t_columns, .int (o.1 2), .int (o.1 3), .int (o.1 4), .int (o.1 5), .ref ad_t_candidates, .ref ad_t_left, .int (o.1 8)])), (ad_t_rows, .inl (G.2.1 0, 4, .inl o.2.1)), (ad_t_columns, .inl (G.2.1 0, 2, .inl o.2.2.1)), (ad_t_left, .inl (G.2.1 0, 12, .inl o.2.2.2)), (ad_p0, .inr (5, [.ref ad_p0_numbers, .ref ad_p0_badRows, .ref ad_p0_badColumns, .ref ad_p0_badBits, .int (p0I 4)])), (ad_p0_numbers, .inl (G.2.1 0, 9, .inl p0_numbers)), (ad_p0_badRows, .inl (G.2.1 0, 12, .inl p0_badRows)), (ad_p0_badColumns, .inl (G.2.1 0, 12, .inl p0_badColumns))])) A (F0 m 91 ls [.int (if p1 = (-1 : Int32) then (0 : Int32) else (1 : Int32))]) := by
      refine lv_iload_n hx hb dX3_offer_91 rfl (lv_at hl 3 rfl) ?_
      refine lv_iconst (v := -1) hx hb dX3_offer_92 (by decide) ?_
      have J34 : wG p l e 1 26 s m [.ref ad_t, .ref ad_p0, .int p1, .int p2] below meth cd H locs (eQ G A (fun r w => r = none ∧ w = [(ad_t, .inr (3, [.ref ad_t_rows, .ref ad_t_columns, .int (o.1 2), .int (o.1 3), .int (o.1 4), .int (o.1 5), .ref ad_t_candidates, .ref ad_t_left, .int (o.1 8)])), (ad_t_rows, .inl (G.2.1 0, 4, .inl o.2.1)), (ad_t_columns, .inl (G.2.1 0, 2, .inl o.2.2.1)), (ad_t_left, .inl (G.2.1 0, 12, .inl o.2.2.2)), (ad_p0, .inr (5, [.ref ad_p0_numbers, .ref ad_p0_badRows, .ref ad_p0_badColumns, .ref ad_p0_badBits, .int (p0I 4)])), (ad_p0_numbers, .inl (G.2.1 0, 9, .inl p0_numbers)), (ad_p0_badRows, .inl (G.2.1 0, 12, .inl p0_badRows)), (ad_p0_badColumns, .inl (G.2.1 0, 12, .inl p0_badColumns))])) A (F0 m 101 ls [.int (if p2 = (-1 : Int32) then (0 : Int32) else (1 : Int32)), .int (if p1 = (-1 : Int32) then (0 : Int32) else (1 : Int32))]) := by
        refine lv_iadd hx hb dX3_offer_101 ?_
        refine lv_istore (lv' := [(4, .int ((if p1 = (-1 : Int32) then (0 : Int32) else (1 : Int32)) + (if p2 = (-1 : Int32) then (0 : Int32) else (1 : Int32)))), (0, .ref ad_t), (1, .ref ad_p0), (2, .int p1), (3, .int p2)]) hx hb dX3_offer_102 hl (by decide) rfl (fun ls hl => ?_)
        refine lv_aload_n hx hb dX3_offer_104 rfl (lv_at hl 1 rfl) ?_
        refine va_get (D := G.1) (cl := vwCl) (ci := 3) (v := .int (y23.1 8)) (C := RX3) (T := TX3) (N := 9) hx hb hts inG3 hown hK hP 0 rfl rfl 8 (Nat.le_of_ble_eq_true rfl) (hts _ q299) (fun _ h9 => h9) rfl dX3_offer_105 ?_
        refine lv_aload_n hx hb dX3_offer_108 rfl (lv_at hl 2 rfl) ?_
        refine va_get (D := G.1) (cl := vwCl) (ci := 5) (v := .ref ad_p0_numbers) (C := RX5) (T := TX5) (N := 5) hx hb hts inG5 hown hK hP 4 rfl rfl 0 (Nat.le_of_ble_eq_true rfl) (hts _ q151) (fun _ h9 => h9) rfl dX3_offer_109 ?_
        refine lv_iconst (v := 3) hx hb dX3_offer_112 (by decide) ?_
        refine va_iald (D := G.1) (cl := vwCl) hx hb hK hP 5 0 rfl rfl (vin (by decide)) dX3_offer_113 ?_
        refine lv_ti (v := (p0_numbers 3)) (congrArg (p0_numbers) (tn 3)) ?_
        have J31 : wG p l e 1 26 s m [.ref ad_t, .ref ad_p0, .int p1, .int p2] below meth cd H locs (eQ G A (fun r w => r = none ∧ w = [(ad_t, .inr (3, [.ref ad_t_rows, .ref ad_t_columns, .int (o.1 2), .int (o.1 3), .int (o.1 4), .int (o.1 5), .ref ad_t_candidates, .ref ad_t_left, .int (o.1 8)])), (ad_t_rows, .inl (G.2.1 0, 4, .inl o.2.1)), (ad_t_columns, .inl (G.2.1 0, 2, .inl o.2.2.1)), (ad_t_left, .inl (G.2.1 0, 12, .inl o.2.2.2)), (ad_p0, .inr (5, [.ref ad_p0_numbers, .ref ad_p0_badRows, .ref ad_p0_badColumns, .ref ad_p0_badBits, .int (p0I 4)])), (ad_p0_numbers, .inl (G.2.1 0, 9, .inl p0_numbers)), (ad_p0_badRows, .inl (G.2.1 0, 12, .inl p0_badRows)), (ad_p0_badColumns, .inl (G.2.1 0, 12, .inl p0_badColumns))])) A (F0 m 130 ls [.int (if (p0_numbers 3) < (y23.1 8) then (0 : Int32) else (if (4 : Int32) < (y23.1 8) then (0 : Int32) else (1 : Int32)))]) := by
          refine lv_istore (lv' := [(5, .int (if (p0_numbers 3) < (y23.1 8) then (0 : Int32) else (if (4 : Int32) < (y23.1 8) then (0 : Int32) else (1 : Int32)))), (4, .int ((if p1 = (-1 : Int32) then (0 : Int32) else (1 : Int32)) + (if p2 = (-1 : Int32) then (0 : Int32) else (1 : Int32)))), (0, .ref ad_t), (1, .ref ad_p0), (2, .int p1), (3, .int p2)]) hx hb dX3_offer_130 hl (by decide) rfl (fun ls hl => ?_)
          refine lv_iload hx hb dX3_offer_132 (lv_at hl 0 rfl) ?_
          refine lv_if_eq (tgt := 203) hx hb dX3_offer_134 (by decide) (fun c24 => ?_) (fun c24 => ?_)
          · have hf := if_t hf c24
            have hf := Option.some.inj hf
            subst hf
            exact eRetV hx hb hr hlocks hP hD hS ⟨rfl, rfl⟩ dX3_offer_203
          · have hf := if_f hf c24
            refine lv_aload_n hx hb dX3_offer_137 rfl (lv_at hl 2 rfl) ?_
            refine va_get (D := G.1) (cl := vwCl) (ci := 3) (v := .int (y23.1 4)) (C := RX3) (T := TX3) (N := 9) hx hb hts inG3 hown hK hP 0 rfl rfl 4 (Nat.le_of_ble_eq_true rfl) (hts _ q292) (fun _ h9 => h9) rfl dX3_offer_138 ?_
            refine lv_if_eq (tgt := 153) hx hb dX3_offer_141 (by decide) (fun c25 => ?_) (fun c25 => ?_)
            · have hf := if_t hf c25
              refine lv_aload_n hx hb dX3_offer_153 rfl (lv_at hl 2 rfl) ?_
              refine lv_iconst (v := 1) hx hb dX3_offer_154 (by decide) ?_
              refine va_put (D := G.1) (cl := vwCl) (ci := 3) (v := .int (1 : Int32)) (ty := .boolean) (C := RX3) (T := TX3) (N := 9) hx hb hts inG3 tyX3 tyX3_ok nmX3 hown hK hP hD hS 0 rfl rfl 4 (Nat.le_of_ble_eq_true rfl) (hts _ q292) (fun _ h9 => h9) rfl (tyX3_ok 4 (Nat.le_of_ble_eq_true rfl)) rfl rfl (Nat.le_of_ble_eq_true rfl) dX3_offer_155 (fun H locs hP hD hS => ?_)
              have hP : va_P G.1 vwCl [(ad_t, .inr (3, [.ref ad_t_rows, .ref ad_t_columns, .int (y23.1 2), .int (y23.1 3), .int (1 : Int32), .int (if (y23.1 8) < (y23.1 5) then (y23.1 8) else (y23.1 5)), .ref ad_t_candidates, .ref ad_t_left, .int (y23.1 8)])), (ad_t_rows, .inl (G.2.1 0, 4, .inl t_rows)), (ad_t_columns, .inl (G.2.1 0, 2, .inl t_columns)), (ad_t_left, .inl (G.2.1 0, 12, .inl y23.2)), (ad_p0, .inr (5, [.ref ad_p0_numbers, .ref ad_p0_badRows, .ref ad_p0_badColumns, .ref ad_p0_badBits, .int (p0I 4)])), (ad_p0_numbers, .inl (G.2.1 0, 9, .inl p0_numbers)), (ad_p0_badRows, .inl (G.2.1 0, 12, .inl p0_badRows)), (ad_p0_badColumns, .inl (G.2.1 0, 12, .inl p0_badColumns))] H := hP
              have hD : va_D A [(ad_t, .inr (3, [.ref ad_t_rows, .ref ad_t_columns, .int (y23.1 2), .int (y23.1 3), .int (1 : Int32), .int (if (y23.1 8) < (y23.1 5) then (y23.1 8) else (y23.1 5)), .ref ad_t_candidates, .ref ad_t_left, .int (y23.1 8)])), (ad_t_rows, .inl (G.2.1 0, 4, .inl t_rows)), (ad_t_columns, .inl (G.2.1 0, 2, .inl t_columns)), (ad_t_left, .inl (G.2.1 0, 12, .inl y23.2)), (ad_p0, .inr (5, [.ref ad_p0_numbers, .ref ad_p0_badRows, .ref ad_p0_badColumns, .ref ad_p0_badBits, .int (p0I 4)])), (ad_p0_numbers, .inl (G.2.1 0, 9, .inl p0_numbers)), (ad_p0_badRows, .inl (G.2.1 0, 12, .inl p0_badRows)), (ad_p0_badColumns, .inl (G.2.1 0, 12, .inl p0_badColumns))] := hD
              refine lv_aload_n hx hb dX3_offer_158 rfl (lv_at hl 2 rfl) ?_
              refine lv_aload_n hx hb dX3_offer_159 rfl (lv_at hl 2 rfl) ?_
              refine va_get (D := G.1) (cl := vwCl) (ci := 3) (v := .int (y23.1 8)) (C := RX3) (T := TX3) (N := 9) hx hb hts inG3 hown hK hP 0 rfl rfl 8 (Nat.le_of_ble_eq_true rfl) (hts _ q299) (fun _ h9 => h9) rfl dX3_offer_160 ?_
              refine va_put (D := G.1) (cl := vwCl) (ci := 3) (v := .int (y23.1 8)) (ty := .int) (C := RX3) (T := TX3) (N := 9) hx hb hts inG3 tyX3 tyX3_ok nmX3 hown hK hP hD hS 0 rfl rfl 2 (Nat.le_of_ble_eq_true rfl) (hts _ q284) (fun _ h9 => h9) rfl (tyX3_ok 2 (Nat.le_of_ble_eq_true rfl)) rfl rfl (Nat.le_of_ble_eq_true rfl) dX3_offer_163 (fun H locs hP hD hS => ?_)
              have hP : va_P G.1 vwCl [(ad_t, .inr (3, [.ref ad_t_rows, .ref ad_t_columns, .int (y23.1 8), .int (y23.1 3), .int (1 : Int32), .int (if (y23.1 8) < (y23.1 5) then (y23.1 8) else (y23.1 5)), .ref ad_t_candidates, .ref ad_t_left, .int (y23.1 8)])), (ad_t_rows, .inl (G.2.1 0, 4, .inl t_rows)), (ad_t_columns, .inl (G.2.1 0, 2, .inl t_columns)), (ad_t_left, .inl (G.2.1 0, 12, .inl y23.2)), (ad_p0, .inr (5, [.ref ad_p0_numbers, .ref ad_p0_badRows, .ref ad_p0_badColumns, .ref ad_p0_badBits, .int (p0I 4)])), (ad_p0_numbers, .inl (G.2.1 0, 9, .inl p0_numbers)), (ad_p0_badRows, .inl (G.2.1 0, 12, .inl p0_badRows)), (ad_p0_badColumns, .inl (G.2.1 0, 12, .inl p0_badColumns))] H := hP
              have hD : va_D A [(ad_t, .inr (3, [.ref ad_t_rows, .ref ad_t_columns, .int (y23.1 8), .int (y23.1 3), .int (1 : Int32), .int (if (y23.1 8) < (y23.1 5) then (y23.1 8) else (y23.1 5)), .ref ad_t_candidates, .ref ad_t_left, .int (y23.1 8)])), (ad_t_rows, .inl (G.2.1 0, 4, .inl t_rows)), (ad_t_columns, .inl (G.2.1 0, 2, .inl t_columns)), (ad_t_left, .inl (G.2.1 0, 12, .inl y23.2)), (ad_p0, .inr (5, [.ref ad_p0_numbers, .ref ad_p0_badRows, .ref ad_p0_badColumns, .ref ad_p0_badBits, .int (p0I 4)])), (ad_p0_numbers, .inl (G.2.1 0, 9, .inl p0_numbers)), (ad_p0_badRows, .inl (G.2.1 0, 12, .inl p0_badRows)), (ad_p0_badColumns, .inl (G.2.1 0, 12, .inl p0_badColumns))] := hD
              refine lv_aload_n hx hb dX3_offer_166 rfl (lv_at hl 2 rfl) ?_
              refine va_get (D := G.1) (cl := vwCl) (ci := 3) (v := .ref ad_t_left) (C := RX3) (T := TX3) (N := 9) hx hb hts inG3 hown hK hP 0 rfl rfl 7 (Nat.le_of_ble_eq_true rfl) (hts _ q298) (fun _ h9 => h9) rfl dX3_offer_167 ?_
              refine lv_iconst (v := 0) hx hb dX3_offer_170 (by decide) ?_
              refine lv_aload_n hx hb dX3_offer_171 rfl (lv_at hl 2 rfl) ?_
              refine va_get (D := G.1) (cl := vwCl) (ci := 3) (v := .ref ad_t_rows) (C := RX3) (T := TX3) (N := 9) hx hb hts inG3 hown hK hP 0 rfl rfl 0 (Nat.le_of_ble_eq_true rfl) (hts _ q278) (fun _ h9 => h9) rfl dX3_offer_172 ?_
              refine lv_iconst (v := 0) hx hb dX3_offer_175 (by decide) ?_
              refine lv_aload_n hx hb dX3_offer_176 rfl (lv_at hl 2 rfl) ?_
              refine va_get (D := G.1) (cl := vwCl) (ci := 3) (v := .int (y23.1 8)) (C := RX3) (T := TX3) (N := 9) hx hb hts inG3 hown hK hP 0 rfl rfl 8 (Nat.le_of_ble_eq_true rfl) (hts _ q299) (fun _ h9 => h9) rfl dX3_offer_177 ?_
              obtain ⟨h26, hf⟩ := gd_some hf
              refine va_copyi (D := G.1) (cl := vwCl) hx hb (hml.trans hl.1.symm) hown (hts _ q559) (hts _ q148) (hts _ q147) (hts _ q98) hK hP hD hS 3 1 0 0 rfl rfl rfl rfl rfl (gc_ok h26).1 (gc_ok h26).2.1 (gc_ok h26).2.2.1 (gc_ok h26).2.2.2.1 (gc_ok h26).2.2.2.2 (fun _ _ => rfl) (Nat.le_of_ble_eq_true rfl) (by decide) dX3_offer_180 (fun H locs hP hD hS => ?_)
              have hP : va_P G.1 vwCl [(ad_t, .inr (3, [.ref ad_t_rows, .ref ad_t_columns, .int (y23.1 8), .int (y23.1 3), .int (1 : Int32), .int (if (y23.1 8) < (y23.1 5) then (y23.1 8) else (y23.1 5)), .ref ad_t_candidates, .ref ad_t_left, .int (y23.1 8)])), (ad_t_rows, .inl (G.2.1 0, 4, .inl (va_cpy y23.2 t_rows 0 0 (y23.1 8).toNatClampNeg))), (ad_t_columns, .inl (G.2.1 0, 2, .inl t_columns)), (ad_t_left, .inl (G.2.1 0, 12, .inl y23.2)), (ad_p0, .inr (5, [.ref ad_p0_numbers, .ref ad_p0_badRows, .ref ad_p0_badColumns, .ref ad_p0_badBits, .int (p0I 4)])), (ad_p0_numbers, .inl (G.2.1 0, 9, .inl p0_numbers)), (ad_p0_badRows, .inl (G.2.1 0, 12, .inl p0_badRows)), (ad_p0_badColumns, .inl (G.2.1 0, 12, .inl p0_badColumns))] H := hP
              have hD : va_D A [(ad_t, .inr (3, [.ref ad_t_rows, .ref ad_t_columns, .int (y23.1 8), .int (y23.1 3), .int (1 : Int32), .int (if (y23.1 8) < (y23.1 5) then (y23.1 8) else (y23.1 5)), .ref ad_t_candidates, .ref ad_t_left, .int (y23.1 8)])), (ad_t_rows, .inl (G.2.1 0, 4, .inl (va_cpy y23.2 t_rows 0 0 (y23.1 8).toNatClampNeg))), (ad_t_columns, .inl (G.2.1 0, 2, .inl t_columns)), (ad_t_left, .inl (G.2.1 0, 12, .inl y23.2)), (ad_p0, .inr (5, [.ref ad_p0_numbers, .ref ad_p0_badRows, .ref ad_p0_badColumns, .ref ad_p0_badBits, .int (p0I 4)])), (ad_p0_numbers, .inl (G.2.1 0, 9, .inl p0_numbers)), (ad_p0_badRows, .inl (G.2.1 0, 12, .inl p0_badRows)), (ad_p0_badColumns, .inl (G.2.1 0, 12, .inl p0_badColumns))] := hD
              refine W.eq (g2 := F0 m 183 ls []) rfl ?_
              refine lv_aload_n hx hb dX3_offer_183 rfl (lv_at hl 2 rfl) ?_
              refine lv_iload hx hb dX3_offer_184 (lv_at hl 1 rfl) ?_
              refine va_put (D := G.1) (cl := vwCl) (ci := 3) (v := .int ((if p1 = (-1 : Int32) then (0 : Int32) else (1 : Int32)) + (if p2 = (-1 : Int32) then (0 : Int32) else (1 : Int32)))) (ty := .int) (C := RX3) (T := TX3) (N := 9) hx hb hts inG3 tyX3 tyX3_ok nmX3 hown hK hP hD hS 0 rfl rfl 3 (Nat.le_of_ble_eq_true rfl) (hts _ q288) (fun _ h9 => h9) rfl (tyX3_ok 3 (Nat.le_of_ble_eq_true rfl)) rfl rfl (Nat.le_of_ble_eq_true rfl) dX3_offer_186 (fun H locs hP hD hS => ?_)
              have hP : va_P G.1 vwCl [(ad_t, .inr (3, [.ref ad_t_rows, .ref ad_t_columns, .int (y23.1 8), .int ((if p1 = (-1 : Int32) then (0 : Int32) else (1 : Int32)) + (if p2 = (-1 : Int32) then (0 : Int32) else (1 : Int32))), .int (1 : Int32), .int (if (y23.1 8) < (y23.1 5) then (y23.1 8) else (y23.1 5)), .ref ad_t_candidates, .ref ad_t_left, .int (y23.1 8)])), (ad_t_rows, .inl (G.2.1 0, 4, .inl (va_cpy y23.2 t_rows 0 0 (y23.1 8).toNatClampNeg))), (ad_t_columns, .inl (G.2.1 0, 2, .inl t_columns)), (ad_t_left, .inl (G.2.1 0, 12, .inl y23.2)), (ad_p0, .inr (5, [.ref ad_p0_numbers, .ref ad_p0_badRows, .ref ad_p0_badColumns, .ref ad_p0_badBits, .int (p0I 4)])), (ad_p0_numbers, .inl (G.2.1 0, 9, .inl p0_numbers)), (ad_p0_badRows, .inl (G.2.1 0, 12, .inl p0_badRows)), (ad_p0_badColumns, .inl (G.2.1 0, 12, .inl p0_badColumns))] H := hP
              have hD : va_D A [(ad_t, .inr (3, [.ref ad_t_rows, .ref ad_t_columns, .int (y23.1 8), .int ((if p1 = (-1 : Int32) then (0 : Int32) else (1 : Int32)) + (if p2 = (-1 : Int32) then (0 : Int32) else (1 : Int32))), .int (1 : Int32), .int (if (y23.1 8) < (y23.1 5) then (y23.1 8) else (y23.1 5)), .ref ad_t_candidates, .ref ad_t_left, .int (y23.1 8)])), (ad_t_rows, .inl (G.2.1 0, 4, .inl (va_cpy y23.2 t_rows 0 0 (y23.1 8).toNatClampNeg))), (ad_t_columns, .inl (G.2.1 0, 2, .inl t_columns)), (ad_t_left, .inl (G.2.1 0, 12, .inl y23.2)), (ad_p0, .inr (5, [.ref ad_p0_numbers, .ref ad_p0_badRows, .ref ad_p0_badColumns, .ref ad_p0_badBits, .int (p0I 4)])), (ad_p0_numbers, .inl (G.2.1 0, 9, .inl p0_numbers)), (ad_p0_badRows, .inl (G.2.1 0, 12, .inl p0_badRows)), (ad_p0_badColumns, .inl (G.2.1 0, 12, .inl p0_badColumns))] := hD
              refine lv_aload_n hx hb dX3_offer_189 rfl (lv_at hl 2 rfl) ?_
              refine va_get (D := G.1) (cl := vwCl) (ci := 3) (v := .ref ad_t_columns) (C := RX3) (T := TX3) (N := 9) hx hb hts inG3 hown hK hP 0 rfl rfl 1 (Nat.le_of_ble_eq_true rfl) (hts _ q281) (fun _ h9 => h9) rfl dX3_offer_190 ?_
              refine lv_iconst (v := 0) hx hb dX3_offer_193 (by decide) ?_
              refine lv_iload_n hx hb dX3_offer_194 rfl (lv_at hl 4 rfl) ?_
              refine va_iast (D := G.1) (cl := vwCl) hx hb hK hP hD hS 2 0 rfl rfl (vin (by decide)) dX3_offer_195 (fun H locs hP hD hS => ?_)
              have hP : va_P G.1 vwCl [(ad_t, .inr (3, [.ref ad_t_rows, .ref ad_t_columns, .int (y23.1 8), .int ((if p1 = (-1 : Int32) then (0 : Int32) else (1 : Int32)) + (if p2 = (-1 : Int32) then (0 : Int32) else (1 : Int32))), .int (1 : Int32), .int (if (y23.1 8) < (y23.1 5) then (y23.1 8) else (y23.1 5)), .ref ad_t_candidates, .ref ad_t_left, .int (y23.1 8)])), (ad_t_rows, .inl (G.2.1 0, 4, .inl (va_cpy y23.2 t_rows 0 0 (y23.1 8).toNatClampNeg))), (ad_t_columns, .inl (G.2.1 0, 2, .inl (upd t_columns 0 p1))), (ad_t_left, .inl (G.2.1 0, 12, .inl y23.2)), (ad_p0, .inr (5, [.ref ad_p0_numbers, .ref ad_p0_badRows, .ref ad_p0_badColumns, .ref ad_p0_badBits, .int (p0I 4)])), (ad_p0_numbers, .inl (G.2.1 0, 9, .inl p0_numbers)), (ad_p0_badRows, .inl (G.2.1 0, 12, .inl p0_badRows)), (ad_p0_badColumns, .inl (G.2.1 0, 12, .inl p0_badColumns))] H := hP
              have hD : va_D A [(ad_t, .inr (3, [.ref ad_t_rows, .ref ad_t_columns, .int (y23.1 8), .int ((if p1 = (-1 : Int32) then (0 : Int32) else (1 : Int32)) + (if p2 = (-1 : Int32) then (0 : Int32) else (1 : Int32))), .int (1 : Int32), .int (if (y23.1 8) < (y23.1 5) then (y23.1 8) else (y23.1 5)), .ref ad_t_candidates, .ref ad_t_left, .int (y23.1 8)])), (ad_t_rows, .inl (G.2.1 0, 4, .inl (va_cpy y23.2 t_rows 0 0 (y23.1 8).toNatClampNeg))), (ad_t_columns, .inl (G.2.1 0, 2, .inl (upd t_columns 0 p1))), (ad_t_left, .inl (G.2.1 0, 12, .inl y23.2)), (ad_p0, .inr (5, [.ref ad_p0_numbers, .ref ad_p0_badRows, .ref ad_p0_badColumns, .ref ad_p0_badBits, .int (p0I 4)])), (ad_p0_numbers, .inl (G.2.1 0, 9, .inl p0_numbers)), (ad_p0_badRows, .inl (G.2.1 0, 12, .inl p0_badRows)), (ad_p0_badColumns, .inl (G.2.1 0, 12, .inl p0_badColumns))] := hD
              refine lv_aload_n hx hb dX3_offer_196 rfl (lv_at hl 2 rfl) ?_
              refine va_get (D := G.1) (cl := vwCl) (ci := 3) (v := .ref ad_t_columns) (C := RX3) (T := TX3) (N := 9) hx hb hts inG3 hown hK hP 0 rfl rfl 1 (Nat.le_of_ble_eq_true rfl) (hts _ q281) (fun _ h9 => h9) rfl dX3_offer_197 ?_
              refine lv_iconst (v := 1) hx hb dX3_offer_200 (by decide) ?_
              refine lv_iload_n hx hb dX3_offer_201 rfl (lv_at hl 5 rfl) ?_
              refine va_iast (D := G.1) (cl := vwCl) hx hb hK hP hD hS 2 0 rfl rfl (vin (by decide)) dX3_offer_202 (fun H locs hP hD hS => ?_)
              have hP : va_P G.1 vwCl [(ad_t, .inr (3, [.ref ad_t_rows, .ref ad_t_columns, .int (y23.1 8), .int ((if p1 = (-1 : Int32) then (0 : Int32) else (1 : Int32)) + (if p2 = (-1 : Int32) then (0 : Int32) else (1 : Int32))), .int (1 : Int32), .int (if (y23.1 8) < (y23.1 5) then (y23.1 8) else (y23.1 5)), .ref ad_t_candidates, .ref ad_t_left, .int (y23.1 8)])), (ad_t_rows, .inl (G.2.1 0, 4, .inl (va_cpy y23.2 t_rows 0 0 (y23.1 8).toNatClampNeg))), (ad_t_columns, .inl (G.2.1 0, 2, .inl (upd (upd t_columns 0 p1) 1 p2))), (ad_t_left, .inl (G.2.1 0, 12, .inl y23.2)), (ad_p0, .inr (5, [.ref ad_p0_numbers, .ref ad_p0_badRows, .ref ad_p0_badColumns, .ref ad_p0_badBits, .int (p0I 4)])), (ad_p0_numbers, .inl (G.2.1 0, 9, .inl p0_numbers)), (ad_p0_badRows, .inl (G.2.1 0, 12, .inl p0_badRows)), (ad_p0_badColumns, .inl (G.2.1 0, 12, .inl p0_badColumns))] H := hP
              have hD : va_D A [(ad_t, .inr (3, [.ref ad_t_rows, .ref ad_t_columns, .int (y23.1 8), .int ((if p1 = (-1 : Int32) then (0 : Int32) else (1 : Int32)) + (if p2 = (-1 : Int32) then (0 : Int32) else (1 : Int32))), .int (1 : Int32), .int (if (y23.1 8) < (y23.1 5) then (y23.1 8) else (y23.1 5)), .ref ad_t_candidates, .ref ad_t_left, .int (y23.1 8)])), (ad_t_rows, .inl (G.2.1 0, 4, .inl (va_cpy y23.2 t_rows 0 0 (y23.1 8).toNatClampNeg))), (ad_t_columns, .inl (G.2.1 0, 2, .inl (upd (upd t_columns 0 p1) 1 p2))), (ad_t_left, .inl (G.2.1 0, 12, .inl y23.2)), (ad_p0, .inr (5, [.ref ad_p0_numbers, .ref ad_p0_badRows, .ref ad_p0_badColumns, .ref ad_p0_badBits, .int (p0I 4)])), (ad_p0_numbers, .inl (G.2.1 0, 9, .inl p0_numbers)), (ad_p0_badRows, .inl (G.2.1 0, 12, .inl p0_badRows)), (ad_p0_badColumns, .inl (G.2.1 0, 12, .inl p0_badColumns))] := hD
              have hf := Option.some.inj hf
              subst hf
              exact eRetV hx hb hr hlocks hP hD hS ⟨rfl, rfl⟩ dX3_offer_203
            · have hf := if_f hf c25
              refine lv_aload_n hx hb dX3_offer_144 rfl (lv_at hl 2 rfl) ?_
              refine lv_iload hx hb dX3_offer_145 (lv_at hl 1 rfl) ?_
              obtain ⟨a27, h28, hf⟩ := bn_some hf
              refine kPV (tX3_isBetter l G ad_t ad_t_rows ad_t_columns ad_t_candidates ad_t_left (upd y23.1 5 (if (y23.1 8) < (y23.1 5) then (y23.1 8) else (y23.1 5))) t_rows y23.2 ((if p1 = (-1 : Int32) then (0 : Int32) else (1 : Int32)) + (if p2 = (-1 : Int32) then (0 : Int32) else (1 : Int32))) a27 h28) ⟨hx, hb, hml, hown, hts⟩ q555 q557 q9 q102 q558 okyX3_isBetter ⟨Nat.le_of_ble_eq_true rfl, Nat.le_of_ble_eq_true rfl⟩ hP hG hS [0, 1, 3] rfl 0 rfl rfl hl.1 rfl (Nat.le_of_ble_eq_true rfl) dX3_offer_147 ⟨Nat.zero_le _, Nat.zero_le _⟩ (fun locs hS => ?_)
              refine W.eq (g2 := F0 m 150 ls [.int (bi a27)]) rfl ?_
              refine lv_if_eq (tgt := 203) hx hb dX3_offer_150 (by decide) (fun c29 => ?_) (fun c29 => ?_)
              · have hf := if_t hf c29
                have hf := Option.some.inj hf
                subst hf
                exact eRetV hx hb hr hlocks hP hD hS ⟨rfl, rfl⟩ dX3_offer_203
              · have hf := if_f hf c29
                refine lv_aload_n hx hb dX3_offer_153 rfl (lv_at hl 2 rfl) ?_
                refine lv_iconst (v := 1) hx hb dX3_offer_154 (by decide) ?_
                refine va_put (D := G.1) (cl := vwCl) (ci := 3) (v := .int (1 : Int32)) (ty := .boolean) (C := RX3) (T := TX3) (N := 9) hx hb hts inG3 tyX3 tyX3_ok nmX3 hown hK hP hD hS 0 rfl rfl 4 (Nat.le_of_ble_eq_true rfl) (hts _ q292) (fun _ h9 => h9) rfl (tyX3_ok 4 (Nat.le_of_ble_eq_true rfl)) rfl rfl (Nat.le_of_ble_eq_true rfl) dX3_offer_155 (fun H locs hP hD hS => ?_)
                have hP : va_P G.1 vwCl [(ad_t, .inr (3, [.ref ad_t_rows, .ref ad_t_columns, .int (y23.1 2), .int (y23.1 3), .int (1 : Int32), .int (if (y23.1 8) < (y23.1 5) then (y23.1 8) else (y23.1 5)), .ref ad_t_candidates, .ref ad_t_left, .int (y23.1 8)])), (ad_t_rows, .inl (G.2.1 0, 4, .inl t_rows)), (ad_t_columns, .inl (G.2.1 0, 2, .inl t_columns)), (ad_t_left, .inl (G.2.1 0, 12, .inl y23.2)), (ad_p0, .inr (5, [.ref ad_p0_numbers, .ref ad_p0_badRows, .ref ad_p0_badColumns, .ref ad_p0_badBits, .int (p0I 4)])), (ad_p0_numbers, .inl (G.2.1 0, 9, .inl p0_numbers)), (ad_p0_badRows, .inl (G.2.1 0, 12, .inl p0_badRows)), (ad_p0_badColumns, .inl (G.2.1 0, 12, .inl p0_badColumns))] H := hP
                have hD : va_D A [(ad_t, .inr (3, [.ref ad_t_rows, .ref ad_t_columns, .int (y23.1 2), .int (y23.1 3), .int (1 : Int32), .int (if (y23.1 8) < (y23.1 5) then (y23.1 8) else (y23.1 5)), .ref ad_t_candidates, .ref ad_t_left, .int (y23.1 8)])), (ad_t_rows, .inl (G.2.1 0, 4, .inl t_rows)), (ad_t_columns, .inl (G.2.1 0, 2, .inl t_columns)), (ad_t_left, .inl (G.2.1 0, 12, .inl y23.2)), (ad_p0, .inr (5, [.ref ad_p0_numbers, .ref ad_p0_badRows, .ref ad_p0_badColumns, .ref ad_p0_badBits, .int (p0I 4)])), (ad_p0_numbers, .inl (G.2.1 0, 9, .inl p0_numbers)), (ad_p0_badRows, .inl (G.2.1 0, 12, .inl p0_badRows)), (ad_p0_badColumns, .inl (G.2.1 0, 12, .inl p0_badColumns))] := hD
                refine lv_aload_n hx hb dX3_offer_158 rfl (lv_at hl 2 rfl) ?_
                refine lv_aload_n hx hb dX3_offer_159 rfl (lv_at hl 2 rfl) ?_
                refine va_get (D := G.1) (cl := vwCl) (ci := 3) (v := .int (y23.1 8)) (C := RX3) (T := TX3) (N := 9) hx hb hts inG3 hown hK hP 0 rfl rfl 8 (Nat.le_of_ble_eq_true rfl) (hts _ q299) (fun _ h9 => h9) rfl dX3_offer_160 ?_
                refine va_put (D := G.1) (cl := vwCl) (ci := 3) (v := .int (y23.1 8)) (ty := .int) (C := RX3) (T := TX3) (N := 9) hx hb hts inG3 tyX3 tyX3_ok nmX3 hown hK hP hD hS 0 rfl rfl 2 (Nat.le_of_ble_eq_true rfl) (hts _ q284) (fun _ h9 => h9) rfl (tyX3_ok 2 (Nat.le_of_ble_eq_true rfl)) rfl rfl (Nat.le_of_ble_eq_true rfl) dX3_offer_163 (fun H locs hP hD hS => ?_)
                have hP : va_P G.1 vwCl [(ad_t, .inr (3, [.ref ad_t_rows, .ref ad_t_columns, .int (y23.1 8), .int (y23.1 3), .int (1 : Int32), .int (if (y23.1 8) < (y23.1 5) then (y23.1 8) else (y23.1 5)), .ref ad_t_candidates, .ref ad_t_left, .int (y23.1 8)])), (ad_t_rows, .inl (G.2.1 0, 4, .inl t_rows)), (ad_t_columns, .inl (G.2.1 0, 2, .inl t_columns)), (ad_t_left, .inl (G.2.1 0, 12, .inl y23.2)), (ad_p0, .inr (5, [.ref ad_p0_numbers, .ref ad_p0_badRows, .ref ad_p0_badColumns, .ref ad_p0_badBits, .int (p0I 4)])), (ad_p0_numbers, .inl (G.2.1 0, 9, .inl p0_numbers)), (ad_p0_badRows, .inl (G.2.1 0, 12, .inl p0_badRows)), (ad_p0_badColumns, .inl (G.2.1 0, 12, .inl p0_badColumns))] H := hP
                have hD : va_D A [(ad_t, .inr (3, [.ref ad_t_rows, .ref ad_t_columns, .int (y23.1 8), .int (y23.1 3), .int (1 : Int32), .int (if (y23.1 8) < (y23.1 5) then (y23.1 8) else (y23.1 5)), .ref ad_t_candidates, .ref ad_t_left, .int (y23.1 8)])), (ad_t_rows, .inl (G.2.1 0, 4, .inl t_rows)), (ad_t_columns, .inl (G.2.1 0, 2, .inl t_columns)), (ad_t_left, .inl (G.2.1 0, 12, .inl y23.2)), (ad_p0, .inr (5, [.ref ad_p0_numbers, .ref ad_p0_badRows, .ref ad_p0_badColumns, .ref ad_p0_badBits, .int (p0I 4)])), (ad_p0_numbers, .inl (G.2.1 0, 9, .inl p0_numbers)), (ad_p0_badRows, .inl (G.2.1 0, 12, .inl p0_badRows)), (ad_p0_badColumns, .inl (G.2.1 0, 12, .inl p0_badColumns))] := hD
                refine lv_aload_n hx hb dX3_offer_166 rfl (lv_at hl 2 rfl) ?_
                refine va_get (D := G.1) (cl := vwCl) (ci := 3) (v := .ref ad_t_left) (C := RX3) (T := TX3) (N := 9) hx hb hts inG3 hown hK hP 0 rfl rfl 7 (Nat.le_of_ble_eq_true rfl) (hts _ q298) (fun _ h9 => h9) rfl dX3_offer_167 ?_
                refine lv_iconst (v := 0) hx hb dX3_offer_170 (by decide) ?_
                refine lv_aload_n hx hb dX3_offer_171 rfl (lv_at hl 2 rfl) ?_
                refine va_get (D := G.1) (cl := vwCl) (ci := 3) (v := .ref ad_t_rows) (C := RX3) (T := TX3) (N := 9) hx hb hts inG3 hown hK hP 0 rfl rfl 0 (Nat.le_of_ble_eq_true rfl) (hts _ q278) (fun _ h9 => h9) rfl dX3_offer_172 ?_
                refine lv_iconst (v := 0) hx hb dX3_offer_175 (by decide) ?_
                refine lv_aload_n hx hb dX3_offer_176 rfl (lv_at hl 2 rfl) ?_
                refine va_get (D := G.1) (cl := vwCl) (ci := 3) (v := .int (y23.1 8)) (C := RX3) (T := TX3) (N := 9) hx hb hts inG3 hown hK hP 0 rfl rfl 8 (Nat.le_of_ble_eq_true rfl) (hts _ q299) (fun _ h9 => h9) rfl dX3_offer_177 ?_
                obtain ⟨h30, hf⟩ := gd_some hf
                refine va_copyi (D := G.1) (cl := vwCl) hx hb (hml.trans hl.1.symm) hown (hts _ q559) (hts _ q148) (hts _ q147) (hts _ q98) hK hP hD hS 3 1 0 0 rfl rfl rfl rfl rfl (gc_ok h30).1 (gc_ok h30).2.1 (gc_ok h30).2.2.1 (gc_ok h30).2.2.2.1 (gc_ok h30).2.2.2.2 (fun _ _ => rfl) (Nat.le_of_ble_eq_true rfl) (by decide) dX3_offer_180 (fun H locs hP hD hS => ?_)
                have hP : va_P G.1 vwCl [(ad_t, .inr (3, [.ref ad_t_rows, .ref ad_t_columns, .int (y23.1 8), .int (y23.1 3), .int (1 : Int32), .int (if (y23.1 8) < (y23.1 5) then (y23.1 8) else (y23.1 5)), .ref ad_t_candidates, .ref ad_t_left, .int (y23.1 8)])), (ad_t_rows, .inl (G.2.1 0, 4, .inl (va_cpy y23.2 t_rows 0 0 (y23.1 8).toNatClampNeg))), (ad_t_columns, .inl (G.2.1 0, 2, .inl t_columns)), (ad_t_left, .inl (G.2.1 0, 12, .inl y23.2)), (ad_p0, .inr (5, [.ref ad_p0_numbers, .ref ad_p0_badRows, .ref ad_p0_badColumns, .ref ad_p0_badBits, .int (p0I 4)])), (ad_p0_numbers, .inl (G.2.1 0, 9, .inl p0_numbers)), (ad_p0_badRows, .inl (G.2.1 0, 12, .inl p0_badRows)), (ad_p0_badColumns, .inl (G.2.1 0, 12, .inl p0_badColumns))] H := hP
                have hD : va_D A [(ad_t, .inr (3, [.ref ad_t_rows, .ref ad_t_columns, .int (y23.1 8), .int (y23.1 3), .int (1 : Int32), .int (if (y23.1 8) < (y23.1 5) then (y23.1 8) else (y23.1 5)), .ref ad_t_candidates, .ref ad_t_left, .int (y23.1 8)])), (ad_t_rows, .inl (G.2.1 0, 4, .inl (va_cpy y23.2 t_rows 0 0 (y23.1 8).toNatClampNeg))), (ad_t_columns, .inl (G.2.1 0, 2, .inl t_columns)), (ad_t_left, .inl (G.2.1 0, 12, .inl y23.2)), (ad_p0, .inr (5, [.ref ad_p0_numbers, .ref ad_p0_badRows, .ref ad_p0_badColumns, .ref ad_p0_badBits, .int (p0I 4)])), (ad_p0_numbers, .inl (G.2.1 0, 9, .inl p0_numbers)), (ad_p0_badRows, .inl (G.2.1 0, 12, .inl p0_badRows)), (ad_p0_badColumns, .inl (G.2.1 0, 12, .inl p0_badColumns))] := hD
                refine W.eq (g2 := F0 m 183 ls []) rfl ?_
                refine lv_aload_n hx hb dX3_offer_183 rfl (lv_at hl 2 rfl) ?_
                refine lv_iload hx hb dX3_offer_184 (lv_at hl 1 rfl) ?_
                refine va_put (D := G.1) (cl := vwCl) (ci := 3) (v := .int ((if p1 = (-1 : Int32) then (0 : Int32) else (1 : Int32)) + (if p2 = (-1 : Int32) then (0 : Int32) else (1 : Int32)))) (ty := .int) (C := RX3) (T := TX3) (N := 9) hx hb hts inG3 tyX3 tyX3_ok nmX3 hown hK hP hD hS 0 rfl rfl 3 (Nat.le_of_ble_eq_true rfl) (hts _ q288) (fun _ h9 => h9) rfl (tyX3_ok 3 (Nat.le_of_ble_eq_true rfl)) rfl rfl (Nat.le_of_ble_eq_true rfl) dX3_offer_186 (fun H locs hP hD hS => ?_)
                have hP : va_P G.1 vwCl [(ad_t, .inr (3, [.ref ad_t_rows, .ref ad_t_columns, .int (y23.1 8), .int ((if p1 = (-1 : Int32) then (0 : Int32) else (1 : Int32)) + (if p2 = (-1 : Int32) then (0 : Int32) else (1 : Int32))), .int (1 : Int32), .int (if (y23.1 8) < (y23.1 5) then (y23.1 8) else (y23.1 5)), .ref ad_t_candidates, .ref ad_t_left, .int (y23.1 8)])), (ad_t_rows, .inl (G.2.1 0, 4, .inl (va_cpy y23.2 t_rows 0 0 (y23.1 8).toNatClampNeg))), (ad_t_columns, .inl (G.2.1 0, 2, .inl t_columns)), (ad_t_left, .inl (G.2.1 0, 12, .inl y23.2)), (ad_p0, .inr (5, [.ref ad_p0_numbers, .ref ad_p0_badRows, .ref ad_p0_badColumns, .ref ad_p0_badBits, .int (p0I 4)])), (ad_p0_numbers, .inl (G.2.1 0, 9, .inl p0_numbers)), (ad_p0_badRows, .inl (G.2.1 0, 12, .inl p0_badRows)), (ad_p0_badColumns, .inl (G.2.1 0, 12, .inl p0_badColumns))] H := hP
                have hD : va_D A [(ad_t, .inr (3, [.ref ad_t_rows, .ref ad_t_columns, .int (y23.1 8), .int ((if p1 = (-1 : Int32) then (0 : Int32) else (1 : Int32)) + (if p2 = (-1 : Int32) then (0 : Int32) else (1 : Int32))), .int (1 : Int32), .int (if (y23.1 8) < (y23.1 5) then (y23.1 8) else (y23.1 5)), .ref ad_t_candidates, .ref ad_t_left, .int (y23.1 8)])), (ad_t_rows, .inl (G.2.1 0, 4, .inl (va_cpy y23.2 t_rows 0 0 (y23.1 8).toNatClampNeg))), (ad_t_columns, .inl (G.2.1 0, 2, .inl t_columns)), (ad_t_left, .inl (G.2.1 0, 12, .inl y23.2)), (ad_p0, .inr (5, [.ref ad_p0_numbers, .ref ad_p0_badRows, .ref ad_p0_badColumns, .ref ad_p0_badBits, .int (p0I 4)])), (ad_p0_numbers, .inl (G.2.1 0, 9, .inl p0_numbers)), (ad_p0_badRows, .inl (G.2.1 0, 12, .inl p0_badRows)), (ad_p0_badColumns, .inl (G.2.1 0, 12, .inl p0_badColumns))] := hD
                refine lv_aload_n hx hb dX3_offer_189 rfl (lv_at hl 2 rfl) ?_
                refine va_get (D := G.1) (cl := vwCl) (ci := 3) (v := .ref ad_t_columns) (C := RX3) (T := TX3) (N := 9) hx hb hts inG3 hown hK hP 0 rfl rfl 1 (Nat.le_of_ble_eq_true rfl) (hts _ q281) (fun _ h9 => h9) rfl dX3_offer_190 ?_
                refine lv_iconst (v := 0) hx hb dX3_offer_193 (by decide) ?_
                refine lv_iload_n hx hb dX3_offer_194 rfl (lv_at hl 4 rfl) ?_
                refine va_iast (D := G.1) (cl := vwCl) hx hb hK hP hD hS 2 0 rfl rfl (vin (by decide)) dX3_offer_195 (fun H locs hP hD hS => ?_)
                have hP : va_P G.1 vwCl [(ad_t, .inr (3, [.ref ad_t_rows, .ref ad_t_columns, .int (y23.1 8), .int ((if p1 = (-1 : Int32) then (0 : Int32) else (1 : Int32)) + (if p2 = (-1 : Int32) then (0 : Int32) else (1 : Int32))), .int (1 : Int32), .int (if (y23.1 8) < (y23.1 5) then (y23.1 8) else (y23.1 5)), .ref ad_t_candidates, .ref ad_t_left, .int (y23.1 8)])), (ad_t_rows, .inl (G.2.1 0, 4, .inl (va_cpy y23.2 t_rows 0 0 (y23.1 8).toNatClampNeg))), (ad_t_columns, .inl (G.2.1 0, 2, .inl (upd t_columns 0 p1))), (ad_t_left, .inl (G.2.1 0, 12, .inl y23.2)), (ad_p0, .inr (5, [.ref ad_p0_numbers, .ref ad_p0_badRows, .ref ad_p0_badColumns, .ref ad_p0_badBits, .int (p0I 4)])), (ad_p0_numbers, .inl (G.2.1 0, 9, .inl p0_numbers)), (ad_p0_badRows, .inl (G.2.1 0, 12, .inl p0_badRows)), (ad_p0_badColumns, .inl (G.2.1 0, 12, .inl p0_badColumns))] H := hP
                have hD : va_D A [(ad_t, .inr (3, [.ref ad_t_rows, .ref ad_t_columns, .int (y23.1 8), .int ((if p1 = (-1 : Int32) then (0 : Int32) else (1 : Int32)) + (if p2 = (-1 : Int32) then (0 : Int32) else (1 : Int32))), .int (1 : Int32), .int (if (y23.1 8) < (y23.1 5) then (y23.1 8) else (y23.1 5)), .ref ad_t_candidates, .ref ad_t_left, .int (y23.1 8)])), (ad_t_rows, .inl (G.2.1 0, 4, .inl (va_cpy y23.2 t_rows 0 0 (y23.1 8).toNatClampNeg))), (ad_t_columns, .inl (G.2.1 0, 2, .inl (upd t_columns 0 p1))), (ad_t_left, .inl (G.2.1 0, 12, .inl y23.2)), (ad_p0, .inr (5, [.ref ad_p0_numbers, .ref ad_p0_badRows, .ref ad_p0_badColumns, .ref ad_p0_badBits, .int (p0I 4)])), (ad_p0_numbers, .inl (G.2.1 0, 9, .inl p0_numbers)), (ad_p0_badRows, .inl (G.2.1 0, 12, .inl p0_badRows)), (ad_p0_badColumns, .inl (G.2.1 0, 12, .inl p0_badColumns))] := hD
                refine lv_aload_n hx hb dX3_offer_196 rfl (lv_at hl 2 rfl) ?_
                refine va_get (D := G.1) (cl := vwCl) (ci := 3) (v := .ref ad_t_columns) (C := RX3) (T := TX3) (N := 9) hx hb hts inG3 hown hK hP 0 rfl rfl 1 (Nat.le_of_ble_eq_true rfl) (hts _ q281) (fun _ h9 => h9) rfl dX3_offer_197 ?_
                refine lv_iconst (v := 1) hx hb dX3_offer_200 (by decide) ?_
                refine lv_iload_n hx hb dX3_offer_201 rfl (lv_at hl 5 rfl) ?_
                refine va_iast (D := G.1) (cl := vwCl) hx hb hK hP hD hS 2 0 rfl rfl (vin (by decide)) dX3_offer_202 (fun H locs hP hD hS => ?_)
                have hP : va_P G.1 vwCl [(ad_t, .inr (3, [.ref ad_t_rows, .ref ad_t_columns, .int (y23.1 8), .int ((if p1 = (-1 : Int32) then (0 : Int32) else (1 : Int32)) + (if p2 = (-1 : Int32) then (0 : Int32) else (1 : Int32))), .int (1 : Int32), .int (if (y23.1 8) < (y23.1 5) then (y23.1 8) else (y23.1 5)), .ref ad_t_candidates, .ref ad_t_left, .int (y23.1 8)])), (ad_t_rows, .inl (G.2.1 0, 4, .inl (va_cpy y23.2 t_rows 0 0 (y23.1 8).toNatClampNeg))), (ad_t_columns, .inl (G.2.1 0, 2, .inl (upd (upd t_columns 0 p1) 1 p2))), (ad_t_left, .inl (G.2.1 0, 12, .inl y23.2)), (ad_p0, .inr (5, [.ref ad_p0_numbers, .ref ad_p0_badRows, .ref ad_p0_badColumns, .ref ad_p0_badBits, .int (p0I 4)])), (ad_p0_numbers, .inl (G.2.1 0, 9, .inl p0_numbers)), (ad_p0_badRows, .inl (G.2.1 0, 12, .inl p0_badRows)), (ad_p0_badColumns, .inl (G.2.1 0, 12, .inl p0_badColumns))] H := hP
                have hD : va_D A [(ad_t, .inr (3, [.ref ad_t_rows, .ref ad_t_columns, .int (y23.1 8), .int ((if p1 = (-1 : Int32) then (0 : Int32) else (1 : Int32)) + (if p2 = (-1 : Int32) then (0 : Int32) else (1 : Int32))), .int (1 : Int32), .int (if (y23.1 8) < (y23.1 5) then (y23.1 8) else (y23.1 5)), .ref ad_t_candidates, .ref ad_t_left, .int (y23.1 8)])), (ad_t_rows, .inl (G.2.1 0, 4, .inl (va_cpy y23.2 t_rows 0 0 (y23.1 8).toNatClampNeg))), (ad_t_columns, .inl (G.2.1 0, 2, .inl (upd (upd t_columns 0 p1) 1 p2))), (ad_t_left, .inl (G.2.1 0, 12, .inl y23.2)), (ad_p0, .inr (5, [.ref ad_p0_numbers, .ref ad_p0_badRows, .ref ad_p0_badColumns, .ref ad_p0_badBits, .int (p0I 4)])), (ad_p0_numbers, .inl (G.2.1 0, 9, .inl p0_numbers)), (ad_p0_badRows, .inl (G.2.1 0, 12, .inl p0_badRows)), (ad_p0_badColumns, .inl (G.2.1 0, 12, .inl p0_badColumns))] := hD
                have hf := Option.some.inj hf
                subst hf
                exact eRetV hx hb hr hlocks hP hD hS ⟨rfl, rfl⟩ dX3_offer_203
        refine lv_icmp_gt (tgt := 129) hx hb dX3_offer_114 (by decide) (fun c32 => ?_) (fun c32 => ?_)
        · refine lv_iconst (v := 0) hx hb dX3_offer_129 (by decide) ?_
          exact (mgT c32 J31)
        · refine lv_aload_n hx hb dX3_offer_117 rfl (lv_at hl 1 rfl) ?_
          refine va_get (D := G.1) (cl := vwCl) (ci := 3) (v := .int (y23.1 8)) (C := RX3) (T := TX3) (N := 9) hx hb hts inG3 hown hK hP 0 rfl rfl 8 (Nat.le_of_ble_eq_true rfl) (hts _ q299) (fun _ h9 => h9) rfl dX3_offer_118 ?_
          refine lv_iconst (v := 4) hx hb dX3_offer_121 (by decide) ?_
          refine lv_icmp_gt (tgt := 129) hx hb dX3_offer_122 (by decide) (fun c33 => ?_) (fun c33 => ?_)
          · refine lv_iconst (v := 0) hx hb dX3_offer_129 (by decide) ?_
            exact (mgT c33 (mgF c32 J31))
          · refine lv_iconst (v := 1) hx hb dX3_offer_125 (by decide) ?_
            refine lv_goto (tgt := 130) hx hb dX3_offer_126 (by decide) ?_
            exact (mgF c33 (mgF c32 J31))
      refine lv_icmp_ne (tgt := 100) hx hb dX3_offer_93 (by decide) (fun c35 => ?_) (fun c35 => ?_)
      · refine lv_iconst (v := 1) hx hb dX3_offer_100 (by decide) ?_
        exact (mgF c35 J34)
      · refine lv_iconst (v := 0) hx hb dX3_offer_96 (by decide) ?_
        refine lv_goto (tgt := 101) hx hb dX3_offer_97 (by decide) ?_
        exact (mgT c35 J34)
    refine lv_icmp_ne (tgt := 90) hx hb dX3_offer_83 (by decide) (fun c37 => ?_) (fun c37 => ?_)
    · refine lv_iconst (v := 1) hx hb dX3_offer_90 (by decide) ?_
      exact (mgF c37 J36)
    · refine lv_iconst (v := 0) hx hb dX3_offer_86 (by decide) ?_
      refine lv_goto (tgt := 91) hx hb dX3_offer_87 (by decide) ?_
      exact (mgT c37 J36)
  have Ly23 : ∀ (n : Nat), ∀ (x38 : Int32) (g39 : Nat → Int32) (g40 : Nat → Int32) (H : Heap) (locs : List Loc) (ls : Array Slot), lv_has ls 6 [(4, .int x38), (0, .ref ad_t), (1, .ref ad_p0), (2, .int p1), (3, .int p2)] → va_P G.1 vwCl [(ad_t, .inr (3, [.ref ad_t_rows, .ref ad_t_columns, .int (g39 2), .int (g39 3), .int (g39 4), .int (g39 5), .ref ad_t_candidates, .ref ad_t_left, .int (g39 8)])), (ad_t_rows, .inl (G.2.1 0, 4, .inl t_rows)), (ad_t_columns, .inl (G.2.1 0, 2, .inl t_columns)), (ad_t_left, .inl (G.2.1 0, 12, .inl g40)), (ad_p0, .inr (5, [.ref ad_p0_numbers, .ref ad_p0_badRows, .ref ad_p0_badColumns, .ref ad_p0_badBits, .int (p0I 4)])), (ad_p0_numbers, .inl (G.2.1 0, 9, .inl p0_numbers)), (ad_p0_badRows, .inl (G.2.1 0, 12, .inl p0_badRows)), (ad_p0_badColumns, .inl (G.2.1 0, 12, .inl p0_badColumns))] H → va_D A [(ad_t, .inr (3, [.ref ad_t_rows, .ref ad_t_columns, .int (g39 2), .int (g39 3), .int (g39 4), .int (g39 5), .ref ad_t_candidates, .ref ad_t_left, .int (g39 8)])), (ad_t_rows, .inl (G.2.1 0, 4, .inl t_rows)), (ad_t_columns, .inl (G.2.1 0, 2, .inl t_columns)), (ad_t_left, .inl (G.2.1 0, 12, .inl g40)), (ad_p0, .inr (5, [.ref ad_p0_numbers, .ref ad_p0_badRows, .ref ad_p0_badColumns, .ref ad_p0_badBits, .int (p0I 4)])), (ad_p0_numbers, .inl (G.2.1 0, 9, .inl p0_numbers)), (ad_p0_badRows, .inl (G.2.1 0, 12, .inl p0_badRows)), (ad_p0_badColumns, .inl (G.2.1 0, 12, .inl p0_badColumns))] → va_S A s.heap H locs → fX3_offer_l8 p1 p2 p0I p0_badRows p0_badColumns n x38 g39 g40 = some y23 → wG p l e 1 26 s m [.ref ad_t, .ref ad_p0, .int p1, .int p2] below meth cd H locs (eQ G A (fun r w => r = none ∧ w = [(ad_t, .inr (3, [.ref ad_t_rows, .ref ad_t_columns, .int (o.1 2), .int (o.1 3), .int (o.1 4), .int (o.1 5), .ref ad_t_candidates, .ref ad_t_left, .int (o.1 8)])), (ad_t_rows, .inl (G.2.1 0, 4, .inl o.2.1)), (ad_t_columns, .inl (G.2.1 0, 2, .inl o.2.2.1)), (ad_t_left, .inl (G.2.1 0, 12, .inl o.2.2.2)), (ad_p0, .inr (5, [.ref ad_p0_numbers, .ref ad_p0_badRows, .ref ad_p0_badColumns, .ref ad_p0_badBits, .int (p0I 4)])), (ad_p0_numbers, .inl (G.2.1 0, 9, .inl p0_numbers)), (ad_p0_badRows, .inl (G.2.1 0, 12, .inl p0_badRows)), (ad_p0_badColumns, .inl (G.2.1 0, 12, .inl p0_badColumns))])) A (F0 m 8 ls []) := by
    intro n
    induction n with
    | zero =>
      intro x38 g39 g40 H locs ls hl hP hD hS hf
      rw [fX3_offer_l8] at hf
      cases hf
    | succ n ih =>
      intro x38 g39 g40 H locs ls hl hP hD hS hf
      rw [fX3_offer_l8] at hf
      refine lv_iload hx hb dX3_offer_8 (lv_at hl 0 rfl) ?_
      refine lv_aload_n hx hb dX3_offer_10 rfl (lv_at hl 2 rfl) ?_
      refine va_get (D := G.1) (cl := vwCl) (ci := 5) (v := .int (p0I 4)) (C := RX5) (T := TX5) (N := 5) hx hb hts inG5 hown hK hP 4 rfl rfl 4 (Nat.le_of_ble_eq_true rfl) (hts _ q170) (fun _ h9 => h9) rfl dX3_offer_11 ?_
      refine lv_icmp_ge (tgt := 66) hx hb dX3_offer_14 (by decide) (fun c41 => ?_) (fun c41 => ?_)
      · have hf := if_t hf c41
        have hf := Option.some.inj hf
        subst hf
        exact Ey23  H locs ls (lv_sub hl [1, 2, 3, 4] rfl) hP hD hS 
      · have hf := if_f hf c41
        refine lv_aload_n hx hb dX3_offer_17 rfl (lv_at hl 2 rfl) ?_
        refine va_get (D := G.1) (cl := vwCl) (ci := 5) (v := .ref ad_p0_badColumns) (C := RX5) (T := TX5) (N := 5) hx hb hts inG5 hown hK hP 4 rfl rfl 2 (Nat.le_of_ble_eq_true rfl) (hts _ q161) (fun _ h9 => h9) rfl dX3_offer_18 ?_
        refine lv_iload hx hb dX3_offer_21 (lv_at hl 0 rfl) ?_
        obtain ⟨h42, hf⟩ := gd_some hf
        refine va_iald (D := G.1) (cl := vwCl) hx hb hK hP 7 0 rfl rfl (gi_in h42) dX3_offer_23 ?_
        refine lv_istore (lv' := [(5, .int (p0_badColumns x38.toNatClampNeg)), (4, .int x38), (0, .ref ad_t), (1, .ref ad_p0), (2, .int p1), (3, .int p2)]) hx hb dX3_offer_24 hl (by decide) rfl (fun ls hl => ?_)
        refine lv_iload hx hb dX3_offer_26 (lv_at hl 0 rfl) ?_
        refine lv_iload_n hx hb dX3_offer_28 rfl (lv_at hl 4 rfl) ?_
        refine lv_icmp_eq (tgt := 60) hx hb dX3_offer_29 (by decide) (fun c43 => ?_) (fun c43 => ?_)
        · have hf := if_t hf c43
          refine lv_iinc (v := (x38 + (1 : Int32))) (lv' := [(4, .int (x38 + (1 : Int32))), (5, .int (p0_badColumns x38.toNatClampNeg)), (0, .ref ad_t), (1, .ref ad_p0), (2, .int p1), (3, .int p2)]) hx hb dX3_offer_60 hl (k := 1) rfl (ii_1 _) (by decide) rfl (fun ls hl => ?_)
          refine lv_goto (tgt := 8) hx hb dX3_offer_63 (by decide) ?_
          exact ih (x38 + (1 : Int32)) g39 g40 H locs ls (lv_sub hl [0, 2, 3, 4, 5] rfl) hP hD hS hf
        · have hf := if_f hf c43
          refine lv_iload hx hb dX3_offer_32 (lv_at hl 0 rfl) ?_
          refine lv_iload_n hx hb dX3_offer_34 rfl (lv_at hl 5 rfl) ?_
          refine lv_icmp_eq (tgt := 60) hx hb dX3_offer_35 (by decide) (fun c44 => ?_) (fun c44 => ?_)
          · have hf := if_t hf c44
            refine lv_iinc (v := (x38 + (1 : Int32))) (lv' := [(4, .int (x38 + (1 : Int32))), (5, .int (p0_badColumns x38.toNatClampNeg)), (0, .ref ad_t), (1, .ref ad_p0), (2, .int p1), (3, .int p2)]) hx hb dX3_offer_60 hl (k := 1) rfl (ii_1 _) (by decide) rfl (fun ls hl => ?_)
            refine lv_goto (tgt := 8) hx hb dX3_offer_63 (by decide) ?_
            exact ih (x38 + (1 : Int32)) g39 g40 H locs ls (lv_sub hl [0, 2, 3, 4, 5] rfl) hP hD hS hf
          · have hf := if_f hf c44
            refine lv_aload_n hx hb dX3_offer_38 rfl (lv_at hl 2 rfl) ?_
            refine lv_aload_n hx hb dX3_offer_39 rfl (lv_at hl 2 rfl) ?_
            refine va_get (D := G.1) (cl := vwCl) (ci := 3) (v := .ref ad_t_left) (C := RX3) (T := TX3) (N := 9) hx hb hts inG3 hown hK hP 0 rfl rfl 7 (Nat.le_of_ble_eq_true rfl) (hts _ q298) (fun _ h9 => h9) rfl dX3_offer_40 ?_
            refine lv_aload_n hx hb dX3_offer_43 rfl (lv_at hl 2 rfl) ?_
            refine va_get (D := G.1) (cl := vwCl) (ci := 3) (v := .int (g39 8)) (C := RX3) (T := TX3) (N := 9) hx hb hts inG3 hown hK hP 0 rfl rfl 8 (Nat.le_of_ble_eq_true rfl) (hts _ q299) (fun _ h9 => h9) rfl dX3_offer_44 ?_
            refine lv_aload_n hx hb dX3_offer_47 rfl (lv_at hl 3 rfl) ?_
            refine va_get (D := G.1) (cl := vwCl) (ci := 5) (v := .ref ad_p0_badRows) (C := RX5) (T := TX5) (N := 5) hx hb hts inG5 hown hK hP 4 rfl rfl 1 (Nat.le_of_ble_eq_true rfl) (hts _ q157) (fun _ h9 => h9) rfl dX3_offer_48 ?_
            refine lv_iload hx hb dX3_offer_51 (lv_at hl 1 rfl) ?_
            obtain ⟨h45, hf⟩ := gd_some hf
            refine va_iald (D := G.1) (cl := vwCl) hx hb hK hP 6 0 rfl rfl (gi_in h45) dX3_offer_53 ?_
            obtain ⟨a46, h47, hf⟩ := bn_some hf
            refine kESN (tX10_putRising l G ad_t_left g40 (g39 8) (p0_badRows x38.toNatClampNeg) a46 h47) ⟨hx, hb, hml, hown, hts⟩ n_mn_X3_49 q546 q94 q547 okyX10_putRising ⟨Nat.le_of_ble_eq_true rfl, Nat.le_of_ble_eq_true rfl⟩ hP hD hG hS hA [3] [0, 1, 2, 4, 5, 6, 7] rfl (wr := [(ad_t, .inr (3, [.ref ad_t_rows, .ref ad_t_columns, .int (g39 2), .int (g39 3), .int (g39 4), .int (g39 5), .ref ad_t_candidates, .ref ad_t_left, .int (g39 8)])), (ad_t_rows, .inl (G.2.1 0, 4, .inl t_rows)), (ad_t_columns, .inl (G.2.1 0, 2, .inl t_columns)), (ad_p0, .inr (5, [.ref ad_p0_numbers, .ref ad_p0_badRows, .ref ad_p0_badColumns, .ref ad_p0_badBits, .int (p0I 4)])), (ad_p0_numbers, .inl (G.2.1 0, 9, .inl p0_numbers)), (ad_p0_badRows, .inl (G.2.1 0, 12, .inl p0_badRows)), (ad_p0_badColumns, .inl (G.2.1 0, 12, .inl p0_badColumns))]) rfl (by decide) hl.1 rfl (Nat.le_of_ble_eq_true rfl) dX3_offer_54 ⟨Nat.zero_le _, Nat.zero_le _⟩ (fun r w H locs hR hP hD hS => ?_)
            obtain ⟨rfl, rfl⟩ := hR
            have hP : va_P G.1 vwCl [(ad_t, .inr (3, [.ref ad_t_rows, .ref ad_t_columns, .int (g39 2), .int (g39 3), .int (g39 4), .int (g39 5), .ref ad_t_candidates, .ref ad_t_left, .int (g39 8)])), (ad_t_rows, .inl (G.2.1 0, 4, .inl t_rows)), (ad_t_columns, .inl (G.2.1 0, 2, .inl t_columns)), (ad_p0, .inr (5, [.ref ad_p0_numbers, .ref ad_p0_badRows, .ref ad_p0_badColumns, .ref ad_p0_badBits, .int (p0I 4)])), (ad_p0_numbers, .inl (G.2.1 0, 9, .inl p0_numbers)), (ad_p0_badRows, .inl (G.2.1 0, 12, .inl p0_badRows)), (ad_p0_badColumns, .inl (G.2.1 0, 12, .inl p0_badColumns)), (ad_t_left, .inl (G.2.1 0, 12, .inl a46.2))] H := hP
            have hD : va_D A [(ad_t, .inr (3, [.ref ad_t_rows, .ref ad_t_columns, .int (g39 2), .int (g39 3), .int (g39 4), .int (g39 5), .ref ad_t_candidates, .ref ad_t_left, .int (g39 8)])), (ad_t_rows, .inl (G.2.1 0, 4, .inl t_rows)), (ad_t_columns, .inl (G.2.1 0, 2, .inl t_columns)), (ad_p0, .inr (5, [.ref ad_p0_numbers, .ref ad_p0_badRows, .ref ad_p0_badColumns, .ref ad_p0_badBits, .int (p0I 4)])), (ad_p0_numbers, .inl (G.2.1 0, 9, .inl p0_numbers)), (ad_p0_badRows, .inl (G.2.1 0, 12, .inl p0_badRows)), (ad_p0_badColumns, .inl (G.2.1 0, 12, .inl p0_badColumns)), (ad_t_left, .inl (G.2.1 0, 12, .inl a46.2))] := hD
            refine W.eq (g2 := F0 m 57 ls [.int a46.1, .ref ad_t]) rfl ?_
            refine va_put (D := G.1) (cl := vwCl) (ci := 3) (v := .int a46.1) (ty := .int) (C := RX3) (T := TX3) (N := 9) hx hb hts inG3 tyX3 tyX3_ok nmX3 hown hK hP hD hS 0 rfl rfl 8 (Nat.le_of_ble_eq_true rfl) (hts _ q299) (fun _ h9 => h9) rfl (tyX3_ok 8 (Nat.le_of_ble_eq_true rfl)) rfl rfl (Nat.le_of_ble_eq_true rfl) dX3_offer_57 (fun H locs hP hD hS => ?_)
            have hP : va_P G.1 vwCl [(ad_t, .inr (3, [.ref ad_t_rows, .ref ad_t_columns, .int (g39 2), .int (g39 3), .int (g39 4), .int (g39 5), .ref ad_t_candidates, .ref ad_t_left, .int a46.1])), (ad_t_rows, .inl (G.2.1 0, 4, .inl t_rows)), (ad_t_columns, .inl (G.2.1 0, 2, .inl t_columns)), (ad_p0, .inr (5, [.ref ad_p0_numbers, .ref ad_p0_badRows, .ref ad_p0_badColumns, .ref ad_p0_badBits, .int (p0I 4)])), (ad_p0_numbers, .inl (G.2.1 0, 9, .inl p0_numbers)), (ad_p0_badRows, .inl (G.2.1 0, 12, .inl p0_badRows)), (ad_p0_badColumns, .inl (G.2.1 0, 12, .inl p0_badColumns)), (ad_t_left, .inl (G.2.1 0, 12, .inl a46.2))] H := hP
            have hD : va_D A [(ad_t, .inr (3, [.ref ad_t_rows, .ref ad_t_columns, .int (g39 2), .int (g39 3), .int (g39 4), .int (g39 5), .ref ad_t_candidates, .ref ad_t_left, .int a46.1])), (ad_t_rows, .inl (G.2.1 0, 4, .inl t_rows)), (ad_t_columns, .inl (G.2.1 0, 2, .inl t_columns)), (ad_p0, .inr (5, [.ref ad_p0_numbers, .ref ad_p0_badRows, .ref ad_p0_badColumns, .ref ad_p0_badBits, .int (p0I 4)])), (ad_p0_numbers, .inl (G.2.1 0, 9, .inl p0_numbers)), (ad_p0_badRows, .inl (G.2.1 0, 12, .inl p0_badRows)), (ad_p0_badColumns, .inl (G.2.1 0, 12, .inl p0_badColumns)), (ad_t_left, .inl (G.2.1 0, 12, .inl a46.2))] := hD
            refine lv_iinc (v := (x38 + (1 : Int32))) (lv' := [(4, .int (x38 + (1 : Int32))), (5, .int (p0_badColumns x38.toNatClampNeg)), (0, .ref ad_t), (1, .ref ad_p0), (2, .int p1), (3, .int p2)]) hx hb dX3_offer_60 hl (k := 1) rfl (ii_1 _) (by decide) rfl (fun ls hl => ?_)
            refine lv_goto (tgt := 8) hx hb dX3_offer_63 (by decide) ?_
            have hP := hP.sub (ws' := [(ad_t, .inr (3, [.ref ad_t_rows, .ref ad_t_columns, .int (g39 2), .int (g39 3), .int (g39 4), .int (g39 5), .ref ad_t_candidates, .ref ad_t_left, .int a46.1])), (ad_t_rows, .inl (G.2.1 0, 4, .inl t_rows)), (ad_t_columns, .inl (G.2.1 0, 2, .inl t_columns)), (ad_t_left, .inl (G.2.1 0, 12, .inl a46.2)), (ad_p0, .inr (5, [.ref ad_p0_numbers, .ref ad_p0_badRows, .ref ad_p0_badColumns, .ref ad_p0_badBits, .int (p0I 4)])), (ad_p0_numbers, .inl (G.2.1 0, 9, .inl p0_numbers)), (ad_p0_badRows, .inl (G.2.1 0, 12, .inl p0_badRows)), (ad_p0_badColumns, .inl (G.2.1 0, 12, .inl p0_badColumns))]) [0, 1, 2, 7, 3, 4, 5, 6] rfl
            have hD := hD.sub (ws' := [(ad_t, .inr (3, [.ref ad_t_rows, .ref ad_t_columns, .int (g39 2), .int (g39 3), .int (g39 4), .int (g39 5), .ref ad_t_candidates, .ref ad_t_left, .int a46.1])), (ad_t_rows, .inl (G.2.1 0, 4, .inl t_rows)), (ad_t_columns, .inl (G.2.1 0, 2, .inl t_columns)), (ad_t_left, .inl (G.2.1 0, 12, .inl a46.2)), (ad_p0, .inr (5, [.ref ad_p0_numbers, .ref ad_p0_badRows, .ref ad_p0_badColumns, .ref ad_p0_badBits, .int (p0I 4)])), (ad_p0_numbers, .inl (G.2.1 0, 9, .inl p0_numbers)), (ad_p0_badRows, .inl (G.2.1 0, 12, .inl p0_badRows)), (ad_p0_badColumns, .inl (G.2.1 0, 12, .inl p0_badColumns))]) [0, 1, 2, 7, 3, 4, 5, 6] (by decide) rfl
            exact ih (x38 + (1 : Int32)) (upd g39 8 a46.1) a46.2 H locs ls (lv_sub hl [0, 2, 3, 4, 5] rfl) hP hD hS hf
  exact Ly23 FU (0 : Int32) (upd tI 8 (0 : Int32)) t_left H locs ls (lv_sub hl [0, 1, 2, 3, 4] rfl) hP hD hS hLy23
