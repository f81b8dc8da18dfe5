def fX10_isLayout (p0 : Int32) : Bool :=
  (if p0 = 0 then true else (if p0 = (1 : Int32) then true else (if p0 = (3 : Int32) then true else (if p0 = (4 : Int32) then true else false))))
set_option maxRecDepth 100000 in
set_option maxHeartbeats 4000000 in
theorem tX10_isLayout (l : Launch) (G : gG) (p0 : Int32) (o : Bool) (hf : fX10_isLayout p0 = o) : mP G l yX10_isLayout cX10_isLayout 1 (some .boolean) 0 0 [.int p0] [] (some (.int (bi o))) := by
  refine mP_of (by decide) (Nat.le_of_ble_eq_true rfl) ?_
  intro p e s m below meth cd ls hx hb hml hown hts hr hlocks hl hP hG
  have hK := hG.1
  have hown : s.vm.findClass RX10 = some m.cls := hown
  have hl : lv_has ls 1 [(0, .int p0)] := hl
  have hS : va_S no s.heap s.heap [] := va_S.rf
  generalize ([] : List Loc) = locs at hS ⊢
  unfold fX10_isLayout at hf
  show wG p l e 0 0 s m [.int p0] below meth cd s.heap locs (pQ (some (.int (bi o)))) no (F0 m 0 ls [])
  refine lv_iload_n hx hb dX10_isLayout_0 rfl (lv_at hl 0 rfl) ?_
  refine lv_if_eq (tgt := 19) hx hb dX10_isLayout_1 (by decide) (fun c5 => ?_) (fun c5 => ?_)
  · have hf := if_t hf c5
    refine lv_iconst (v := 1) hx hb dX10_isLayout_19 (by decide) ?_
    refine lv_goto (tgt := 24) hx hb dX10_isLayout_20 (by decide) ?_
    subst hf
    exact pRetZ (v := true) hx hb hr hlocks hS dX10_isLayout_24
  · have hf := if_f hf c5
    refine lv_iload_n hx hb dX10_isLayout_4 rfl (lv_at hl 0 rfl) ?_
    refine lv_iconst (v := 1) hx hb dX10_isLayout_5 (by decide) ?_
    refine lv_icmp_eq (tgt := 19) hx hb dX10_isLayout_6 (by decide) (fun c6 => ?_) (fun c6 => ?_)
    · have hf := if_t hf c6
      refine lv_iconst (v := 1) hx hb dX10_isLayout_19 (by decide) ?_
      refine lv_goto (tgt := 24) hx hb dX10_isLayout_20 (by decide) ?_
      subst hf
      exact pRetZ (v := true) hx hb hr hlocks hS dX10_isLayout_24
    · have hf := if_f hf c6
      refine lv_iload_n hx hb dX10_isLayout_9 rfl (lv_at hl 0 rfl) ?_
      refine lv_iconst (v := 3) hx hb dX10_isLayout_10 (by decide) ?_
      refine lv_icmp_eq (tgt := 19) hx hb dX10_isLayout_11 (by decide) (fun c7 => ?_) (fun c7 => ?_)
      · have hf := if_t hf c7
        refine lv_iconst (v := 1) hx hb dX10_isLayout_19 (by decide) ?_
        refine lv_goto (tgt := 24) hx hb dX10_isLayout_20 (by decide) ?_
        subst hf
        exact pRetZ (v := true) hx hb hr hlocks hS dX10_isLayout_24
      · have hf := if_f hf c7
        refine lv_iload_n hx hb dX10_isLayout_14 rfl (lv_at hl 0 rfl) ?_
        refine lv_iconst (v := 4) hx hb dX10_isLayout_15 (by decide) ?_
        refine lv_icmp_ne (tgt := 23) hx hb dX10_isLayout_16 (by decide) (fun c8 => ?_) (fun c8 => ?_)
        · have hf := if_f hf c8
          refine lv_iconst (v := 0) hx hb dX10_isLayout_23 (by decide) ?_
          subst hf
          exact pRetZ (v := false) hx hb hr hlocks hS dX10_isLayout_24
        · have hf := if_t hf c8
          refine lv_iconst (v := 1) hx hb dX10_isLayout_19 (by decide) ?_
          refine lv_goto (tgt := 24) hx hb dX10_isLayout_20 (by decide) ?_
          subst hf
          exact pRetZ (v := true) hx hb hr hlocks hS dX10_isLayout_24

def fX10_canBe (p0 : Int32) (p1 : Int32) : Option (Bool) :=
  (if p0 < 0 then some false else (if (9 : Int32) ≤ p0 then some false else gd (gi p0 9) ((if p1 < ((sV 1).getD p0.toNatClampNeg 0) then some false else gd (gi p0 9) ((if p1 ≤ ((sV 2).getD p0.toNatClampNeg 0) then (if (if p0 = 0 then (1 : Int32) else (if p0 = (2 : Int32) then (1 : Int32) else (0 : Int32))) = 0 then some true else (if (p1 &&& (p1 - (1 : Int32))) = 0 then some true else some false)) else some false))))))
set_option maxRecDepth 100000 in
set_option maxHeartbeats 4000000 in
theorem tX10_canBe (l : Launch) (G : gG) (p0 : Int32) (p1 : Int32) (o : Bool) (hf : fX10_canBe p0 p1 = some o) : mP G l yX10_canBe cX10_canBe 3 (some .boolean) 0 0 [.int p0, .int p1] [] (some (.int (bi o))) := by
  refine mP_of (by decide) (Nat.le_of_ble_eq_true rfl) ?_
  intro p e s m below meth cd ls hx hb hml hown hts hr hlocks hl hP hG
  have hK := hG.1
  have hown : s.vm.findClass RX10 = some m.cls := hown
  have hl : lv_has ls 3 [(0, .int p0), (1, .int p1)] := hl
  have hS : va_S no s.heap s.heap [] := va_S.rf
  generalize ([] : List Loc) = locs at hS ⊢
  unfold fX10_canBe at hf
  show wG p l e 0 0 s m [.int p0, .int p1] below meth cd s.heap locs (pQ (some (.int (bi o)))) no (F0 m 0 ls [])
  refine lv_iload_n hx hb dX10_canBe_0 rfl (lv_at hl 0 rfl) ?_
  refine lv_if_lt (tgt := 28) hx hb dX10_canBe_1 (by decide) (fun c23 => ?_) (fun c23 => ?_)
  · have hf := if_t hf c23
    refine lv_iconst (v := 0) hx hb dX10_canBe_28 (by decide) ?_
    have hf := Option.some.inj hf
    subst hf
    exact pRetZ (v := false) hx hb hr hlocks hS dX10_canBe_29
  · have hf := if_f hf c23
    refine lv_iload_n hx hb dX10_canBe_4 rfl (lv_at hl 0 rfl) ?_
    refine lv_bipush (v := 9) hx hb dX10_canBe_5 (by decide) ?_
    refine lv_icmp_ge (tgt := 28) hx hb dX10_canBe_7 (by decide) (fun c24 => ?_) (fun c24 => ?_)
    · have hf := if_t hf c24
      refine lv_iconst (v := 0) hx hb dX10_canBe_28 (by decide) ?_
      have hf := Option.some.inj hf
      subst hf
      exact pRetZ (v := false) hx hb hr hlocks hS dX10_canBe_29
    · have hf := if_f hf c24
      refine lv_iload_n hx hb dX10_canBe_10 rfl (lv_at hl 1 rfl) ?_
      refine va_gets hx hb (hG.2.1 1 (Nat.le_of_ble_eq_true rfl)).1 hS hown (hts _ q482) (fun _ h9 => h9) dX10_canBe_11 ?_
      refine lv_iload_n hx hb dX10_canBe_14 rfl (lv_at hl 0 rfl) ?_
      obtain ⟨h25, hf⟩ := gd_some hf
      refine va_ti (v := .int ((sV 1).getD p0.toNatClampNeg 0)) hx hb (hG.2.1 1 (Nat.le_of_ble_eq_true rfl)).2 hS (gi_in h25) (rfl) dX10_canBe_15 ?_
      refine lv_icmp_lt (tgt := 28) hx hb dX10_canBe_16 (by decide) (fun c26 => ?_) (fun c26 => ?_)
      · have hf := if_t hf c26
        refine lv_iconst (v := 0) hx hb dX10_canBe_28 (by decide) ?_
        have hf := Option.some.inj hf
        subst hf
        exact pRetZ (v := false) hx hb hr hlocks hS dX10_canBe_29
      · have hf := if_f hf c26
        refine lv_iload_n hx hb dX10_canBe_19 rfl (lv_at hl 1 rfl) ?_
        refine va_gets hx hb (hG.2.1 2 (Nat.le_of_ble_eq_true rfl)).1 hS hown (hts _ q484) (fun _ h9 => h9) dX10_canBe_20 ?_
        refine lv_iload_n hx hb dX10_canBe_23 rfl (lv_at hl 0 rfl) ?_
        obtain ⟨h27, hf⟩ := gd_some hf
        refine va_ti (v := .int ((sV 2).getD p0.toNatClampNeg 0)) hx hb (hG.2.1 2 (Nat.le_of_ble_eq_true rfl)).2 hS (gi_in h27) (rfl) dX10_canBe_24 ?_
        refine lv_icmp_le (tgt := 30) hx hb dX10_canBe_25 (by decide) (fun c28 => ?_) (fun c28 => ?_)
        · have hf := if_t hf c28
          refine lv_iload_n hx hb dX10_canBe_30 rfl (lv_at hl 0 rfl) ?_
          have J31 : wG p l e 0 0 s m [.int p0, .int p1] below meth cd s.heap locs (pQ (some (.int (bi o)))) no (F0 m 44 ls [.int (if p0 = 0 then (1 : Int32) else (if p0 = (2 : Int32) then (1 : Int32) else (0 : Int32)))]) := by
            refine lv_istore_n (lv' := [(2, .int (if p0 = 0 then (1 : Int32) else (if p0 = (2 : Int32) then (1 : Int32) else (0 : Int32)))), (0, .int p0), (1, .int p1)]) hx hb dX10_canBe_44 rfl hl (by decide) rfl (fun ls hl => ?_)
            refine lv_iload_n hx hb dX10_canBe_45 rfl (lv_at hl 0 rfl) ?_
            refine lv_if_eq (tgt := 57) hx hb dX10_canBe_46 (by decide) (fun c29 => ?_) (fun c29 => ?_)
            · have hf := if_t hf c29
              refine lv_iconst (v := 1) hx hb dX10_canBe_57 (by decide) ?_
              refine lv_goto (tgt := 62) hx hb dX10_canBe_58 (by decide) ?_
              have hf := Option.some.inj hf
              subst hf
              exact pRetZ (v := true) hx hb hr hlocks hS dX10_canBe_62
            · have hf := if_f hf c29
              refine lv_iload_n hx hb dX10_canBe_49 rfl (lv_at hl 2 rfl) ?_
              refine lv_iload_n hx hb dX10_canBe_50 rfl (lv_at hl 2 rfl) ?_
              refine lv_iconst (v := 1) hx hb dX10_canBe_51 (by decide) ?_
              refine lv_isub hx hb dX10_canBe_52 ?_
              refine lv_iand hx hb dX10_canBe_53 ?_
              refine lv_if_ne (tgt := 61) hx hb dX10_canBe_54 (by decide) (fun c30 => ?_) (fun c30 => ?_)
              · have hf := if_f hf c30
                refine lv_iconst (v := 0) hx hb dX10_canBe_61 (by decide) ?_
                have hf := Option.some.inj hf
                subst hf
                exact pRetZ (v := false) hx hb hr hlocks hS dX10_canBe_62
              · have hf := if_t hf c30
                refine lv_iconst (v := 1) hx hb dX10_canBe_57 (by decide) ?_
                refine lv_goto (tgt := 62) hx hb dX10_canBe_58 (by decide) ?_
                have hf := Option.some.inj hf
                subst hf
                exact pRetZ (v := true) hx hb hr hlocks hS dX10_canBe_62
          refine lv_if_eq (tgt := 39) hx hb dX10_canBe_31 (by decide) (fun c32 => ?_) (fun c32 => ?_)
          · refine lv_iconst (v := 1) hx hb dX10_canBe_39 (by decide) ?_
            refine lv_goto (tgt := 44) hx hb dX10_canBe_40 (by decide) ?_
            exact (mgT c32 J31)
          · refine lv_iload_n hx hb dX10_canBe_34 rfl (lv_at hl 0 rfl) ?_
            refine lv_iconst (v := 2) hx hb dX10_canBe_35 (by decide) ?_
            refine lv_icmp_ne (tgt := 43) hx hb dX10_canBe_36 (by decide) (fun c33 => ?_) (fun c33 => ?_)
            · refine lv_iconst (v := 0) hx hb dX10_canBe_43 (by decide) ?_
              exact (mgF c33 (mgF c32 J31))
            · refine lv_iconst (v := 1) hx hb dX10_canBe_39 (by decide) ?_
              refine lv_goto (tgt := 44) hx hb dX10_canBe_40 (by decide) ?_
              exact (mgT c33 (mgF c32 J31))
        · have hf := if_f hf c28
          refine lv_iconst (v := 0) hx hb dX10_canBe_28 (by decide) ?_
          have hf := Option.some.inj hf
          subst hf
          exact pRetZ (v := false) hx hb hr hlocks hS dX10_canBe_29

def fX10_canBeCell (p0 : Int32) (p1 : Int32) : Bool :=
  (if p0 < 0 then false else (if (512 : Int32) ≤ p0 then false else (if p1 < 0 then false else (if (256 : Int32) ≤ p1 then false else true))))
set_option maxRecDepth 100000 in
set_option maxHeartbeats 4000000 in
theorem tX10_canBeCell (l : Launch) (G : gG) (p0 : Int32) (p1 : Int32) (o : Bool) (hf : fX10_canBeCell p0 p1 = o) : mP G l yX10_canBeCell cX10_canBeCell 2 (some .boolean) 0 0 [.int p0, .int p1] [] (some (.int (bi o))) := by
  refine mP_of (by decide) (Nat.le_of_ble_eq_true rfl) ?_
  intro p e s m below meth cd ls hx hb hml hown hts hr hlocks hl hP hG
  have hK := hG.1
  have hown : s.vm.findClass RX10 = some m.cls := hown
  have hl : lv_has ls 2 [(0, .int p0), (1, .int p1)] := hl
  have hS : va_S no s.heap s.heap [] := va_S.rf
  generalize ([] : List Loc) = locs at hS ⊢
  unfold fX10_canBeCell at hf
  show wG p l e 0 0 s m [.int p0, .int p1] below meth cd s.heap locs (pQ (some (.int (bi o)))) no (F0 m 0 ls [])
  refine lv_iload_n hx hb dX10_canBeCell_0 rfl (lv_at hl 0 rfl) ?_
  refine lv_if_lt (tgt := 26) hx hb dX10_canBeCell_1 (by decide) (fun c5 => ?_) (fun c5 => ?_)
  · have hf := if_t hf c5
    refine lv_iconst (v := 0) hx hb dX10_canBeCell_26 (by decide) ?_
    subst hf
    exact pRetZ (v := false) hx hb hr hlocks hS dX10_canBeCell_27
  · have hf := if_f hf c5
    refine lv_iload_n hx hb dX10_canBeCell_4 rfl (lv_at hl 0 rfl) ?_
    refine lv_sipush (v := 512) hx hb dX10_canBeCell_5 (by decide) ?_
    refine lv_icmp_ge (tgt := 26) hx hb dX10_canBeCell_8 (by decide) (fun c6 => ?_) (fun c6 => ?_)
    · have hf := if_t hf c6
      refine lv_iconst (v := 0) hx hb dX10_canBeCell_26 (by decide) ?_
      subst hf
      exact pRetZ (v := false) hx hb hr hlocks hS dX10_canBeCell_27
    · have hf := if_f hf c6
      refine lv_iload_n hx hb dX10_canBeCell_11 rfl (lv_at hl 1 rfl) ?_
      refine lv_if_lt (tgt := 26) hx hb dX10_canBeCell_12 (by decide) (fun c7 => ?_) (fun c7 => ?_)
      · have hf := if_t hf c7
        refine lv_iconst (v := 0) hx hb dX10_canBeCell_26 (by decide) ?_
        subst hf
        exact pRetZ (v := false) hx hb hr hlocks hS dX10_canBeCell_27
      · have hf := if_f hf c7
        refine lv_iload_n hx hb dX10_canBeCell_15 rfl (lv_at hl 1 rfl) ?_
        refine lv_sipush (v := 256) hx hb dX10_canBeCell_16 (by decide) ?_
        refine lv_icmp_ge (tgt := 26) hx hb dX10_canBeCell_19 (by decide) (fun c8 => ?_) (fun c8 => ?_)
        · have hf := if_t hf c8
          refine lv_iconst (v := 0) hx hb dX10_canBeCell_26 (by decide) ?_
          subst hf
          exact pRetZ (v := false) hx hb hr hlocks hS dX10_canBeCell_27
        · have hf := if_f hf c8
          refine lv_iconst (v := 1) hx hb dX10_canBeCell_22 (by decide) ?_
          refine lv_goto (tgt := 27) hx hb dX10_canBeCell_23 (by decide) ?_
          subst hf
          exact pRetZ (v := true) hx hb hr hlocks hS dX10_canBeCell_27

def fX10_upward (p0 : Int32) (p1 : Int32) : Option (Int32) :=
  (if (1 : Int32) ≤ p1 then gd (nz p1) (some (((p0 + p1) - (1 : Int32)) / p1)) else some (0 : Int32))
set_option maxRecDepth 100000 in
set_option maxHeartbeats 4000000 in
theorem tX10_upward (l : Launch) (G : gG) (p0 : Int32) (p1 : Int32) (o : Int32) (hf : fX10_upward p0 p1 = some o) : mP G l yX10_upward cX10_upward 2 (some .int) 0 0 [.int p0, .int p1] [] (some (.int o)) := by
  refine mP_of (by decide) (Nat.le_of_ble_eq_true rfl) ?_
  intro p e s m below meth cd ls hx hb hml hown hts hr hlocks hl hP hG
  have hK := hG.1
  have hown : s.vm.findClass RX10 = some m.cls := hown
  have hl : lv_has ls 2 [(0, .int p0), (1, .int p1)] := hl
  have hS : va_S no s.heap s.heap [] := va_S.rf
  generalize ([] : List Loc) = locs at hS ⊢
  unfold fX10_upward at hf
  show wG p l e 0 0 s m [.int p0, .int p1] below meth cd s.heap locs (pQ (some (.int o))) no (F0 m 0 ls [])
  refine lv_iload_n hx hb dX10_upward_0 rfl (lv_at hl 1 rfl) ?_
  refine lv_iconst (v := 1) hx hb dX10_upward_1 (by decide) ?_
  refine lv_icmp_ge (tgt := 9) hx hb dX10_upward_2 (by decide) (fun c5 => ?_) (fun c5 => ?_)
  · have hf := if_t hf c5
    refine lv_iload_n hx hb dX10_upward_9 rfl (lv_at hl 0 rfl) ?_
    refine lv_iload_n hx hb dX10_upward_10 rfl (lv_at hl 1 rfl) ?_
    refine lv_iadd hx hb dX10_upward_11 ?_
    refine lv_iconst (v := 1) hx hb dX10_upward_12 (by decide) ?_
    refine lv_isub hx hb dX10_upward_13 ?_
    refine lv_iload_n hx hb dX10_upward_14 rfl (lv_at hl 1 rfl) ?_
    obtain ⟨h6, hf⟩ := gd_some hf
    refine lv_idiv hx hb dX10_upward_15 (nz_ne h6) ?_
    have hf := Option.some.inj hf
    subst hf
    exact pRet hx hb hr hlocks hS dX10_upward_16
  · have hf := if_f hf c5
    refine lv_iconst (v := 0) hx hb dX10_upward_5 (by decide) ?_
    refine lv_goto (tgt := 16) hx hb dX10_upward_6 (by decide) ?_
    have hf := Option.some.inj hf
    subst hf
    exact pRet hx hb hr hlocks hS dX10_upward_16

def fX10_putRising_l2 (x1 : Int32) (x2 : Int32) (p0 : Nat → Int32) : Nat → Int32 → Option (Int32)
  | 0, _ => none
  | n + 1, x3 =>
    (if x1 ≤ x3 then some x3 else gd (gi x3 12) ((if x2 ≤ (p0 x3.toNatClampNeg) then some x3 else fX10_putRising_l2 x1 x2 p0 n (x3 + (1 : Int32)))))
def fX10_putRising_l43 (x3 : Int32) : Nat → Int32 → (Nat → Int32) → Option ((Nat → Int32))
  | 0, _, _ => none
  | n + 1, x4, p0 =>
    (if x4 ≤ x3 then some p0 else gd (gi (x4 - (1 : Int32)) 12) (gd (gi x4 12) (fX10_putRising_l43 x3 n (x4 + (-1 : Int32)) (upd p0 x4.toNatClampNeg (p0 (x4 - (1 : Int32)).toNatClampNeg)))))
def fX10_putRising_j40 (x1 : Int32) (x2 : Int32) (x3 : Int32) (p0 : Nat → Int32) : Option (Int32 × (Nat → Int32)) :=
  bn (fX10_putRising_l43 x3 FU x1 p0) fun y9 => gd (gi x3 12) (some ((x1 + (1 : Int32)), (upd y9 x3.toNatClampNeg x2)))
def fX10_putRising (p0 : Nat → Int32) (p1 : Int32) (p2 : Int32) : Option (Int32 × (Nat → Int32)) :=
  bn (fX10_putRising_l2 p1 p2 p0 FU (0 : Int32)) fun y4 => (if (12 : Int32) ≤ p1 then some (p1, p0) else (if p1 ≤ y4 then fX10_putRising_j40 p1 p2 y4 p0 else gd (gi y4 12) ((if (p0 y4.toNatClampNeg) = p2 then some (p1, p0) else fX10_putRising_j40 p1 p2 y4 p0))))
set_option maxRecDepth 100000 in
set_option maxHeartbeats 4000000 in
theorem tX10_putRising (l : Launch) (G : gG) (ad_p0 : Nat) (p0 : Nat → Int32) (p1 : Int32) (p2 : Int32) (o : Int32 × (Nat → Int32)) (hf : fX10_putRising p0 p1 p2 = some o) : mE G l yX10_putRising cX10_putRising 5 (some .int) 0 0 0 0 [.ref ad_p0, .int p1, .int p2] [(ad_p0, .inl (G.2.1 0, 12, .inl p0))] (fun r w => r = (some (.int o.1)) ∧ w = [(ad_p0, .inl (G.2.1 0, 12, .inl o.2))]) := by
  refine mE_of (by decide) (Nat.le_of_ble_eq_true rfl) ?_
  intro p e s m below meth cd ls A hx hb hml hown hts hr hlocks hnm hl hA hP hD hS hG
  have hK := hG.1
  have hown : s.vm.findClass RX10 = some m.cls := hown
  have hl : lv_has ls 5 [(0, .ref ad_p0), (1, .int p1), (2, .int p2)] := hl
  have hS := hS
  unfold fX10_putRising at hf
  obtain ⟨H, locs, eH, eL⟩ : ∃ (H : Heap) (locs : List Loc), H = s.heap ∧ locs = [] := ⟨_, _, rfl, rfl⟩
  have hP : va_P G.1 vwCl [(ad_p0, .inl (G.2.1 0, 12, .inl p0))] H := eH ▸ hP
  have hS : va_S A s.heap H locs := by rw [eH, eL]; exact hS
  suffices hgo : wG p l e 0 0 s m [.ref ad_p0, .int p1, .int p2] below meth cd H locs (eQ G A (fun r w => r = (some (.int o.1)) ∧ w = [(ad_p0, .inl (G.2.1 0, 12, .inl o.2))])) A (F0 m 0 ls []) by rw [eH, eL] at hgo; exact hgo
  clear eH eL
  refine lv_iconst (v := 0) hx hb dX10_putRising_0 (by decide) ?_
  refine lv_istore_n (lv' := [(3, .int (0 : Int32)), (0, .ref ad_p0), (1, .int p1), (2, .int p2)]) hx hb dX10_putRising_1 rfl hl (by decide) rfl (fun ls hl => ?_)
  obtain ⟨y15, hLy15, hky15⟩ := bn_some hf
  have Ey15 : ∀  (H : Heap) (locs : List Loc) (ls : Array Slot), lv_has ls 5 [(3, .int y15), (0, .ref ad_p0), (1, .int p1), (2, .int p2)] → va_P G.1 vwCl [(ad_p0, .inl (G.2.1 0, 12, .inl p0))] H → va_D A [(ad_p0, .inl (G.2.1 0, 12, .inl p0))] → va_S A s.heap H locs → wG p l e 0 0 s m [.ref ad_p0, .int p1, .int p2] below meth cd H locs (eQ G A (fun r w => r = (some (.int o.1)) ∧ w = [(ad_p0, .inl (G.2.1 0, 12, .inl o.2))])) A (F0 m 20 ls []) := by
    intro  H locs ls hl hP hD hS
    have hf := hky15
    refine lv_iload_n hx hb dX10_putRising_20 rfl (lv_at hl 2 rfl) ?_
    refine lv_aload_n hx hb dX10_putRising_21 rfl (lv_at hl 1 rfl) ?_
    refine va_alen (D := G.1) (cl := vwCl) (v := (12 : Int32)) hx hb hK hP 0 0 rfl rfl rfl dX10_putRising_22 ?_
    refine lv_icmp_ge (tgt := 38) hx hb dX10_putRising_23 (by decide) (fun c16 => ?_) (fun c16 => ?_)
    · have hf := if_t hf c16
      refine lv_iload_n hx hb dX10_putRising_38 rfl (lv_at hl 2 rfl) ?_
      have hf := Option.some.inj hf
      subst hf
      exact eRet hx hb hr hlocks hP hD hS ⟨rfl, rfl⟩ dX10_putRising_39
    · have hf := if_f hf c16
      refine lv_iload_n hx hb dX10_putRising_26 rfl (lv_at hl 0 rfl) ?_
      refine lv_iload_n hx hb dX10_putRising_27 rfl (lv_at hl 2 rfl) ?_
      have J40_k17 : ∀  (H : Heap) (locs : List Loc) (ls : Array Slot), lv_has ls 5 [(0, .ref ad_p0), (1, .int p1), (2, .int p2), (3, .int y15)] → va_P G.1 vwCl [(ad_p0, .inl (G.2.1 0, 12, .inl p0))] H → va_D A [(ad_p0, .inl (G.2.1 0, 12, .inl p0))] → va_S A s.heap H locs → fX10_putRising_j40 p1 p2 y15 p0 = some o → wG p l e 0 0 s m [.ref ad_p0, .int p1, .int p2] below meth cd H locs (eQ G A (fun r w => r = (some (.int o.1)) ∧ w = [(ad_p0, .inl (G.2.1 0, 12, .inl o.2))])) A (F0 m 40 ls []) := by
        intro  H locs ls hl hP hD hS hf
        unfold fX10_putRising_j40 at hf
        refine lv_iload_n hx hb dX10_putRising_40 rfl (lv_at hl 1 rfl) ?_
        refine lv_istore (lv' := [(4, .int p1), (0, .ref ad_p0), (1, .int p1), (2, .int p2), (3, .int y15)]) hx hb dX10_putRising_41 hl (by decide) rfl (fun ls hl => ?_)
        obtain ⟨y18, hLy18, hky18⟩ := bn_some hf
        have Ey18 : ∀  (H : Heap) (locs : List Loc) (ls : Array Slot), lv_has ls 5 [(0, .ref ad_p0), (1, .int p1), (2, .int p2), (3, .int y15)] → va_P G.1 vwCl [(ad_p0, .inl (G.2.1 0, 12, .inl y18))] H → va_D A [(ad_p0, .inl (G.2.1 0, 12, .inl y18))] → va_S A s.heap H locs → wG p l e 0 0 s m [.ref ad_p0, .int p1, .int p2] below meth cd H locs (eQ G A (fun r w => r = (some (.int o.1)) ∧ w = [(ad_p0, .inl (G.2.1 0, 12, .inl o.2))])) A (F0 m 65 ls []) := by
          intro  H locs ls hl hP hD hS
          have hf := hky18
          refine lv_aload_n hx hb dX10_putRising_65 rfl (lv_at hl 0 rfl) ?_
          refine lv_iload_n hx hb dX10_putRising_66 rfl (lv_at hl 3 rfl) ?_
          refine lv_iload_n hx hb dX10_putRising_67 rfl (lv_at hl 2 rfl) ?_
          obtain ⟨h19, hf⟩ := gd_some hf
          refine va_iast (D := G.1) (cl := vwCl) hx hb hK hP hD hS 0 0 rfl rfl (gi_in h19) dX10_putRising_68 (fun H locs hP hD hS => ?_)
          have hP : va_P G.1 vwCl [(ad_p0, .inl (G.2.1 0, 12, .inl (upd y18 y15.toNatClampNeg p2)))] H := hP
          have hD : va_D A [(ad_p0, .inl (G.2.1 0, 12, .inl (upd y18 y15.toNatClampNeg p2)))] := hD
          refine lv_iload_n hx hb dX10_putRising_69 rfl (lv_at hl 1 rfl) ?_
          refine lv_iconst (v := 1) hx hb dX10_putRising_70 (by decide) ?_
          refine lv_iadd hx hb dX10_putRising_71 ?_
          have hf := Option.some.inj hf
          subst hf
          exact eRet hx hb hr hlocks hP hD hS ⟨rfl, rfl⟩ dX10_putRising_72
        have Ly18 : ∀ (n : Nat), ∀ (x20 : Int32) (g21 : Nat → Int32) (H : Heap) (locs : List Loc) (ls : Array Slot), lv_has ls 5 [(4, .int x20), (0, .ref ad_p0), (1, .int p1), (2, .int p2), (3, .int y15)] → va_P G.1 vwCl [(ad_p0, .inl (G.2.1 0, 12, .inl g21))] H → va_D A [(ad_p0, .inl (G.2.1 0, 12, .inl g21))] → va_S A s.heap H locs → fX10_putRising_l43 y15 n x20 g21 = some y18 → wG p l e 0 0 s m [.ref ad_p0, .int p1, .int p2] below meth cd H locs (eQ G A (fun r w => r = (some (.int o.1)) ∧ w = [(ad_p0, .inl (G.2.1 0, 12, .inl o.2))])) A (F0 m 43 ls []) := by
          intro n
          induction n with
          | zero =>
            intro x20 g21 H locs ls hl hP hD hS hf
            rw [fX10_putRising_l43] at hf
            cases hf
          | succ n ih =>
            intro x20 g21 H locs ls hl hP hD hS hf
            rw [fX10_putRising_l43] at hf
            refine lv_iload hx hb dX10_putRising_43 (lv_at hl 0 rfl) ?_
            refine lv_iload_n hx hb dX10_putRising_45 rfl (lv_at hl 4 rfl) ?_
            refine lv_icmp_le (tgt := 65) hx hb dX10_putRising_46 (by decide) (fun c22 => ?_) (fun c22 => ?_)
            · have hf := if_t hf c22
              have hf := Option.some.inj hf
              subst hf
              exact Ey18  H locs ls (lv_sub hl [1, 2, 3, 4] rfl) hP hD hS 
            · have hf := if_f hf c22
              refine lv_aload_n hx hb dX10_putRising_49 rfl (lv_at hl 1 rfl) ?_
              refine lv_iload hx hb dX10_putRising_50 (lv_at hl 0 rfl) ?_
              refine lv_aload_n hx hb dX10_putRising_52 rfl (lv_at hl 1 rfl) ?_
              refine lv_iload hx hb dX10_putRising_53 (lv_at hl 0 rfl) ?_
              refine lv_iconst (v := 1) hx hb dX10_putRising_55 (by decide) ?_
              refine lv_isub hx hb dX10_putRising_56 ?_
              obtain ⟨h23, hf⟩ := gd_some hf
              refine va_iald (D := G.1) (cl := vwCl) hx hb hK hP 0 0 rfl rfl (gi_in h23) dX10_putRising_57 ?_
              obtain ⟨h24, hf⟩ := gd_some hf
              refine va_iast (D := G.1) (cl := vwCl) hx hb hK hP hD hS 0 0 rfl rfl (gi_in h24) dX10_putRising_58 (fun H locs hP hD hS => ?_)
              have hP : va_P G.1 vwCl [(ad_p0, .inl (G.2.1 0, 12, .inl (upd g21 x20.toNatClampNeg (g21 (x20 - (1 : Int32)).toNatClampNeg))))] H := hP
              have hD : va_D A [(ad_p0, .inl (G.2.1 0, 12, .inl (upd g21 x20.toNatClampNeg (g21 (x20 - (1 : Int32)).toNatClampNeg))))] := hD
              refine lv_iinc (v := (x20 + (-1 : Int32))) (lv' := [(4, .int (x20 + (-1 : Int32))), (0, .ref ad_p0), (1, .int p1), (2, .int p2), (3, .int y15)]) hx hb dX10_putRising_59 hl (k := 0) rfl (ii_m1 _) (by decide) rfl (fun ls hl => ?_)
              refine lv_goto (tgt := 43) hx hb dX10_putRising_62 (by decide) ?_
              exact ih (x20 + (-1 : Int32)) (upd g21 x20.toNatClampNeg (g21 (x20 - (1 : Int32)).toNatClampNeg)) H locs ls (lv_sub hl [0, 1, 2, 3, 4] rfl) hP hD hS hf
        exact Ly18 FU p1 p0 H locs ls (lv_sub hl [0, 1, 2, 3, 4] rfl) hP hD hS hLy18
      refine lv_icmp_ge (tgt := 40) hx hb dX10_putRising_28 (by decide) (fun c25 => ?_) (fun c25 => ?_)
      · have hf := if_t hf c25
        exact J40_k17  H locs ls (lv_sub hl [1, 2, 3, 0] rfl) hP hD hS hf
      · have hf := if_f hf c25
        refine lv_aload_n hx hb dX10_putRising_31 rfl (lv_at hl 1 rfl) ?_
        refine lv_iload_n hx hb dX10_putRising_32 rfl (lv_at hl 0 rfl) ?_
        obtain ⟨h26, hf⟩ := gd_some hf
        refine va_iald (D := G.1) (cl := vwCl) hx hb hK hP 0 0 rfl rfl (gi_in h26) dX10_putRising_33 ?_
        refine lv_iload_n hx hb dX10_putRising_34 rfl (lv_at hl 3 rfl) ?_
        refine lv_icmp_ne (tgt := 40) hx hb dX10_putRising_35 (by decide) (fun c27 => ?_) (fun c27 => ?_)
        · have hf := if_f hf c27
          exact J40_k17  H locs ls (lv_sub hl [1, 2, 3, 0] rfl) hP hD hS hf
        · have hf := if_t hf c27
          refine lv_iload_n hx hb dX10_putRising_38 rfl (lv_at hl 2 rfl) ?_
          have hf := Option.some.inj hf
          subst hf
          exact eRet hx hb hr hlocks hP hD hS ⟨rfl, rfl⟩ dX10_putRising_39
  have Ly15 : ∀ (n : Nat), ∀ (x28 : Int32) (H : Heap) (locs : List Loc) (ls : Array Slot), lv_has ls 5 [(3, .int x28), (0, .ref ad_p0), (1, .int p1), (2, .int p2)] → va_P G.1 vwCl [(ad_p0, .inl (G.2.1 0, 12, .inl p0))] H → va_D A [(ad_p0, .inl (G.2.1 0, 12, .inl p0))] → va_S A s.heap H locs → fX10_putRising_l2 p1 p2 p0 n x28 = some y15 → wG p l e 0 0 s m [.ref ad_p0, .int p1, .int p2] below meth cd H locs (eQ G A (fun r w => r = (some (.int o.1)) ∧ w = [(ad_p0, .inl (G.2.1 0, 12, .inl o.2))])) A (F0 m 2 ls []) := by
    intro n
    induction n with
    | zero =>
      intro x28 H locs ls hl hP hD hS hf
      rw [fX10_putRising_l2] at hf
      cases hf
    | succ n ih =>
      intro x28 H locs ls hl hP hD hS hf
      rw [fX10_putRising_l2] at hf
      refine lv_iload_n hx hb dX10_putRising_2 rfl (lv_at hl 0 rfl) ?_
      refine lv_iload_n hx hb dX10_putRising_3 rfl (lv_at hl 2 rfl) ?_
      refine lv_icmp_ge (tgt := 20) hx hb dX10_putRising_4 (by decide) (fun c29 => ?_) (fun c29 => ?_)
      · have hf := if_t hf c29
        have hf := Option.some.inj hf
        subst hf
        exact Ey15  H locs ls (lv_sub hl [0, 1, 2, 3] rfl) hP hD hS 
      · have hf := if_f hf c29
        refine lv_aload_n hx hb dX10_putRising_7 rfl (lv_at hl 1 rfl) ?_
        refine lv_iload_n hx hb dX10_putRising_8 rfl (lv_at hl 0 rfl) ?_
        obtain ⟨h30, hf⟩ := gd_some hf
        refine va_iald (D := G.1) (cl := vwCl) hx hb hK hP 0 0 rfl rfl (gi_in h30) dX10_putRising_9 ?_
        refine lv_iload_n hx hb dX10_putRising_10 rfl (lv_at hl 3 rfl) ?_
        refine lv_icmp_ge (tgt := 20) hx hb dX10_putRising_11 (by decide) (fun c31 => ?_) (fun c31 => ?_)
        · have hf := if_t hf c31
          have hf := Option.some.inj hf
          subst hf
          exact Ey15  H locs ls (lv_sub hl [0, 1, 2, 3] rfl) hP hD hS 
        · have hf := if_f hf c31
          refine lv_iinc (v := (x28 + (1 : Int32))) (lv' := [(3, .int (x28 + (1 : Int32))), (0, .ref ad_p0), (1, .int p1), (2, .int p2)]) hx hb dX10_putRising_14 hl (k := 0) rfl (ii_1 _) (by decide) rfl (fun ls hl => ?_)
          refine lv_goto (tgt := 2) hx hb dX10_putRising_17 (by decide) ?_
          exact ih (x28 + (1 : Int32)) H locs ls (lv_sub hl [0, 1, 2, 3] rfl) hP hD hS hf
  exact Ly15 FU (0 : Int32) H locs ls (lv_sub hl [0, 1, 2, 3] rfl) hP hD hS hLy15

def fX10_lineWord (p0 : Int32) : Nat :=
  (if p0 = (0 : Int32) then 0 else (if p0 = (1 : Int32) then 1 else (if p0 = (2 : Int32) then 2 else (if p0 = (3 : Int32) then 3 else (if p0 = (4 : Int32) then 4 else (if p0 = (5 : Int32) then 5 else (if p0 = (6 : Int32) then 6 else 7)))))))
set_option maxRecDepth 100000 in
set_option maxHeartbeats 4000000 in
theorem tX10_lineWord (l : Launch) (G : gG) (p0 : Int32) (o : Nat) (hf : fX10_lineWord p0 = o) : mP G l yX10_lineWord cX10_lineWord 1 (some (.object "java/lang/String")) 0 0 [.int p0] [] (some (.ref (G.2.2.2.1 o))) := by
  refine mP_of (by decide) (Nat.le_of_ble_eq_true rfl) ?_
  intro p e s m below meth cd ls hx hb hml hown hts hr hlocks hl hP hG
  have hK := hG.1
  have hown : s.vm.findClass RX10 = some m.cls := hown
  have hl : lv_has ls 1 [(0, .int p0)] := hl
  have hS : va_S no s.heap s.heap [] := va_S.rf
  generalize ([] : List Loc) = locs at hS ⊢
  unfold fX10_lineWord at hf
  show wG p l e 0 0 s m [.int p0] below meth cd s.heap locs (pQ (some (.ref (G.2.2.2.1 o)))) no (F0 m 0 ls [])
  refine lv_iload_n hx hb dX10_lineWord_0 rfl (lv_at hl 0 rfl) ?_
  by_cases c8 : p0 = (0 : Int32)
  · have hf := if_t hf c8
    refine lv_tableIn (off := 43) (tgt := 44) hx hb dX10_lineWord_1 (by rw [c8]; decide) (by rw [c8]; decide) (by rw [c8]; decide) (by decide) ?_
    refine ga_ldcwS (tx := "words") (q := G.2.2.2.1 0) hx hb hown (hG.2.2.2.2.1 (RX10, 317, "words", 0) (List.mem_of_getElem? (i := 0) rfl)) dX10_lineWord_44 ?_
    subst hf
    exact pRetA hx hb hr hlocks hS dX10_lineWord_47
  · have hf := if_f hf c8
    by_cases c9 : p0 = (1 : Int32)
    · have hf := if_t hf c9
      refine lv_tableIn (off := 47) (tgt := 48) hx hb dX10_lineWord_1 (by rw [c9]; decide) (by rw [c9]; decide) (by rw [c9]; decide) (by decide) ?_
      refine ga_ldcwS (tx := "bits") (q := G.2.2.2.1 1) hx hb hown (hG.2.2.2.2.1 (RX10, 319, "bits", 1) (List.mem_of_getElem? (i := 1) rfl)) dX10_lineWord_48 ?_
      subst hf
      exact pRetA hx hb hr hlocks hS dX10_lineWord_51
    · have hf := if_f hf c9
      by_cases c10 : p0 = (2 : Int32)
      · have hf := if_t hf c10
        refine lv_tableIn (off := 51) (tgt := 52) hx hb dX10_lineWord_1 (by rw [c10]; decide) (by rw [c10]; decide) (by rw [c10]; decide) (by decide) ?_
        refine ga_ldcwS (tx := "mux") (q := G.2.2.2.1 2) hx hb hown (hG.2.2.2.2.1 (RX10, 321, "mux", 2) (List.mem_of_getElem? (i := 2) rfl)) dX10_lineWord_52 ?_
        subst hf
        exact pRetA hx hb hr hlocks hS dX10_lineWord_55
      · have hf := if_f hf c10
        by_cases c11 : p0 = (3 : Int32)
        · have hf := if_t hf c11
          refine lv_tableIn (off := 55) (tgt := 56) hx hb dX10_lineWord_1 (by rw [c11]; decide) (by rw [c11]; decide) (by rw [c11]; decide) (by decide) ?_
          refine ga_ldcwS (tx := "spare") (q := G.2.2.2.1 3) hx hb hown (hG.2.2.2.2.1 (RX10, 322, "spare", 3) (List.mem_of_getElem? (i := 3) rfl)) dX10_lineWord_56 ?_
          subst hf
          exact pRetA hx hb hr hlocks hS dX10_lineWord_59
        · have hf := if_f hf c11
          by_cases c12 : p0 = (4 : Int32)
          · have hf := if_t hf c12
            refine lv_tableIn (off := 59) (tgt := 60) hx hb dX10_lineWord_1 (by rw [c12]; decide) (by rw [c12]; decide) (by rw [c12]; decide) (by decide) ?_
            refine ga_ldcwS (tx := "cell") (q := G.2.2.2.1 4) hx hb hown (hG.2.2.2.2.1 (RX10, 324, "cell", 4) (List.mem_of_getElem? (i := 4) rfl)) dX10_lineWord_60 ?_
            subst hf
            exact pRetA hx hb hr hlocks hS dX10_lineWord_63
          · have hf := if_f hf c12
            by_cases c13 : p0 = (5 : Int32)
            · have hf := if_t hf c13
              refine lv_tableIn (off := 63) (tgt := 64) hx hb dX10_lineWord_1 (by rw [c13]; decide) (by rw [c13]; decide) (by rw [c13]; decide) (by decide) ?_
              refine ga_ldcwS (tx := "margin") (q := G.2.2.2.1 5) hx hb hown (hG.2.2.2.2.1 (RX10, 326, "margin", 5) (List.mem_of_getElem? (i := 5) rfl)) dX10_lineWord_64 ?_
              subst hf
              exact pRetA hx hb hr hlocks hS dX10_lineWord_67
            · have hf := if_f hf c13
              by_cases c14 : p0 = (6 : Int32)
              · have hf := if_t hf c14
                refine lv_tableIn (off := 67) (tgt := 68) hx hb dX10_lineWord_1 (by rw [c14]; decide) (by rw [c14]; decide) (by rw [c14]; decide) (by decide) ?_
                refine ga_ldcwS (tx := "wish") (q := G.2.2.2.1 6) hx hb hown (hG.2.2.2.2.1 (RX10, 328, "wish", 6) (List.mem_of_getElem? (i := 6) rfl)) dX10_lineWord_68 ?_
                subst hf
                exact pRetA hx hb hr hlocks hS dX10_lineWord_71
              · have hf := if_f hf c14
                refine lv_tableOut (tgt := 72) hx hb dX10_lineWord_1 (by have ec8 := sw_ne (k := 0) (by decide) (by decide) c8; have ec9 := sw_ne (k := 1) (by decide) (by decide) c9; have ec10 := sw_ne (k := 2) (by decide) (by decide) c10; have ec11 := sw_ne (k := 3) (by decide) (by decide) c11; have ec12 := sw_ne (k := 4) (by decide) (by decide) c12; have ec13 := sw_ne (k := 5) (by decide) (by decide) c13; have ec14 := sw_ne (k := 6) (by decide) (by decide) c14; omega) (by decide) ?_
                refine ga_ldcwS (tx := "bad") (q := G.2.2.2.1 7) hx hb hown (hG.2.2.2.2.1 (RX10, 330, "bad", 7) (List.mem_of_getElem? (i := 7) rfl)) dX10_lineWord_72 ?_
                subst hf
                exact pRetA hx hb hr hlocks hS dX10_lineWord_75

def fX10_wishWord (p0 : Int32) : Nat :=
  (if p0 = (0 : Int32) then 8 else (if p0 = (1 : Int32) then 9 else 10))
set_option maxRecDepth 100000 in
set_option maxHeartbeats 4000000 in
theorem tX10_wishWord (l : Launch) (G : gG) (p0 : Int32) (o : Nat) (hf : fX10_wishWord p0 = o) : mP G l yX10_wishWord cX10_wishWord 1 (some (.object "java/lang/String")) 0 0 [.int p0] [] (some (.ref (G.2.2.2.1 o))) := by
  refine mP_of (by decide) (Nat.le_of_ble_eq_true rfl) ?_
  intro p e s m below meth cd ls hx hb hml hown hts hr hlocks hl hP hG
  have hK := hG.1
  have hown : s.vm.findClass RX10 = some m.cls := hown
  have hl : lv_has ls 1 [(0, .int p0)] := hl
  have hS : va_S no s.heap s.heap [] := va_S.rf
  generalize ([] : List Loc) = locs at hS ⊢
  unfold fX10_wishWord at hf
  show wG p l e 0 0 s m [.int p0] below meth cd s.heap locs (pQ (some (.ref (G.2.2.2.1 o)))) no (F0 m 0 ls [])
  refine lv_iload_n hx hb dX10_wishWord_0 rfl (lv_at hl 0 rfl) ?_
  by_cases c3 : p0 = (0 : Int32)
  · have hf := if_t hf c3
    refine lv_lookup (off := 27) (tgt := 28) hx hb dX10_wishWord_1 (by decide) (by rw [c3]; decide) (by decide) ?_
    refine ga_ldcwS (tx := "area") (q := G.2.2.2.1 8) hx hb hown (hG.2.2.2.2.1 (RX10, 332, "area", 8) (List.mem_of_getElem? (i := 8) rfl)) dX10_wishWord_28 ?_
    subst hf
    exact pRetA hx hb hr hlocks hS dX10_wishWord_31
  · have hf := if_f hf c3
    by_cases c4 : p0 = (1 : Int32)
    · have hf := if_t hf c4
      refine lv_lookup (off := 31) (tgt := 32) hx hb dX10_wishWord_1 (by decide) (by rw [c4]; decide) (by decide) ?_
      refine ga_ldcwS (tx := "time") (q := G.2.2.2.1 9) hx hb hown (hG.2.2.2.2.1 (RX10, 334, "time", 9) (List.mem_of_getElem? (i := 9) rfl)) dX10_wishWord_32 ?_
      subst hf
      exact pRetA hx hb hr hlocks hS dX10_wishWord_35
    · have hf := if_f hf c4
      refine lv_lookup (off := 35) (tgt := 36) hx hb dX10_wishWord_1 (by decide) (by have ec3 := sw_ne (k := 0) (by decide) (by decide) c3; have ec4 := sw_ne (k := 1) (by decide) (by decide) c4; simp [Op.lookupswitch.offset, ec3, Ne.symm ec3, ec4, Ne.symm ec4]) (by decide) ?_
      refine ga_ldcwS (tx := "square") (q := G.2.2.2.1 10) hx hb hown (hG.2.2.2.2.1 (RX10, 336, "square", 10) (List.mem_of_getElem? (i := 10) rfl)) dX10_wishWord_36 ?_
      subst hf
      exact pRetA hx hb hr hlocks hS dX10_wishWord_39

def fX11_firsts_l2 (x1 : Int32) : Nat → Int32 → (Nat → Int32) → Option ((Nat → Int32))
  | 0, _, _ => none
  | n + 1, x2, t_all =>
    (if (46 : Int32) ≤ x2 then some t_all else gd (gi (x1 + x2) 43047) (fX11_firsts_l2 x1 n (x2 + (1 : Int32)) (upd t_all (x1 + x2).toNatClampNeg (0 : Int32))))
def fX11_firsts (t_all : Nat → Int32) (p0 : Int32) : Option ((Nat → Int32)) :=
  bn (fX11_firsts_l2 p0 FU (0 : Int32) t_all) fun y3 => gd (gi (p0 + (0 : Int32)) 43047) (gd (gi (p0 + (1 : Int32)) 43047) (gd (gi (p0 + (3 : Int32)) 43047) (gd (gi (p0 + (5 : Int32)) 43047) (gd (gi (p0 + (6 : Int32)) 43047) (gd (gi (p0 + (7 : Int32)) 43047) (some (upd (upd (upd (upd (upd (upd y3 (p0 + (0 : Int32)).toNatClampNeg (64 : Int32)) (p0 + (1 : Int32)).toNatClampNeg (8 : Int32)) (p0 + (3 : Int32)).toNatClampNeg (1 : Int32)) (p0 + (5 : Int32)).toNatClampNeg (2 : Int32)) (p0 + (6 : Int32)).toNatClampNeg (3 : Int32)) (p0 + (7 : Int32)).toNatClampNeg (20 : Int32))))))))
set_option maxRecDepth 100000 in
set_option maxHeartbeats 4000000 in
theorem tX11_firsts (l : Launch) (G : gG) (ad_t ad_t_all ad_t_tape ad_t_isImage ad_t_size ad_t_givenRow ad_t_givenColumn ad_t_newRow ad_t_view : Nat) (tI : Nat → Int32) (t_value : Int64) (t_all : Nat → Int32) (p0 : Int32) (o : (Nat → Int32)) (hf : fX11_firsts t_all p0 = some o) : mE G l yX11_firsts cX11_firsts 3 none 0 0 0 0 [.ref ad_t, .int p0] [(ad_t, .inr (11, [.ref ad_t_all, .ref ad_t_tape, .ref ad_t_isImage, .int (tI 3), .int (tI 4), .int (tI 5), .int (tI 6), .ref ad_t_size, .ref ad_t_givenRow, .ref ad_t_givenColumn, .ref ad_t_newRow, .int (tI 11), .int (tI 12), .int (tI 13), .int (tI 14), .int (tI 15), .int (tI 16), .int (tI 17), .int (tI 18), .int (tI 19), .ref ad_t_view, .int (tI 21), .int (tI 22), .int (tI 23), .int (tI 24), .int (tI 25), .long t_value, .int (tI 27), .int (tI 28)])), (ad_t_all, .inl (G.2.1 0, 43047, .inl t_all))] (fun r w => r = none ∧ w = [(ad_t, .inr (11, [.ref ad_t_all, .ref ad_t_tape, .ref ad_t_isImage, .int (tI 3), .int (tI 4), .int (tI 5), .int (tI 6), .ref ad_t_size, .ref ad_t_givenRow, .ref ad_t_givenColumn, .ref ad_t_newRow, .int (tI 11), .int (tI 12), .int (tI 13), .int (tI 14), .int (tI 15), .int (tI 16), .int (tI 17), .int (tI 18), .int (tI 19), .ref ad_t_view, .int (tI 21), .int (tI 22), .int (tI 23), .int (tI 24), .int (tI 25), .long t_value, .int (tI 27), .int (tI 28)])), (ad_t_all, .inl (G.2.1 0, 43047, .inl o))]) := by
  refine mE_of (by decide) (Nat.le_of_ble_eq_true rfl) ?_
  intro p e s m below meth cd ls A hx hb hml hown hts hr hlocks hnm hl hA hP hD hS hG
  have hK := hG.1
  have hown : s.vm.findClass RX11 = some m.cls := hown
  have hl : lv_has ls 3 [(0, .ref ad_t), (1, .int p0)] := hl
  have hS := hS
  unfold fX11_firsts at hf
  obtain ⟨H, locs, eH, eL⟩ : ∃ (H : Heap) (locs : List Loc), H = s.heap ∧ locs = [] := ⟨_, _, rfl, rfl⟩
  have hP : va_P G.1 vwCl [(ad_t, .inr (11, [.ref ad_t_all, .ref ad_t_tape, .ref ad_t_isImage, .int (tI 3), .int (tI 4), .int (tI 5), .int (tI 6), .ref ad_t_size, .ref ad_t_givenRow, .ref ad_t_givenColumn, .ref ad_t_newRow, .int (tI 11), .int (tI 12), .int (tI 13), .int (tI 14), .int (tI 15), .int (tI 16), .int (tI 17), .int (tI 18), .int (tI 19), .ref ad_t_view, .int (tI 21), .int (tI 22), .int (tI 23), .int (tI 24), .int (tI 25), .long t_value, .int (tI 27), .int (tI 28)])), (ad_t_all, .inl (G.2.1 0, 43047, .inl t_all))] H := eH ▸ hP
  have hS : va_S A s.heap H locs := by rw [eH, eL]; exact hS
  suffices hgo : wG p l e 0 0 s m [.ref ad_t, .int p0] below meth cd H locs (eQ G A (fun r w => r = none ∧ w = [(ad_t, .inr (11, [.ref ad_t_all, .ref ad_t_tape, .ref ad_t_isImage, .int (tI 3), .int (tI 4), .int (tI 5), .int (tI 6), .ref ad_t_size, .ref ad_t_givenRow, .ref ad_t_givenColumn, .ref ad_t_newRow, .int (tI 11), .int (tI 12), .int (tI 13), .int (tI 14), .int (tI 15), .int (tI 16), .int (tI 17), .int (tI 18), .int (tI 19), .ref ad_t_view, .int (tI 21), .int (tI 22), .int (tI 23), .int (tI 24), .int (tI 25), .long t_value, .int (tI 27), .int (tI 28)])), (ad_t_all, .inl (G.2.1 0, 43047, .inl o))])) A (F0 m 0 ls []) by rw [eH, eL] at hgo; exact hgo
  clear eH eL
  refine lv_iconst (v := 0) hx hb dX11_firsts_0 (by decide) ?_
  refine lv_istore_n (lv' := [(2, .int (0 : Int32)), (0, .ref ad_t), (1, .int p0)]) hx hb dX11_firsts_1 rfl hl (by decide) rfl (fun ls hl => ?_)
  obtain ⟨y10, hLy10, hky10⟩ := bn_some hf
  have Ey10 : ∀  (H : Heap) (locs : List Loc) (ls : Array Slot), lv_has ls 3 [(0, .ref ad_t), (1, .int p0)] → va_P G.1 vwCl [(ad_t, .inr (11, [.ref ad_t_all, .ref ad_t_tape, .ref ad_t_isImage, .int (tI 3), .int (tI 4), .int (tI 5), .int (tI 6), .ref ad_t_size, .ref ad_t_givenRow, .ref ad_t_givenColumn, .ref ad_t_newRow, .int (tI 11), .int (tI 12), .int (tI 13), .int (tI 14), .int (tI 15), .int (tI 16), .int (tI 17), .int (tI 18), .int (tI 19), .ref ad_t_view, .int (tI 21), .int (tI 22), .int (tI 23), .int (tI 24), .int (tI 25), .long t_value, .int (tI 27), .int (tI 28)])), (ad_t_all, .inl (G.2.1 0, 43047, .inl y10))] H → va_D A [(ad_t, .inr (11, [.ref ad_t_all, .ref ad_t_tape, .ref ad_t_isImage, .int (tI 3), .int (tI 4), .int (tI 5), .int (tI 6), .ref ad_t_size, .ref ad_t_givenRow, .ref ad_t_givenColumn, .ref ad_t_newRow, .int (tI 11), .int (tI 12), .int (tI 13), .int (tI 14), .int (tI 15), .int (tI 16), .int (tI 17), .int (tI 18), .int (tI 19), .ref ad_t_view, .int (tI 21), .int (tI 22), .int (tI 23), .int (tI 24), .int (tI 25), .long t_value, .int (tI 27), .int (tI 28)])), (ad_t_all, .inl (G.2.1 0, 43047, .inl y10))] → va_S A s.heap H locs → wG p l e 0 0 s m [.ref ad_t, .int p0] below meth cd H locs (eQ G A (fun r w => r = none ∧ w = [(ad_t, .inr (11, [.ref ad_t_all, .ref ad_t_tape, .ref ad_t_isImage, .int (tI 3), .int (tI 4), .int (tI 5), .int (tI 6), .ref ad_t_size, .ref ad_t_givenRow, .ref ad_t_givenColumn, .ref ad_t_newRow, .int (tI 11), .int (tI 12), .int (tI 13), .int (tI 14), .int (tI 15), .int (tI 16), .int (tI 17), .int (tI 18), .int (tI 19), .ref ad_t_view, .int (tI 21), .int (tI 22), .int (tI 23), .int (tI 24), .int (tI 25), .long t_value, .int (tI 27), .int (tI 28)])), (ad_t_all, .inl (G.2.1 0, 43047, .inl o))])) A (F0 m 23 ls []) := by
    intro  H locs ls hl hP hD hS
    have hf := hky10
    refine lv_aload_n hx hb dX11_firsts_23 rfl (lv_at hl 0 rfl) ?_
    refine va_get (D := G.1) (cl := vwCl) (ci := 11) (v := .ref ad_t_all) (C := RX11) (T := TX11) (N := 29) hx hb hts inG11 hown hK hP 0 rfl rfl 0 (Nat.le_of_ble_eq_true rfl) (hts _ q1041) (fun _ h9 => h9) rfl dX11_firsts_24 ?_
    refine lv_iload_n hx hb dX11_firsts_27 rfl (lv_at hl 1 rfl) ?_
    refine lv_iconst (v := 0) hx hb dX11_firsts_28 (by decide) ?_
    refine lv_iadd hx hb dX11_firsts_29 ?_
    refine lv_bipush (v := 64) hx hb dX11_firsts_30 (by decide) ?_
    obtain ⟨h11, hf⟩ := gd_some hf
    refine va_iast (D := G.1) (cl := vwCl) hx hb hK hP hD hS 1 0 rfl rfl (gi_in h11) dX11_firsts_32 (fun H locs hP hD hS => ?_)
    have hP : va_P G.1 vwCl [(ad_t, .inr (11, [.ref ad_t_all, .ref ad_t_tape, .ref ad_t_isImage, .int (tI 3), .int (tI 4), .int (tI 5), .int (tI 6), .ref ad_t_size, .ref ad_t_givenRow, .ref ad_t_givenColumn, .ref ad_t_newRow, .int (tI 11), .int (tI 12), .int (tI 13), .int (tI 14), .int (tI 15), .int (tI 16), .int (tI 17), .int (tI 18), .int (tI 19), .ref ad_t_view, .int (tI 21), .int (tI 22), .int (tI 23), .int (tI 24), .int (tI 25), .long t_value, .int (tI 27), .int (tI 28)])), (ad_t_all, .inl (G.2.1 0, 43047, .inl (upd y10 (p0 + (0 : Int32)).toNatClampNeg (64 : Int32))))] H := hP
    have hD : va_D A [(ad_t, .inr (11, [.ref ad_t_all, .ref ad_t_tape, .ref ad_t_isImage, .int (tI 3), .int (tI 4), .int (tI 5), .int (tI 6), .ref ad_t_size, .ref ad_t_givenRow, .ref ad_t_givenColumn, .ref ad_t_newRow, .int (tI 11), .int (tI 12), .int (tI 13), .int (tI 14), .int (tI 15), .int (tI 16), .int (tI 17), .int (tI 18), .int (tI 19), .ref ad_t_view, .int (tI 21), .int (tI 22), .int (tI 23), .int (tI 24), .int (tI 25), .long t_value, .int (tI 27), .int (tI 28)])), (ad_t_all, .inl (G.2.1 0, 43047, .inl (upd y10 (p0 + (0 : Int32)).toNatClampNeg (64 : Int32))))] := hD
    refine lv_aload_n hx hb dX11_firsts_33 rfl (lv_at hl 0 rfl) ?_
    refine va_get (D := G.1) (cl := vwCl) (ci := 11) (v := .ref ad_t_all) (C := RX11) (T := TX11) (N := 29) hx hb hts inG11 hown hK hP 0 rfl rfl 0 (Nat.le_of_ble_eq_true rfl) (hts _ q1041) (fun _ h9 => h9) rfl dX11_firsts_34 ?_
    refine lv_iload_n hx hb dX11_firsts_37 rfl (lv_at hl 1 rfl) ?_
    refine lv_iconst (v := 1) hx hb dX11_firsts_38 (by decide) ?_
    refine lv_iadd hx hb dX11_firsts_39 ?_
    refine lv_bipush (v := 8) hx hb dX11_firsts_40 (by decide) ?_
    obtain ⟨h12, hf⟩ := gd_some hf
    refine va_iast (D := G.1) (cl := vwCl) hx hb hK hP hD hS 1 0 rfl rfl (gi_in h12) dX11_firsts_42 (fun H locs hP hD hS => ?_)
    have hP : va_P G.1 vwCl [(ad_t, .inr (11, [.ref ad_t_all, .ref ad_t_tape, .ref ad_t_isImage, .int (tI 3), .int (tI 4), .int (tI 5), .int (tI 6), .ref ad_t_size, .ref ad_t_givenRow, .ref ad_t_givenColumn, .ref ad_t_newRow, .int (tI 11), .int (tI 12), .int (tI 13), .int (tI 14), .int (tI 15), .int (tI 16), .int (tI 17), .int (tI 18), .int (tI 19), .ref ad_t_view, .int (tI 21), .int (tI 22), .int (tI 23), .int (tI 24), .int (tI 25), .long t_value, .int (tI 27), .int (tI 28)])), (ad_t_all, .inl (G.2.1 0, 43047, .inl (upd (upd y10 (p0 + (0 : Int32)).toNatClampNeg (64 : Int32)) (p0 + (1 : Int32)).toNatClampNeg (8 : Int32))))] H := hP
    have hD : va_D A [(ad_t, .inr (11, [.ref ad_t_all, .ref ad_t_tape, .ref ad_t_isImage, .int (tI 3), .int (tI 4), .int (tI 5), .int (tI 6), .ref ad_t_size, .ref ad_t_givenRow, .ref ad_t_givenColumn, .ref ad_t_newRow, .int (tI 11), .int (tI 12), .int (tI 13), .int (tI 14), .int (tI 15), .int (tI 16), .int (tI 17), .int (tI 18), .int (tI 19), .ref ad_t_view, .int (tI 21), .int (tI 22), .int (tI 23), .int (tI 24), .int (tI 25), .long t_value, .int (tI 27), .int (tI 28)])), (ad_t_all, .inl (G.2.1 0, 43047, .inl (upd (upd y10 (p0 + (0 : Int32)).toNatClampNeg (64 : Int32)) (p0 + (1 : Int32)).toNatClampNeg (8 : Int32))))] := hD
    refine lv_aload_n hx hb dX11_firsts_43 rfl (lv_at hl 0 rfl) ?_
    refine va_get (D := G.1) (cl := vwCl) (ci := 11) (v := .ref ad_t_all) (C := RX11) (T := TX11) (N := 29) hx hb hts inG11 hown hK hP 0 rfl rfl 0 (Nat.le_of_ble_eq_true rfl) (hts _ q1041) (fun _ h9 => h9) rfl dX11_firsts_44 ?_
    refine lv_iload_n hx hb dX11_firsts_47 rfl (lv_at hl 1 rfl) ?_
    refine lv_iconst (v := 3) hx hb dX11_firsts_48 (by decide) ?_
    refine lv_iadd hx hb dX11_firsts_49 ?_
    refine lv_iconst (v := 1) hx hb dX11_firsts_50 (by decide) ?_
    obtain ⟨h13, hf⟩ := gd_some hf
    refine va_iast (D := G.1) (cl := vwCl) hx hb hK hP hD hS 1 0 rfl rfl (gi_in h13) dX11_firsts_51 (fun H locs hP hD hS => ?_)
    have hP : va_P G.1 vwCl [(ad_t, .inr (11, [.ref ad_t_all, .ref ad_t_tape, .ref ad_t_isImage, .int (tI 3), .int (tI 4), .int (tI 5), .int (tI 6), .ref ad_t_size, .ref ad_t_givenRow, .ref ad_t_givenColumn, .ref ad_t_newRow, .int (tI 11), .int (tI 12), .int (tI 13), .int (tI 14), .int (tI 15), .int (tI 16), .int (tI 17), .int (tI 18), .int (tI 19), .ref ad_t_view, .int (tI 21), .int (tI 22), .int (tI 23), .int (tI 24), .int (tI 25), .long t_value, .int (tI 27), .int (tI 28)])), (ad_t_all, .inl (G.2.1 0, 43047, .inl (upd (upd (upd y10 (p0 + (0 : Int32)).toNatClampNeg (64 : Int32)) (p0 + (1 : Int32)).toNatClampNeg (8 : Int32)) (p0 + (3 : Int32)).toNatClampNeg (1 : Int32))))] H := hP
    have hD : va_D A [(ad_t, .inr (11, [.ref ad_t_all, .ref ad_t_tape, .ref ad_t_isImage, .int (tI 3), .int (tI 4), .int (tI 5), .int (tI 6), .ref ad_t_size, .ref ad_t_givenRow, .ref ad_t_givenColumn, .ref ad_t_newRow, .int (tI 11), .int (tI 12), .int (tI 13), .int (tI 14), .int (tI 15), .int (tI 16), .int (tI 17), .int (tI 18), .int (tI 19), .ref ad_t_view, .int (tI 21), .int (tI 22), .int (tI 23), .int (tI 24), .int (tI 25), .long t_value, .int (tI 27), .int (tI 28)])), (ad_t_all, .inl (G.2.1 0, 43047, .inl (upd (upd (upd y10 (p0 + (0 : Int32)).toNatClampNeg (64 : Int32)) (p0 + (1 : Int32)).toNatClampNeg (8 : Int32)) (p0 + (3 : Int32)).toNatClampNeg (1 : Int32))))] := hD
    refine lv_aload_n hx hb dX11_firsts_52 rfl (lv_at hl 0 rfl) ?_
    refine va_get (D := G.1) (cl := vwCl) (ci := 11) (v := .ref ad_t_all) (C := RX11) (T := TX11) (N := 29) hx hb hts inG11 hown hK hP 0 rfl rfl 0 (Nat.le_of_ble_eq_true rfl) (hts _ q1041) (fun _ h9 => h9) rfl dX11_firsts_53 ?_
    refine lv_iload_n hx hb dX11_firsts_56 rfl (lv_at hl 1 rfl) ?_
    refine lv_iconst (v := 5) hx hb dX11_firsts_57 (by decide) ?_
    refine lv_iadd hx hb dX11_firsts_58 ?_
    refine lv_iconst (v := 2) hx hb dX11_firsts_59 (by decide) ?_
    obtain ⟨h14, hf⟩ := gd_some hf
    refine va_iast (D := G.1) (cl := vwCl) hx hb hK hP hD hS 1 0 rfl rfl (gi_in h14) dX11_firsts_60 (fun H locs hP hD hS => ?_)
    have hP : va_P G.1 vwCl [(ad_t, .inr (11, [.ref ad_t_all, .ref ad_t_tape, .ref ad_t_isImage, .int (tI 3), .int (tI 4), .int (tI 5), .int (tI 6), .ref ad_t_size, .ref ad_t_givenRow, .ref ad_t_givenColumn, .ref ad_t_newRow, .int (tI 11), .int (tI 12), .int (tI 13), .int (tI 14), .int (tI 15), .int (tI 16), .int (tI 17), .int (tI 18), .int (tI 19), .ref ad_t_view, .int (tI 21), .int (tI 22), .int (tI 23), .int (tI 24), .int (tI 25), .long t_value, .int (tI 27), .int (tI 28)])), (ad_t_all, .inl (G.2.1 0, 43047, .inl (upd (upd (upd (upd y10 (p0 + (0 : Int32)).toNatClampNeg (64 : Int32)) (p0 + (1 : Int32)).toNatClampNeg (8 : Int32)) (p0 + (3 : Int32)).toNatClampNeg (1 : Int32)) (p0 + (5 : Int32)).toNatClampNeg (2 : Int32))))] H := hP
    have hD : va_D A [(ad_t, .inr (11, [.ref ad_t_all, .ref ad_t_tape, .ref ad_t_isImage, .int (tI 3), .int (tI 4), .int (tI 5), .int (tI 6), .ref ad_t_size, .ref ad_t_givenRow, .ref ad_t_givenColumn, .ref ad_t_newRow, .int (tI 11), .int (tI 12), .int (tI 13), .int (tI 14), .int (tI 15), .int (tI 16), .int (tI 17), .int (tI 18), .int (tI 19), .ref ad_t_view, .int (tI 21), .int (tI 22), .int (tI 23), .int (tI 24), .int (tI 25), .long t_value, .int (tI 27), .int (tI 28)])), (ad_t_all, .inl (G.2.1 0, 43047, .inl (upd (upd (upd (upd y10 (p0 + (0 : Int32)).toNatClampNeg (64 : Int32)) (p0 + (1 : Int32)).toNatClampNeg (8 : Int32)) (p0 + (3 : Int32)).toNatClampNeg (1 : Int32)) (p0 + (5 : Int32)).toNatClampNeg (2 : Int32))))] := hD
    refine lv_aload_n hx hb dX11_firsts_61 rfl (lv_at hl 0 rfl) ?_
    refine va_get (D := G.1) (cl := vwCl) (ci := 11) (v := .ref ad_t_all) (C := RX11) (T := TX11) (N := 29) hx hb hts inG11 hown hK hP 0 rfl rfl 0 (Nat.le_of_ble_eq_true rfl) (hts _ q1041) (fun _ h9 => h9) rfl dX11_firsts_62 ?_
    refine lv_iload_n hx hb dX11_firsts_65 rfl (lv_at hl 1 rfl) ?_
    refine lv_bipush (v := 6) hx hb dX11_firsts_66 (by decide) ?_
    refine lv_iadd hx hb dX11_firsts_68 ?_
    refine lv_iconst (v := 3) hx hb dX11_firsts_69 (by decide) ?_
    obtain ⟨h15, hf⟩ := gd_some hf
    refine va_iast (D := G.1) (cl := vwCl) hx hb hK hP hD hS 1 0 rfl rfl (gi_in h15) dX11_firsts_70 (fun H locs hP hD hS => ?_)
    have hP : va_P G.1 vwCl [(ad_t, .inr (11, [.ref ad_t_all, .ref ad_t_tape, .ref ad_t_isImage, .int (tI 3), .int (tI 4), .int (tI 5), .int (tI 6), .ref ad_t_size, .ref ad_t_givenRow, .ref ad_t_givenColumn, .ref ad_t_newRow, .int (tI 11), .int (tI 12), .int (tI 13), .int (tI 14), .int (tI 15), .int (tI 16), .int (tI 17), .int (tI 18), .int (tI 19), .ref ad_t_view, .int (tI 21), .int (tI 22), .int (tI 23), .int (tI 24), .int (tI 25), .long t_value, .int (tI 27), .int (tI 28)])), (ad_t_all, .inl (G.2.1 0, 43047, .inl (upd (upd (upd (upd (upd y10 (p0 + (0 : Int32)).toNatClampNeg (64 : Int32)) (p0 + (1 : Int32)).toNatClampNeg (8 : Int32)) (p0 + (3 : Int32)).toNatClampNeg (1 : Int32)) (p0 + (5 : Int32)).toNatClampNeg (2 : Int32)) (p0 + (6 : Int32)).toNatClampNeg (3 : Int32))))] H := hP
    have hD : va_D A [(ad_t, .inr (11, [.ref ad_t_all, .ref ad_t_tape, .ref ad_t_isImage, .int (tI 3), .int (tI 4), .int (tI 5), .int (tI 6), .ref ad_t_size, .ref ad_t_givenRow, .ref ad_t_givenColumn, .ref ad_t_newRow, .int (tI 11), .int (tI 12), .int (tI 13), .int (tI 14), .int (tI 15), .int (tI 16), .int (tI 17), .int (tI 18), .int (tI 19), .ref ad_t_view, .int (tI 21), .int (tI 22), .int (tI 23), .int (tI 24), .int (tI 25), .long t_value, .int (tI 27), .int (tI 28)])), (ad_t_all, .inl (G.2.1 0, 43047, .inl (upd (upd (upd (upd (upd y10 (p0 + (0 : Int32)).toNatClampNeg (64 : Int32)) (p0 + (1 : Int32)).toNatClampNeg (8 : Int32)) (p0 + (3 : Int32)).toNatClampNeg (1 : Int32)) (p0 + (5 : Int32)).toNatClampNeg (2 : Int32)) (p0 + (6 : Int32)).toNatClampNeg (3 : Int32))))] := hD
    refine lv_aload_n hx hb dX11_firsts_71 rfl (lv_at hl 0 rfl) ?_
    refine va_get (D := G.1) (cl := vwCl) (ci := 11) (v := .ref ad_t_all) (C := RX11) (T := TX11) (N := 29) hx hb hts inG11 hown hK hP 0 rfl rfl 0 (Nat.le_of_ble_eq_true rfl) (hts _ q1041) (fun _ h9 => h9) rfl dX11_firsts_72 ?_
    refine lv_iload_n hx hb dX11_firsts_75 rfl (lv_at hl 1 rfl) ?_
    refine lv_bipush (v := 7) hx hb dX11_firsts_76 (by decide) ?_
    refine lv_iadd hx hb dX11_firsts_78 ?_
    refine lv_bipush (v := 20) hx hb dX11_firsts_79 (by decide) ?_
    obtain ⟨h16, hf⟩ := gd_some hf
    refine va_iast (D := G.1) (cl := vwCl) hx hb hK hP hD hS 1 0 rfl rfl (gi_in h16) dX11_firsts_81 (fun H locs hP hD hS => ?_)
    have hP : va_P G.1 vwCl [(ad_t, .inr (11, [.ref ad_t_all, .ref ad_t_tape, .ref ad_t_isImage, .int (tI 3), .int (tI 4), .int (tI 5), .int (tI 6), .ref ad_t_size, .ref ad_t_givenRow, .ref ad_t_givenColumn, .ref ad_t_newRow, .int (tI 11), .int (tI 12), .int (tI 13), .int (tI 14), .int (tI 15), .int (tI 16), .int (tI 17), .int (tI 18), .int (tI 19), .ref ad_t_view, .int (tI 21), .int (tI 22), .int (tI 23), .int (tI 24), .int (tI 25), .long t_value, .int (tI 27), .int (tI 28)])), (ad_t_all, .inl (G.2.1 0, 43047, .inl (upd (upd (upd (upd (upd (upd y10 (p0 + (0 : Int32)).toNatClampNeg (64 : Int32)) (p0 + (1 : Int32)).toNatClampNeg (8 : Int32)) (p0 + (3 : Int32)).toNatClampNeg (1 : Int32)) (p0 + (5 : Int32)).toNatClampNeg (2 : Int32)) (p0 + (6 : Int32)).toNatClampNeg (3 : Int32)) (p0 + (7 : Int32)).toNatClampNeg (20 : Int32))))] H := hP
    have hD : va_D A [(ad_t, .inr (11, [.ref ad_t_all, .ref ad_t_tape, .ref ad_t_isImage, .int (tI 3), .int (tI 4), .int (tI 5), .int (tI 6), .ref ad_t_size, .ref ad_t_givenRow, .ref ad_t_givenColumn, .ref ad_t_newRow, .int (tI 11), .int (tI 12), .int (tI 13), .int (tI 14), .int (tI 15), .int (tI 16), .int (tI 17), .int (tI 18), .int (tI 19), .ref ad_t_view, .int (tI 21), .int (tI 22), .int (tI 23), .int (tI 24), .int (tI 25), .long t_value, .int (tI 27), .int (tI 28)])), (ad_t_all, .inl (G.2.1 0, 43047, .inl (upd (upd (upd (upd (upd (upd y10 (p0 + (0 : Int32)).toNatClampNeg (64 : Int32)) (p0 + (1 : Int32)).toNatClampNeg (8 : Int32)) (p0 + (3 : Int32)).toNatClampNeg (1 : Int32)) (p0 + (5 : Int32)).toNatClampNeg (2 : Int32)) (p0 + (6 : Int32)).toNatClampNeg (3 : Int32)) (p0 + (7 : Int32)).toNatClampNeg (20 : Int32))))] := hD
    have hf := Option.some.inj hf
    subst hf
    exact eRetV hx hb hr hlocks hP hD hS ⟨rfl, rfl⟩ dX11_firsts_82
  have Ly10 : ∀ (n : Nat), ∀ (x17 : Int32) (g18 : Nat → Int32) (H : Heap) (locs : List Loc) (ls : Array Slot), lv_has ls 3 [(2, .int x17), (0, .ref ad_t), (1, .int p0)] → va_P G.1 vwCl [(ad_t, .inr (11, [.ref ad_t_all, .ref ad_t_tape, .ref ad_t_isImage, .int (tI 3), .int (tI 4), .int (tI 5), .int (tI 6), .ref ad_t_size, .ref ad_t_givenRow, .ref ad_t_givenColumn, .ref ad_t_newRow, .int (tI 11), .int (tI 12), .int (tI 13), .int (tI 14), .int (tI 15), .int (tI 16), .int (tI 17), .int (tI 18), .int (tI 19), .ref ad_t_view, .int (tI 21), .int (tI 22), .int (tI 23), .int (tI 24), .int (tI 25), .long t_value, .int (tI 27), .int (tI 28)])), (ad_t_all, .inl (G.2.1 0, 43047, .inl g18))] H → va_D A [(ad_t, .inr (11, [.ref ad_t_all, .ref ad_t_tape, .ref ad_t_isImage, .int (tI 3), .int (tI 4), .int (tI 5), .int (tI 6), .ref ad_t_size, .ref ad_t_givenRow, .ref ad_t_givenColumn, .ref ad_t_newRow, .int (tI 11), .int (tI 12), .int (tI 13), .int (tI 14), .int (tI 15), .int (tI 16), .int (tI 17), .int (tI 18), .int (tI 19), .ref ad_t_view, .int (tI 21), .int (tI 22), .int (tI 23), .int (tI 24), .int (tI 25), .long t_value, .int (tI 27), .int (tI 28)])), (ad_t_all, .inl (G.2.1 0, 43047, .inl g18))] → va_S A s.heap H locs → fX11_firsts_l2 p0 n x17 g18 = some y10 → wG p l e 0 0 s m [.ref ad_t, .int p0] below meth cd H locs (eQ G A (fun r w => r = none ∧ w = [(ad_t, .inr (11, [.ref ad_t_all, .ref ad_t_tape, .ref ad_t_isImage, .int (tI 3), .int (tI 4), .int (tI 5), .int (tI 6), .ref ad_t_size, .ref ad_t_givenRow, .ref ad_t_givenColumn, .ref ad_t_newRow, .int (tI 11), .int (tI 12), .int (tI 13), .int (tI 14), .int (tI 15), .int (tI 16), .int (tI 17), .int (tI 18), .int (tI 19), .ref ad_t_view, .int (tI 21), .int (tI 22), .int (tI 23), .int (tI 24), .int (tI 25), .long t_value, .int (tI 27), .int (tI 28)])), (ad_t_all, .inl (G.2.1 0, 43047, .inl o))])) A (F0 m 2 ls []) := by
    intro n
    induction n with
    | zero =>
      intro x17 g18 H locs ls hl hP hD hS hf
      rw [fX11_firsts_l2] at hf
      cases hf
    | succ n ih =>
      intro x17 g18 H locs ls hl hP hD hS hf
      rw [fX11_firsts_l2] at hf
      refine lv_iload_n hx hb dX11_firsts_2 rfl (lv_at hl 0 rfl) ?_
      refine lv_bipush (v := 46) hx hb dX11_firsts_3 (by decide) ?_
      refine lv_icmp_ge (tgt := 23) hx hb dX11_firsts_5 (by decide) (fun c19 => ?_) (fun c19 => ?_)
      · have hf := if_t hf c19
        have hf := Option.some.inj hf
        subst hf
        exact Ey10  H locs ls (lv_sub hl [1, 2] rfl) hP hD hS 
      · have hf := if_f hf c19
        refine lv_aload_n hx hb dX11_firsts_8 rfl (lv_at hl 1 rfl) ?_
        refine va_get (D := G.1) (cl := vwCl) (ci := 11) (v := .ref ad_t_all) (C := RX11) (T := TX11) (N := 29) hx hb hts inG11 hown hK hP 0 rfl rfl 0 (Nat.le_of_ble_eq_true rfl) (hts _ q1041) (fun _ h9 => h9) rfl dX11_firsts_9 ?_
        refine lv_iload_n hx hb dX11_firsts_12 rfl (lv_at hl 2 rfl) ?_
        refine lv_iload_n hx hb dX11_firsts_13 rfl (lv_at hl 0 rfl) ?_
        refine lv_iadd hx hb dX11_firsts_14 ?_
        refine lv_iconst (v := 0) hx hb dX11_firsts_15 (by decide) ?_
        obtain ⟨h20, hf⟩ := gd_some hf
        refine va_iast (D := G.1) (cl := vwCl) hx hb hK hP hD hS 1 0 rfl rfl (gi_in h20) dX11_firsts_16 (fun H locs hP hD hS => ?_)
        have hP : va_P G.1 vwCl [(ad_t, .inr (11, [.ref ad_t_all, .ref ad_t_tape, .ref ad_t_isImage, .int (tI 3), .int (tI 4), .int (tI 5), .int (tI 6), .ref ad_t_size, .ref ad_t_givenRow, .ref ad_t_givenColumn, .ref ad_t_newRow, .int (tI 11), .int (tI 12), .int (tI 13), .int (tI 14), .int (tI 15), .int (tI 16), .int (tI 17), .int (tI 18), .int (tI 19), .ref ad_t_view, .int (tI 21), .int (tI 22), .int (tI 23), .int (tI 24), .int (tI 25), .long t_value, .int (tI 27), .int (tI 28)])), (ad_t_all, .inl (G.2.1 0, 43047, .inl (upd g18 (p0 + x17).toNatClampNeg (0 : Int32))))] H := hP
        have hD : va_D A [(ad_t, .inr (11, [.ref ad_t_all, .ref ad_t_tape, .ref ad_t_isImage, .int (tI 3), .int (tI 4), .int (tI 5), .int (tI 6), .ref ad_t_size, .ref ad_t_givenRow, .ref ad_t_givenColumn, .ref ad_t_newRow, .int (tI 11), .int (tI 12), .int (tI 13), .int (tI 14), .int (tI 15), .int (tI 16), .int (tI 17), .int (tI 18), .int (tI 19), .ref ad_t_view, .int (tI 21), .int (tI 22), .int (tI 23), .int (tI 24), .int (tI 25), .long t_value, .int (tI 27), .int (tI 28)])), (ad_t_all, .inl (G.2.1 0, 43047, .inl (upd g18 (p0 + x17).toNatClampNeg (0 : Int32))))] := hD
        refine lv_iinc (v := (x17 + (1 : Int32))) (lv' := [(2, .int (x17 + (1 : Int32))), (0, .ref ad_t), (1, .int p0)]) hx hb dX11_firsts_17 hl (k := 0) rfl (ii_1 _) (by decide) rfl (fun ls hl => ?_)
        refine lv_goto (tgt := 2) hx hb dX11_firsts_20 (by decide) ?_
        exact ih (x17 + (1 : Int32)) (upd g18 (p0 + x17).toNatClampNeg (0 : Int32)) H locs ls (lv_sub hl [0, 1, 2] rfl) hP hD hS hf
  exact Ly10 FU (0 : Int32) t_all H locs ls (lv_sub hl [0, 1, 2] rfl) hP hD hS hLy10

def fX11_isIn (p0 : Int32) (p1 : Int32) (p2 : Int32) : Bool :=
  (if p0 < p1 then false else (if p2 < p0 then false else true))
set_option maxRecDepth 100000 in
set_option maxHeartbeats 4000000 in
theorem tX11_isIn (l : Launch) (G : gG) (p0 : Int32) (p1 : Int32) (p2 : Int32) (o : Bool) (hf : fX11_isIn p0 p1 p2 = o) : mP G l yX11_isIn cX11_isIn 3 (some .boolean) 0 0 [.int p0, .int p1, .int p2] [] (some (.int (bi o))) := by
  refine mP_of (by decide) (Nat.le_of_ble_eq_true rfl) ?_
  intro p e s m below meth cd ls hx hb hml hown hts hr hlocks hl hP hG
  have hK := hG.1
  have hown : s.vm.findClass RX11 = some m.cls := hown
  have hl : lv_has ls 3 [(0, .int p0), (1, .int p1), (2, .int p2)] := hl
  have hS : va_S no s.heap s.heap [] := va_S.rf
  generalize ([] : List Loc) = locs at hS ⊢
  unfold fX11_isIn at hf
  show wG p l e 0 0 s m [.int p0, .int p1, .int p2] below meth cd s.heap locs (pQ (some (.int (bi o)))) no (F0 m 0 ls [])
  refine lv_iload_n hx hb dX11_isIn_0 rfl (lv_at hl 0 rfl) ?_
  refine lv_iload_n hx hb dX11_isIn_1 rfl (lv_at hl 1 rfl) ?_
  refine lv_icmp_lt (tgt := 14) hx hb dX11_isIn_2 (by decide) (fun c3 => ?_) (fun c3 => ?_)
  · have hf := if_t hf c3
    refine lv_iconst (v := 0) hx hb dX11_isIn_14 (by decide) ?_
    subst hf
    exact pRetZ (v := false) hx hb hr hlocks hS dX11_isIn_15
  · have hf := if_f hf c3
    refine lv_iload_n hx hb dX11_isIn_5 rfl (lv_at hl 0 rfl) ?_
    refine lv_iload_n hx hb dX11_isIn_6 rfl (lv_at hl 2 rfl) ?_
    refine lv_icmp_gt (tgt := 14) hx hb dX11_isIn_7 (by decide) (fun c4 => ?_) (fun c4 => ?_)
    · have hf := if_t hf c4
      refine lv_iconst (v := 0) hx hb dX11_isIn_14 (by decide) ?_
      subst hf
      exact pRetZ (v := false) hx hb hr hlocks hS dX11_isIn_15
    · have hf := if_f hf c4
      refine lv_iconst (v := 1) hx hb dX11_isIn_10 (by decide) ?_
      refine lv_goto (tgt := 15) hx hb dX11_isIn_11 (by decide) ?_
      subst hf
      exact pRetZ (v := true) hx hb hr hlocks hS dX11_isIn_15
